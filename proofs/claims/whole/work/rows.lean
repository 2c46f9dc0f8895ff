section
-- ===== PART A: goes FIRST, ahead of the names: the tables' words, and 'selects' of the private methods out of them =====
/-- a private method of a class that the tables say can be made, by its rows of tables_1 -/
def lw_okq (q : MethodName × Nat) : Prop := (q.1.cls ≠ "java/lang/invoke/MethodHandle" ∧ q.1.cls ≠ "java/lang/invoke/VarHandle") ∧ Cond.instantiable q.1.cls q.2 ∈ tables_1 ∧ Cond.privateMethod q.1 ∈ tables_1 ∧ Cond.instanceMethod q.1 ∈ tables_1
theorem lw_p0 : lw_okq (⟨"PolynomialHeap", "allTerms", "()I"⟩, 7) := ⟨⟨by decide +kernel, by decide +kernel⟩, List.mem_of_getElem? (i := 18) (by decide +kernel), List.mem_of_getElem? (i := 137) (by decide +kernel), List.mem_of_getElem? (i := 138) (by decide +kernel)⟩
theorem lw_p1 : lw_okq (⟨"PolynomialHeap", "zeroRegisters", "()I"⟩, 7) := ⟨⟨by decide +kernel, by decide +kernel⟩, List.mem_of_getElem? (i := 18) (by decide +kernel), List.mem_of_getElem? (i := 141) (by decide +kernel), List.mem_of_getElem? (i := 142) (by decide +kernel)⟩
theorem lw_p2 : lw_okq (⟨"PolynomialHeap", "greatestDegree", "()I"⟩, 7) := ⟨⟨by decide +kernel, by decide +kernel⟩, List.mem_of_getElem? (i := 18) (by decide +kernel), List.mem_of_getElem? (i := 149) (by decide +kernel), List.mem_of_getElem? (i := 150) (by decide +kernel)⟩
theorem lw_p3 : lw_okq (⟨"java/lang/Throwable", "fillInStackTrace", "(I)Ljava/lang/Throwable;"⟩, 6) := ⟨⟨by decide +kernel, by decide +kernel⟩, List.mem_of_getElem? (i := 213) (by decide +kernel), List.mem_of_getElem? (i := 211) (by decide +kernel), List.mem_of_getElem? (i := 212) (by decide +kernel)⟩
theorem lw_p4 : lw_okq (⟨"PolynomialHeap$Sheet", "addTerm", "(III)V"⟩, 5) := ⟨⟨by decide +kernel, by decide +kernel⟩, List.mem_of_getElem? (i := 49) (by decide +kernel), List.mem_of_getElem? (i := 319) (by decide +kernel), List.mem_of_getElem? (i := 320) (by decide +kernel)⟩
theorem lw_p5 : lw_okq (⟨"PolynomialHeap$Sheet", "rankOf", "(I)I"⟩, 5) := ⟨⟨by decide +kernel, by decide +kernel⟩, List.mem_of_getElem? (i := 49) (by decide +kernel), List.mem_of_getElem? (i := 323) (by decide +kernel), List.mem_of_getElem? (i := 324) (by decide +kernel)⟩
theorem lw_p6 : lw_okq (⟨"PolynomialHeap", "refuse", "()Z"⟩, 7) := ⟨⟨by decide +kernel, by decide +kernel⟩, List.mem_of_getElem? (i := 18) (by decide +kernel), List.mem_of_getElem? (i := 359) (by decide +kernel), List.mem_of_getElem? (i := 360) (by decide +kernel)⟩
theorem lw_p7 : lw_okq (⟨"PolynomialHeap", "exchangeSpare", "(I)V"⟩, 7) := ⟨⟨by decide +kernel, by decide +kernel⟩, List.mem_of_getElem? (i := 18) (by decide +kernel), List.mem_of_getElem? (i := 375) (by decide +kernel), List.mem_of_getElem? (i := 376) (by decide +kernel)⟩
theorem lw_p8 : lw_okq (⟨"PolynomialHeap", "addExpansion", "(ILPolynomialHeap$Polynomial;II)V"⟩, 7) := ⟨⟨by decide +kernel, by decide +kernel⟩, List.mem_of_getElem? (i := 18) (by decide +kernel), List.mem_of_getElem? (i := 445) (by decide +kernel), List.mem_of_getElem? (i := 446) (by decide +kernel)⟩
theorem lw_p9 : lw_okq (⟨"PolynomialHeapModel", "fails", "(ZZ)Z"⟩, 14) := ⟨⟨by decide +kernel, by decide +kernel⟩, List.mem_of_getElem? (i := 516) (by decide +kernel), List.mem_of_getElem? (i := 583) (by decide +kernel), List.mem_of_getElem? (i := 584) (by decide +kernel)⟩
theorem lw_p10 : lw_okq (⟨"PolynomialHeapModel", "reduced", "(J)I"⟩, 14) := ⟨⟨by decide +kernel, by decide +kernel⟩, List.mem_of_getElem? (i := 516) (by decide +kernel), List.mem_of_getElem? (i := 590) (by decide +kernel), List.mem_of_getElem? (i := 591) (by decide +kernel)⟩
theorem lw_p11 : lw_okq (⟨"PolynomialHeapModel", "keep", "(I[I)V"⟩, 14) := ⟨⟨by decide +kernel, by decide +kernel⟩, List.mem_of_getElem? (i := 516) (by decide +kernel), List.mem_of_getElem? (i := 594) (by decide +kernel), List.mem_of_getElem? (i := 595) (by decide +kernel)⟩
theorem lw_p12 : lw_okq (⟨"PolynomialHeapModel", "place", "(III)I"⟩, 14) := ⟨⟨by decide +kernel, by decide +kernel⟩, List.mem_of_getElem? (i := 516) (by decide +kernel), List.mem_of_getElem? (i := 605) (by decide +kernel), List.mem_of_getElem? (i := 606) (by decide +kernel)⟩
theorem lw_p13 : lw_okq (⟨"PolynomialHeapModel", "load", "(I[I)V"⟩, 14) := ⟨⟨by decide +kernel, by decide +kernel⟩, List.mem_of_getElem? (i := 516) (by decide +kernel), List.mem_of_getElem? (i := 613) (by decide +kernel), List.mem_of_getElem? (i := 614) (by decide +kernel)⟩
theorem lw_p14 : lw_okq (⟨"PolynomialHeapModel", "degreeOf", "([II)I"⟩, 14) := ⟨⟨by decide +kernel, by decide +kernel⟩, List.mem_of_getElem? (i := 516) (by decide +kernel), List.mem_of_getElem? (i := 621) (by decide +kernel), List.mem_of_getElem? (i := 622) (by decide +kernel)⟩
theorem lw_p15 : lw_okq (⟨"PolynomialHeapModel", "exponent", "(II)I"⟩, 14) := ⟨⟨by decide +kernel, by decide +kernel⟩, List.mem_of_getElem? (i := 516) (by decide +kernel), List.mem_of_getElem? (i := 625) (by decide +kernel), List.mem_of_getElem? (i := 626) (by decide +kernel)⟩
def lw_privs_1 : List (MethodName × Nat) := [(⟨"PolynomialHeap", "allTerms", "()I"⟩, 7), (⟨"PolynomialHeap", "zeroRegisters", "()I"⟩, 7), (⟨"PolynomialHeap", "greatestDegree", "()I"⟩, 7), (⟨"java/lang/Throwable", "fillInStackTrace", "(I)Ljava/lang/Throwable;"⟩, 6), (⟨"PolynomialHeap$Sheet", "addTerm", "(III)V"⟩, 5), (⟨"PolynomialHeap$Sheet", "rankOf", "(I)I"⟩, 5), (⟨"PolynomialHeap", "refuse", "()Z"⟩, 7), (⟨"PolynomialHeap", "exchangeSpare", "(I)V"⟩, 7), (⟨"PolynomialHeap", "addExpansion", "(ILPolynomialHeap$Polynomial;II)V"⟩, 7), (⟨"PolynomialHeapModel", "fails", "(ZZ)Z"⟩, 14), (⟨"PolynomialHeapModel", "reduced", "(J)I"⟩, 14), (⟨"PolynomialHeapModel", "keep", "(I[I)V"⟩, 14), (⟨"PolynomialHeapModel", "place", "(III)I"⟩, 14), (⟨"PolynomialHeapModel", "load", "(I[I)V"⟩, 14), (⟨"PolynomialHeapModel", "degreeOf", "([II)I"⟩, 14), (⟨"PolynomialHeapModel", "exponent", "(II)I"⟩, 14)]
theorem lw_r1 : ∀ q ∈ lw_privs_1, lw_okq q := List.forall_mem_cons.mpr ⟨lw_p0, List.forall_mem_cons.mpr ⟨lw_p1, List.forall_mem_cons.mpr ⟨lw_p2, List.forall_mem_cons.mpr ⟨lw_p3, List.forall_mem_cons.mpr ⟨lw_p4, List.forall_mem_cons.mpr ⟨lw_p5, List.forall_mem_cons.mpr ⟨lw_p6, List.forall_mem_cons.mpr ⟨lw_p7, List.forall_mem_cons.mpr ⟨lw_p8, List.forall_mem_cons.mpr ⟨lw_p9, List.forall_mem_cons.mpr ⟨lw_p10, List.forall_mem_cons.mpr ⟨lw_p11, List.forall_mem_cons.mpr ⟨lw_p12, List.forall_mem_cons.mpr ⟨lw_p13, List.forall_mem_cons.mpr ⟨lw_p14, List.forall_mem_cons.mpr ⟨lw_p15, fun _ h => absurd h List.not_mem_nil⟩⟩⟩⟩⟩⟩⟩⟩⟩⟩⟩⟩⟩⟩⟩⟩
theorem lw_p16 : lw_okq (⟨"PolynomialHeapModel", "refuses", "(Z)Z"⟩, 14) := ⟨⟨by decide +kernel, by decide +kernel⟩, List.mem_of_getElem? (i := 516) (by decide +kernel), List.mem_of_getElem? (i := 629) (by decide +kernel), List.mem_of_getElem? (i := 630) (by decide +kernel)⟩
theorem lw_p17 : lw_okq (⟨"PolynomialHeapModel", "times", "([I[I)V"⟩, 14) := ⟨⟨by decide +kernel, by decide +kernel⟩, List.mem_of_getElem? (i := 516) (by decide +kernel), List.mem_of_getElem? (i := 633) (by decide +kernel), List.mem_of_getElem? (i := 634) (by decide +kernel)⟩
theorem lw_p18 : lw_okq (⟨"PolynomialHeapModel", "gather", "([II[II[IIZ)V"⟩, 14) := ⟨⟨by decide +kernel, by decide +kernel⟩, List.mem_of_getElem? (i := 516) (by decide +kernel), List.mem_of_getElem? (i := 637) (by decide +kernel), List.mem_of_getElem? (i := 638) (by decide +kernel)⟩
theorem lw_p19 : lw_okq (⟨"PolynomialHeapModel", "inverse", "(I)I"⟩, 14) := ⟨⟨by decide +kernel, by decide +kernel⟩, List.mem_of_getElem? (i := 516) (by decide +kernel), List.mem_of_getElem? (i := 655) (by decide +kernel), List.mem_of_getElem? (i := 656) (by decide +kernel)⟩
theorem lw_p20 : lw_okq (⟨"PolynomialHeapModel", "part", "([III)V"⟩, 14) := ⟨⟨by decide +kernel, by decide +kernel⟩, List.mem_of_getElem? (i := 516) (by decide +kernel), List.mem_of_getElem? (i := 667) (by decide +kernel), List.mem_of_getElem? (i := 668) (by decide +kernel)⟩
theorem lw_p21 : lw_okq (⟨"PolynomialHeapModel", "entry", "([IIII)V"⟩, 14) := ⟨⟨by decide +kernel, by decide +kernel⟩, List.mem_of_getElem? (i := 516) (by decide +kernel), List.mem_of_getElem? (i := 675) (by decide +kernel), List.mem_of_getElem? (i := 676) (by decide +kernel)⟩
theorem lw_p22 : lw_okq (⟨"PolynomialHeapModel", "determinant", "(I)V"⟩, 14) := ⟨⟨by decide +kernel, by decide +kernel⟩, List.mem_of_getElem? (i := 516) (by decide +kernel), List.mem_of_getElem? (i := 679) (by decide +kernel), List.mem_of_getElem? (i := 680) (by decide +kernel)⟩
theorem lw_p23 : lw_okq (⟨"PolynomialHeapModel", "cross", "(IIIZ)V"⟩, 14) := ⟨⟨by decide +kernel, by decide +kernel⟩, List.mem_of_getElem? (i := 516) (by decide +kernel), List.mem_of_getElem? (i := 686) (by decide +kernel), List.mem_of_getElem? (i := 687) (by decide +kernel)⟩
theorem lw_p24 : lw_okq (⟨"PolynomialHeapModel", "counted", "(I)I"⟩, 14) := ⟨⟨by decide +kernel, by decide +kernel⟩, List.mem_of_getElem? (i := 516) (by decide +kernel), List.mem_of_getElem? (i := 698) (by decide +kernel), List.mem_of_getElem? (i := 699) (by decide +kernel)⟩
def lw_privs_2 : List (MethodName × Nat) := [(⟨"PolynomialHeapModel", "refuses", "(Z)Z"⟩, 14), (⟨"PolynomialHeapModel", "times", "([I[I)V"⟩, 14), (⟨"PolynomialHeapModel", "gather", "([II[II[IIZ)V"⟩, 14), (⟨"PolynomialHeapModel", "inverse", "(I)I"⟩, 14), (⟨"PolynomialHeapModel", "part", "([III)V"⟩, 14), (⟨"PolynomialHeapModel", "entry", "([IIII)V"⟩, 14), (⟨"PolynomialHeapModel", "determinant", "(I)V"⟩, 14), (⟨"PolynomialHeapModel", "cross", "(IIIZ)V"⟩, 14), (⟨"PolynomialHeapModel", "counted", "(I)I"⟩, 14)]
theorem lw_r2 : ∀ q ∈ lw_privs_2, lw_okq q := List.forall_mem_cons.mpr ⟨lw_p16, List.forall_mem_cons.mpr ⟨lw_p17, List.forall_mem_cons.mpr ⟨lw_p18, List.forall_mem_cons.mpr ⟨lw_p19, List.forall_mem_cons.mpr ⟨lw_p20, List.forall_mem_cons.mpr ⟨lw_p21, List.forall_mem_cons.mpr ⟨lw_p22, List.forall_mem_cons.mpr ⟨lw_p23, List.forall_mem_cons.mpr ⟨lw_p24, fun _ h => absurd h List.not_mem_nil⟩⟩⟩⟩⟩⟩⟩⟩⟩
def lw_privs : List (MethodName × Nat) := lw_privs_1 ++ (lw_privs_2)
def lw_tbl : List Cond := k2_sels lw_privs ++ tables_1
theorem lw_privs_ok : ∀ q ∈ lw_privs, lw_okq q := by
  show ∀ q ∈ lw_privs_1 ++ (lw_privs_2), lw_okq q
  exact List.forall_mem_append.mpr ⟨lw_r1, lw_r2⟩
end
section
/-! ===== BEGIN words of one list among another's, by their places ===== -/
theorem goodIn_r {big : List Cond} (ws : List Cond) (ps : List Nat) (hp : ws = ps.filterMap (fun i => big[i]?)) (h : ws.all goodWord = true) : GoodIn big ws := by
  intro w hw
  have h1 := List.all_eq_true.mp h w hw
  rw [hp] at hw
  obtain ⟨i, -, hi⟩ := List.mem_filterMap.mp hw
  have hm : w ∈ big := by first | exact List.mem_of_getElem? hi | exact List.getElem?_mem hi
  exact ⟨hm, good_of_word h1⟩
theorem goodIn_app {big a b : List Cond} (ha : GoodIn big a) (hb : GoodIn big b) : GoodIn big (a ++ b) := fun w h => (List.mem_append.mp h).elim (ha w) (hb w)
theorem goodIn_ca {big a b : List Cond} {c : Cond} (ha : GoodIn big (c :: a)) (hb : GoodIn big b) : GoodIn big (c :: (a ++ b)) := fun w h => (List.mem_cons.mp h).elim (fun e => ha w (List.mem_cons.mpr (Or.inl e))) (fun h => (List.mem_append.mp h).elim (fun h => ha w (List.mem_cons.mpr (Or.inr h))) (hb w))
theorem goodIn_sub {big ws : List Cond} (hm : ∀ w ∈ ws, w ∈ big) (h : ws.all goodWord = true) : GoodIn big ws := fun w hw => ⟨hm w hw, good_of_word (List.all_eq_true.mp h w hw)⟩
/-! ===== END ===== -/

/-- the class over the arrays of t is there -/
def va_AOA (t : FieldType) (U : State) : Prop := (Cond.arrayOver (.array t)).before #[] U = true
theorem va_AOA.use {t : FieldType} {A : Array Value} {U : State} (h : va_AOA t U) : (Cond.arrayOver (.array t)).before A U = true := h
/-! ===== BEGIN new T[n][m]: the outer array a place, the inner ones among the pooled ===== -/
/-- f, but v at every address of l -/
def vr_up {α : Type} (f : Nat → α) (l : List Nat) (v : α) : Nat → α := fun a => if a ∈ l then v else f a
theorem vr_up_in {α : Type} {f : Nat → α} {l : List Nat} {v : α} {a : Nat} (h : a ∈ l) : vr_up f l v a = v := if_pos h
theorem vr_up_ne {α : Type} {f : Nat → α} {l : List Nat} {v : α} {a : Nat} (h : a ∉ l) : vr_up f l v a = f a := if_neg h
theorem vr_rows {L l : List Nat} {f : Nat → va_E} {e : va_E} (h : ∀ a, a ∈ l → a ∉ L) : va_pl L f ++ l.map (fun a => (a, e)) = va_pl (L ++ l) (vr_up f l e) := by
  unfold va_pl
  rw [List.map_append]
  congr 1
  · apply List.map_congr_left
    intro a ha
    rw [vr_up_ne (fun q => h a q ha)]
  · apply List.map_congr_left
    intro a ha
    rw [vr_up_in ha]
theorem vr_lay {X rows : va_W} {x : Nat × va_E} {pl : va_W} {D : va_G} {cl : List vw_C} {H : Heap} (hP : va_P D cl (((X ++ pl) ++ [x]) ++ rows) H) : va_P D cl ((X ++ [x]) ++ (pl ++ rows)) H := by
  rw [List.append_assoc (X ++ pl)] at hP
  have h := va_P.swap hP
  rw [← List.append_assoc X] at h
  have h2 := va_P.swap h
  rw [List.append_assoc (X ++ [x])] at h2
  exact h2
theorem vr_layD {X rows : va_W} {x : Nat × va_E} {pl : va_W} {A : Nat → Prop} (hD : va_D A (((X ++ pl) ++ [x]) ++ rows)) : va_D A ((X ++ [x]) ++ (pl ++ rows)) := by
  rw [List.append_assoc (X ++ pl)] at hD
  have h := va_D.swap hD
  rw [← List.append_assoc X] at h
  have h2 := va_D.swap h
  rw [List.append_assoc (X ++ [x])] at h2
  exact h2
theorem vr_outer (c : ClassId) (N h0 : Nat) : ∀ i : Nat, Jvm.Free.Multi.outerC c N h0 i = arrV c N (fun j => va_rf (if j < i then some (h0 + 1 + j) else none))
  | 0 => by
    show ({ cls := c, slots := Array.replicate N .null, vm := .none } : Cell) = _
    rw [arrV_new]
    refine congrArg (arrV c N) (funext fun j => ?_)
    simp [va_rf]
  | i + 1 => by
    show (Jvm.Free.Multi.outerC c N h0 i).setSlot i (.ref (h0 + 1 + i)) = _
    rw [vr_outer c N h0 i, arrV_store]
    refine congrArg (arrV c N) (funext fun j => ?_)
    by_cases e : j = i
    · subst e
      simp [updV, va_rf]
    · by_cases h : j < i
      · simp [updV, e, h, Nat.lt_succ_of_lt h]
      · simp [updV, e, h, show ¬ j < i + 1 by omega]
section VGM
variable {p : Program} {l : Launch} {e : Env} {R : Room} {s : State} {m : MethodId} {args : Array Value} {below : List Frame} {meth : Method} {c : Code} {H : Heap} {locs : List Loc} {cells slots : Nat} {Q : State → Prop}
variable {cc : ByteArray} {pc : Nat} {ls : Array Slot} {rest : List Value} {D : va_G} {cl : List vw_C} {A : Nat → Prop} {a : Nat} {tys : List (ClassId × FieldType)} {ws : va_W} {H0 : Heap}
theorem va_mna {X : va_W} {L : List Nat} {f : Nat → va_E} {cc : ByteArray} (hexec : p.tables.exec = Jvm.exec) (hb : c.code = cc) {own : String} {index : Nat} {ty : FieldType} {cy : ClassId} (hown : s.vm.findClass own = some m.cls) (hclink : (Cond.classLink own index ("[" ++ (FieldType.array ty).toString)).before args s = true) (hover : va_AOA ty s) (harr : (Cond.arrayClass ty).before args s = true) (hcy : s.vm.findClass (FieldType.array ty).toString = some cy)
    (hK : va_K D cl tys s) (hP : va_P D cl (X ++ va_pl L f) H) (hD : va_D A (X ++ va_pl L f)) (hS : va_S A H0 H locs) (hA : ∀ q, H0.size ≤ q → A q) {n k : Int32} {N' K' : Nat} {z : vp_A} (hn : ¬ n < 0) (hk : ¬ k < 0) (hN : n.toNatClampNeg = N') (hM : k.toNatClampNeg = K')
    (hb1 : N' * 4 ≤ 536870912) (hb2 : K' * componentBytes ty ≤ 536870912) (hb3 : K' ≤ 536870912) (hdf : fits ty (defaultValue ty) = true) (hdd : (defaultValue ty).isDefault = true) (hcells : cells + (1 + N') ≤ R.cells) (hslots : slots + (N' + N' * K') ≤ R.slots) (hz : ∀ c : ClassId, Jvm.Free.Multi.innerC c K' (defaultValue ty) = vp_cell c z) (hdg : decode cc pc = .ok (.multianewarray index 2, 4))
    (kk : ∀ (q : Nat) (r : Nat → Nat) (cA : ClassId) (H1 : Heap), (∀ i j : Nat, i < N' → j < N' → r i = r j → i = j) → (∀ i : Nat, i < N' → r i ∉ L) → va_K D cl (tys ++ [(cA, .array ty)]) s →
      va_P D cl ((X ++ [(q, .inl (cA, N', .inr (.inr (.inr (.inr (fun i => if i < N' then some (r i) else none))))))]) ++ va_pl (L ++ (List.range N').map r) (vr_up f ((List.range N').map r) (.inl (cy, z)))) H1 → va_D A ((X ++ [(q, .inl (cA, N', .inr (.inr (.inr (.inr (fun i => if i < N' then some (r i) else none))))))]) ++ va_pl (L ++ (List.range N').map r) (vr_up f ((List.range N').map r) (.inl (cy, z)))) → va_S A H0 H1 locs →
      W p l e R s m args below meth c H1 locs (cells + 1 + N') (slots + N' + N' * K') Q (F0 m (pc + 4) ls (.ref q :: rest))) : W p l e R s m args below meth c H locs cells slots Q (F0 m pc ls (.int k :: .int n :: rest)) := by
  subst hN
  subst hM
  intro T hT Xs
  obtain ⟨vm₁, cA, comp, -, fA, fC, hO, -, X', step⟩ := Xs.multianewarray2F hexec hown hclink (va_AOA.use hover) harr (g := F0 m pc ls (.int k :: .int n :: rest)) rfl (by rw [hb]; exact hdg) rfl hn hk hb1 hb2 hb3 hdf hdd hcells hslots
  have ec : some cy = some comp := hcy.symm.trans fC
  cases ec
  generalize hF : Jvm.Free.Multi.fill (T.setVm vm₁) cA cy n.toNatClampNeg k.toNatClampNeg (defaultValue ty) n.toNatClampNeg = F at X' step
  have hTh : (T.setVm vm₁).heap = H := hT
  obtain ⟨f1, f2, -, -⟩ := Jvm.Free.Multi.fill_facts (T.setVm vm₁) cA cy n.toNatClampNeg k.toNatClampNeg (defaultValue ty) n.toNatClampNeg
  rw [hF, hTh] at f1 f2
  have hold : ∀ x : Nat, x < H.size → F.heap[x]? = H[x]? := fun x hx => by
    have := Jvm.Free.Multi.fill_old (T.setVm vm₁) cA cy n.toNatClampNeg k.toNatClampNeg (defaultValue ty) (a := x) (by rw [hTh]; exact hx) n.toNatClampNeg
    rw [hF, hTh] at this
    exact this
  have hrow : ∀ j : Nat, j < n.toNatClampNeg → F.heap[H.size + 1 + j]? = some (vp_cell cy z) := fun j hj => by
    have := Jvm.Free.Multi.fill_inner (T.setVm vm₁) cA cy n.toNatClampNeg k.toNatClampNeg (defaultValue ty) n.toNatClampNeg j hj
    rw [hF, hTh, hz] at this
    exact this
  have hout : Jvm.Free.Multi.outerC cA n.toNatClampNeg H.size n.toNatClampNeg = vp_cell cA (n.toNatClampNeg, .inr (.inr (.inr (.inr (fun i => if i < n.toNatClampNeg then some (H.size + 1 + i) else none))))) := by
    rw [vp_cell_q]
    exact vr_outer cA n.toNatClampNeg H.size n.toNatClampNeg
  rw [hout] at f2
  have hlt : ∀ a, a ∈ L → a < H.size := fun a ha => by
    obtain ⟨k9, hk9⟩ := va_pl_get (X := X) (f := f) ha
    exact (hP k9 _ hk9).lt
  have hnl : ∀ i : Nat, i < n.toNatClampNeg → H.size + 1 + i ∉ L := fun i _ h => by
    have := hlt _ h
    omega
  have hnm : ∀ a, a ∈ (List.range n.toNatClampNeg).map (fun i => H.size + 1 + i) → a ∉ L := fun a ha h => by
    obtain ⟨i, -, rfl⟩ := List.mem_map.mp ha
    have := hlt _ h
    omega
  have hP0 : va_P D cl (X ++ va_pl L f) F.heap := hP.kept (fun k9 x hx => hold x.1 ((hP k9 x hx).lt))
  have hP1 : va_P D cl ((X ++ va_pl L f) ++ [(H.size, .inl (cA, n.toNatClampNeg, .inr (.inr (.inr (.inr (fun i => if i < n.toNatClampNeg then some (H.size + 1 + i) else none))))))]) F.heap := hP0.app (fun k9 x hx => by
    have h0 : k9 < 1 := (List.getElem?_eq_some_iff.mp hx).1
    rw [show k9 = 0 by omega] at hx
    cases hx
    exact f2)
  have hP2 : va_P D cl (((X ++ va_pl L f) ++ [(H.size, .inl (cA, n.toNatClampNeg, .inr (.inr (.inr (.inr (fun i => if i < n.toNatClampNeg then some (H.size + 1 + i) else none))))))]) ++ ((List.range n.toNatClampNeg).map (fun i => H.size + 1 + i)).map (fun a => (a, .inl (cy, z)))) F.heap := hP1.app (fun k9 x hx => by
    obtain ⟨a, ha, rfl⟩ := List.mem_map.mp (List.mem_of_getElem? hx)
    obtain ⟨i, hi, rfl⟩ := List.mem_map.mp ha
    exact hrow i (List.mem_range.mp hi))
  have hD2 : va_D A (((X ++ va_pl L f) ++ [(H.size, .inl (cA, n.toNatClampNeg, .inr (.inr (.inr (.inr (fun i => if i < n.toNatClampNeg then some (H.size + 1 + i) else none))))))]) ++ ((List.range n.toNatClampNeg).map (fun i => H.size + 1 + i)).map (fun a => (a, .inl (cy, z)))) := by
    have hD1 := hD.push (e := .inl (cA, n.toNatClampNeg, .inr (.inr (.inr (.inr (fun i => if i < n.toNatClampNeg then some (H.size + 1 + i) else none)))))) hP rfl (hA _ hS.1)
    generalize hW1 : (X ++ va_pl L f) ++ [(H.size, .inl (cA, n.toNatClampNeg, .inr (.inr (.inr (.inr (fun i => if i < n.toNatClampNeg then some (H.size + 1 + i) else none))))))] = W1 at hD1 hP1 ⊢
    have hle : ∀ (k9 : Nat) (x : Nat × va_E), W1[k9]? = some x → x.1 ≤ H.size := fun k9 x hx => by
      rw [← hW1] at hx
      by_cases hl : k9 < (X ++ va_pl L f).length
      · rw [List.getElem?_append_left hl] at hx
        exact Nat.le_of_lt ((hP k9 x hx).lt)
      · rw [List.getElem?_append_right (by omega)] at hx
        have h0 : k9 - (X ++ va_pl L f).length < 1 := (List.getElem?_eq_some_iff.mp hx).1
        rw [show k9 - (X ++ va_pl L f).length = 0 by omega] at hx
        cases hx
        exact Nat.le_refl _
    have hr : ∀ (k9 : Nat) (x : Nat × va_E), (((List.range n.toNatClampNeg).map (fun i => H.size + 1 + i)).map (fun a => ((a, .inl (cy, z)) : Nat × va_E)))[k9]? = some x → x.1 = H.size + 1 + k9 := fun k9 x hx => by
      rw [List.getElem?_map, List.getElem?_map] at hx
      by_cases h9 : k9 < n.toNatClampNeg
      · rw [List.getElem?_range h9] at hx
        cases hx
        rfl
      · have hn0 : (List.range n.toNatClampNeg)[k9]? = none := List.getElem?_eq_none (by rw [List.length_range]; omega)
        rw [hn0] at hx
        cases hx
    refine ⟨fun i j x y hi hj hxy => ?_, fun k9 x hx => ?_⟩
    · by_cases h1 : i < W1.length <;> by_cases h2 : j < W1.length
      · rw [List.getElem?_append_left h1] at hi
        rw [List.getElem?_append_left h2] at hj
        exact hD1.1 i j x y hi hj hxy
      · rw [List.getElem?_append_left h1] at hi
        rw [List.getElem?_append_right (by omega)] at hj
        have := hle _ _ hi
        have := hr _ _ hj
        omega
      · rw [List.getElem?_append_right (by omega)] at hi
        rw [List.getElem?_append_left h2] at hj
        have := hle _ _ hj
        have := hr _ _ hi
        omega
      · rw [List.getElem?_append_right (by omega)] at hi hj
        have := hr _ _ hi
        have := hr _ _ hj
        omega
    · by_cases h1 : k9 < W1.length
      · rw [List.getElem?_append_left h1] at hx
        exact hD1.2 k9 x hx
      · rw [List.getElem?_append_right (by omega)] at hx
        have := hr _ _ hx
        exact hA _ (by have := hS.1; omega)
  have hAr : ArrOfT s cA (.array ty) := fun N9 z9 => by
    obtain ⟨-, k9, hk9, cm9, hkk9⟩ := (hO 0 0 0).1
    exact ⟨(fun q hq => by cases hq), k9, hk9, cm9, hkk9⟩
  have hK2 : va_K D cl (tys ++ [(cA, .array ty)]) s := ⟨hK.1, fun k9 x hx => by
    by_cases hl : k9 < tys.length
    · rw [List.getElem?_append_left hl] at hx
      exact hK.2 k9 x hx
    · rw [List.getElem?_append_right (by omega)] at hx
      have h0 : k9 - tys.length < 1 := (List.getElem?_eq_some_iff.mp hx).1
      rw [show k9 - tys.length = 0 by omega] at hx
      cases hx
      exact ⟨hAr, fA⟩⟩
  obtain ⟨t, a1, b1⟩ := kk H.size (fun i => H.size + 1 + i) cA F.heap (fun i j _ _ h => by have h9 : H.size + 1 + i = H.size + 1 + j := h; omega) hnl hK2 (by rw [← vr_rows hnm]; exact vr_lay hP2) (by rw [← vr_rows hnm]; exact vr_layD hD2) ⟨by rw [f1]; have := hS.1; omega, fun x h1 h2 => (hold x (Nat.lt_of_lt_of_le h1 hS.1)).trans (hS.2.1 x h1 h2), hS.2.2⟩ F rfl X'
  refine ⟨t, step t ?_, b1⟩
  have e : T.heap.size = H.size := by rw [hT]
  rw [e]
  exact a1
end VGM
/-! ===== END ===== -/

/-! ===== BEGIN exceptions that leave a method, and their catching by the caller (launches without stack traces) ===== -/
section VXA
/-! The laws vx_back, vx_callV, vx_callS, vx_callSW, vx_throw0, vx_throwS follow proofs of the library, with one case more: JvmDerived/Free/Laws.lean (Back.of_free), Shelf42/LK1.lean (callV, callS), Shelf/KitTraced.lean (throwNew0V, throwNewS). -/
/-- where a method has thrown q: the class by its name, the cell, what was written, the world -/
def vx_T (XC : String → State → State → Prop) (st : State) (q : Addr) (t : State) (mc ms : Nat) (free : Addr → Prop) : Prop :=
  ∃ (E : String) (ce : Cell) (L : List Loc), XC E st t ∧ t.heap[q]? = some ce ∧ ce.vm = .none ∧ st.vm.findClass E = some ce.cls ∧ st.WarmedH t.vm ∧ st.sameButNew ({ t with vm := st.vm } : State) L mc ms ∧ ∀ z ∈ L, free z.base
def vx_Q (Qc : Array Value → State → Outcome → State → Prop) (XC : String → State → State → Prop) (mc ms : Nat) (free : Addr → Prop) : Array Value → State → Outcome → State → Prop := fun a st o t =>
  (Qc a st o t ∧ ∃ L, FrameEnd st o t L mc ms ∧ ∀ q ∈ L, free q.base) ∨ ∃ q, o = .threw q ∧ vx_T XC st q t mc ms free
/-- a callee that returns or throws -/
def vx_Met (l : Launch) (y : MethodName) (ws : List Cond) (rm : Room) (Pc : Array Value → State → Prop) (Qc : Array Value → State → Outcome → State → Prop) (XC : String → State → State → Prop) (mc ms : Nat) (free : Addr → Prop) : Prop :=
  MetFree l y (headSpec ws rm) Pc (fun _ _ _ _ _ => True) (vx_Q Qc XC mc ms free)
def vx_Post (XC : String → State → State → Prop) (mc ms : Nat) (free : Addr → Prop) : Pt → Array Value → Addr → Pt → Prop := fun A a q B =>
  ∃ (g : JFrame) (mk : MethodId) (t : State) (L : List Loc) (E : String) (ce : Cell), B.U.heap = t.heap ∧ B.U.vm = t.vm ∧ XC E (A.U.calling g mk a) t ∧ t.heap[q]? = some ce ∧ ce.vm = .none ∧ A.U.vm.findClass E = some ce.cls ∧ B.locs = A.locs ++ L ∧ (∀ z ∈ L, free z.base) ∧ B.cells = A.cells + mc ∧ B.slots = A.slots + ms
def vx_Back (l : Launch) (R : Room) (p : Program) (e : Env) (below : List Frame) (s : State) (sargs : Array Value) (y : MethodName) (len W9 : Nat)
    (Pre : Pt → Array Value → Prop) (Post : Pt → Array Value → Option Value → Pt → Prop) (PostX : Pt → Array Value → Addr → Pt → Prop) : Prop :=
  ∀ (m : MethodId) (meth : Method) (c : Code) (A : Pt) (g : JFrame) (ig : Instr) (mk : MethodId) (a : Array Value),
    Stand p l e R s m sargs below meth c A.U A.locs A.cells A.slots → g.method = m → g.locals.size = c.maxLocals → decode c.code g.pc = .ok (ig, len) →
    2 * g.monitorRoom + (g.stack.map fun v => v.category).sum ≤ W9 → A.U.methodNamed? y = some mk → Pre A a →
    (∃ (v : Option Value) (B : Pt), Stand p l e R s m sargs below meth c B.U B.locs B.cells B.slots ∧ Post A a v B ∧
      Steps p.tables e below (doInvoke e (A.U.setTop g) [] mk a).1 (B.U.setTop { g with pc := g.pc + len, stack := v.toList ++ g.stack })) ∨
    (∃ (q : Addr) (B : Pt), Stand p l e R s m sargs below meth c B.U B.locs B.cells B.slots ∧ PostX A a q B ∧
      Steps p.tables e below (doInvoke e (A.U.setTop g) [] mk a).1 ((B.U.setTop g).pushFrame (.throwing q)))
section Payer
variable {l : Launch} {R : Room} {p : Program} {e : Env} {below : List Frame} {s : State} {sargs : Array Value} {y : MethodName} {len W9 : Nat}
theorem vx_back {ws : List Cond} {rm : Room} {Pc : Array Value → State → Prop} {Qc : Array Value → State → Outcome → State → Prop} {XC : String → State → State → Prop} {mc ms : Nat} {free : Addr → Prop} {bytes : ByteArray} {maxL : Nat} {ret : Option FieldType}
    (hM : vx_Met l y ws rm Pc Qc XC mc ms free) (hblind : FrameBlind Pc) (hrc : rm.cells = mc) (hrs : rm.slots = ms)
    (hframes : rm.frames + 1 ≤ R.frames) (hlocals : W9 + (maxL + 11) + rm.locals ≤ R.locals)
    (hws : ∀ w ∈ ws, ∀ a' U, s.WarmedH U.vm → w.before a' U = true) (hcode : Cond.code y bytes maxL ret ∈ ws) (hinit : ∀ a' U, s.WarmedH U.vm → (Cond.initialized y.cls).before a' U = true) :
    vx_Back l R p e below s sargs y len W9 (PreOf R mc ms Pc) (PostOf Qc mc ms free) (vx_Post XC mc ms free) := by
  intro m meth c A g ig mk a X hg hsize hdg hW hn hp
  have h1 : (headSpec ws rm).pre.before a A.U = true := atoms_intro fun w hw => hws w hw _ _ X.warmed
  have h2 : (Cond.code y bytes maxL ret).before a A.U = true := hws _ hcode _ _ X.warmed
  have h3 : (Cond.initialized y.cls).before a A.U = true := hinit _ _ X.warmed
  have h4 : A.cells + (headSpec ws rm).room.cells ≤ R.cells := by rw [show (headSpec ws rm).room.cells = mc from hrc]; exact hp.1
  have h5 : A.slots + (headSpec ws rm).room.slots ≤ R.slots := by rw [show (headSpec ws rm).room.slots = ms from hrs]; exact hp.2.1
  have hPc : Pc a (A.U.calling g mk a) := hblind _ _ _ _ hp.2.2
  obtain ⟨U, Ls, c0, s0⟩ := A
  dsimp only [Pt.U, Pt.locs, Pt.cells, Pt.slots] at h1 h2 h3 h4 h5 X hn hPc ⊢
  obtain ⟨methY, cY, hmY, hcY, -, hlY, -, -, -, -⟩ := Cond.code_spec hn h2
  obtain ⟨kY, hkY, -⟩ := className_of_methodNamed hn
  have hinitY : kY.init = .initialized := Cond.initialized_spec (findClass_of_methodNamed hn) hkY h3
  have h : At U g.method c below := by rw [hg]; exact X.here
  have hlocals9 : W9 + (maxL + 11) + (headSpec ws rm).room.locals ≤ R.locals := hlocals
  have happ : (headSpec ws rm).appliesLoose y e.platform (U.calling g mk a) = true :=
    Spec.appliesLoose_calling (g := g) h hdg hn hkY hinitY
      (X.room_calling (g := g) (R' := (headSpec ws rm).room) hsize hmY hcY hframes (by rw [hlY]; omega) h4 h5) h1
  obtain ⟨mid, hmid⟩ := h.above
  have hfr : (U.setTop g).frames = (.java g :: mid) ++ below := by rw [State.frames_setTop' g h.top, hmid]; rfl
  obtain ⟨o, s₂, hsteps, -, hend, hq⟩ := Steps.callFree hM p X.admits X.cas X.clock (acts := []) hfr happ hPc trivial
  have hq' : vx_Q Qc XC mc ms free a (U.calling g mk a) o s₂ := hq
  rw [State.frames_setTop' g h.top] at hend
  obtain ⟨g₀, hg0⟩ := Option.isSome_iff_exists.mp h.top
  obtain ⟨r, hr⟩ := State.topJava?_eq_some.mp hg0
  have hr' : (({ U with heap := s₂.heap, slotsUsed := s₂.slotsUsed } : State).setVm s₂.vm).frames = .java g₀ :: r := hr
  rcases hq' with ⟨hqc, L, hfe, hL⟩ | ⟨q, rfl, E, ce, L, hx, hce, hcv, hcl, hW₂, hsm, hL⟩
  · obtain ⟨⟨v, rfl⟩, hW₂, e2, q2, q3, q4, q5, q6⟩ := id hfe
    have e3 : s₂ = ({ (U.calling g mk a).setFrames s₂.frames with heap := s₂.heap, slotsUsed := s₂.slotsUsed } : State).setVm s₂.vm := by
      have : s₂ = ({ s₂ with vm := (U.calling g mk a).vm } : State).setVm s₂.vm := rfl
      rw [e2] at this
      exact this
    obtain ⟨c₂, i₂, len₂, hc₂, hd₂, hf₂⟩ := hend
    have hW' : U.WarmedH s₂.vm := hW₂
    have hcc : c₂ = c := by
      have h1 : s₂.code? g.method = U.code? g.method := by
        rw [State.code?_eq, State.code?_eq, hW'.alike.method?]
      exact Option.some.inj (hc₂.symm.trans (h1.trans h.code))
    subst hcc
    have hlen : len₂ = len := by rw [hdg] at hd₂; cases hd₂; rfl
    subst hlen
    have hs₂ : s₂ = (({ U with heap := s₂.heap, slotsUsed := s₂.slotsUsed } : State).setVm s₂.vm).setTop { g with pc := g.pc + len₂, stack := v.toList ++ g.stack } := by
      refine e3.trans ?_
      rw [hf₂, State.calling_eq h.top, State.setFrames_setFrames, State.setTop_of_frames _ hr', hr]
      rfl
    have hsame : U.sameButNew ({ U with heap := s₂.heap, slotsUsed := s₂.slotsUsed } : State) L mc ms := by
      refine ⟨?_, q2, q3, q4, q5, q6⟩
      obtain ⟨t, ht, -⟩ := State.frames_cons hr
      show ({ U with heap := s₂.heap, slotsUsed := s₂.slotsUsed } : State) = { U.setFrames U.frames with heap := s₂.heap, slotsUsed := s₂.slotsUsed }
      rw [State.setFrames_self ht]
    subst hg
    refine Or.inl ⟨v, ⟨(({ U with heap := s₂.heap, slotsUsed := s₂.slotsUsed } : State).setVm s₂.vm), Ls ++ L, c0 + mc, s0 + ms⟩,
      ⟨X.admits, X.cas, X.clock, X.frames, X.room, X.hears, X.method, X.code, (X.here.setHeapUsed s₂.heap s₂.slotsUsed).setVm hW'.alike, X.tail, State.WarmedH.trans X.warmed hW', X.limits, X.bytes, X.same.trans (hsame.setVm s.vm)⟩,
      ⟨g, mk, s₂, L, rfl, rfl, hqc, rfl, hL, rfl, rfl⟩, ?_⟩
    show Steps p.tables e below _ ((({ U with heap := s₂.heap, slotsUsed := s₂.slotsUsed } : State).setVm s₂.vm).setTop { g with pc := g.pc + len₂, stack := v.toList ++ g.stack })
    rw [← hs₂]
    exact hsteps
  · obtain ⟨e2, q2, q3, q4, q5, q6⟩ := id hsm
    have e3 : s₂ = ({ (U.calling g mk a).setFrames s₂.frames with heap := s₂.heap, slotsUsed := s₂.slotsUsed } : State).setVm s₂.vm := by
      have : s₂ = ({ s₂ with vm := (U.calling g mk a).vm } : State).setVm s₂.vm := rfl
      rw [e2] at this
      exact this
    have hf₂ : s₂.frames = .throwing q :: .java g :: U.frames.tail := hend
    have hW' : U.WarmedH s₂.vm := hW₂
    have hs₂ : s₂ = ((({ U with heap := s₂.heap, slotsUsed := s₂.slotsUsed } : State).setVm s₂.vm).setTop g).pushFrame (.throwing q) := by
      refine e3.trans ?_
      rw [hf₂, State.calling_eq h.top, State.setFrames_setFrames, State.pushFrame, State.frames_setTop _ hr', State.setTop_of_frames _ hr', State.setFrames_setFrames, hr]
      rfl
    have hsame : U.sameButNew ({ U with heap := s₂.heap, slotsUsed := s₂.slotsUsed } : State) L mc ms := by
      refine ⟨?_, q2, q3, q4, q5, q6⟩
      obtain ⟨t, ht, -⟩ := State.frames_cons hr
      show ({ U with heap := s₂.heap, slotsUsed := s₂.slotsUsed } : State) = { U.setFrames U.frames with heap := s₂.heap, slotsUsed := s₂.slotsUsed }
      rw [State.setFrames_self ht]
    subst hg
    refine Or.inr ⟨q, ⟨(({ U with heap := s₂.heap, slotsUsed := s₂.slotsUsed } : State).setVm s₂.vm), Ls ++ L, c0 + mc, s0 + ms⟩,
      ⟨X.admits, X.cas, X.clock, X.frames, X.room, X.hears, X.method, X.code, (X.here.setHeapUsed s₂.heap s₂.slotsUsed).setVm hW'.alike, X.tail, State.WarmedH.trans X.warmed hW', X.limits, X.bytes, X.same.trans (hsame.setVm s.vm)⟩,
      ⟨g, mk, s₂, L, E, ce, rfl, rfl, hx, hce, hcv, hcl, rfl, hL, rfl, rfl⟩, ?_⟩
    show Steps p.tables e below _ (((({ U with heap := s₂.heap, slotsUsed := s₂.slotsUsed } : State).setVm s₂.vm).setTop g).pushFrame (.throwing q))
    rw [← hs₂]
    exact hsteps
end Payer
section Calls
variable {p : Program} {l : Launch} {e : Env} {R : Room} {s : State} {m : MethodId} {args : Array Value} {below : List Frame} {meth : Method} {c : Code} {T : State} {locs : List Loc} {cells slots : Nat}
theorem vx_callV (X : Stand p l e R s m args below meth c T locs cells slots) (hexec : p.tables.exec = Jvm.exec) {own C : String} {index : Nat} {y : MethodName} {bytes : ByteArray} {maxL : Nat} {ret : Option FieldType}
    (hown : s.vm.findClass own = some m.cls) (hlink : (Cond.methodLink own index y).before args s = true) (hinst : (Cond.instanceMethod y).before args s = true) (hsel : (Cond.selects C y y).before args s = true)
    (hcode : (Cond.code y bytes maxL ret).before args s = true) (hy : y.cls ≠ "java/lang/invoke/MethodHandle" ∧ y.cls ≠ "java/lang/invoke/VarHandle")
    {W9 : Nat} {Pre : Pt → Array Value → Prop} {Post : Pt → Array Value → Option Value → Pt → Prop} {PostX : Pt → Array Value → Addr → Pt → Prop} (hK : vx_Back l R p e below s args y 3 W9 Pre Post PostX)
    {b : Addr} {cellB : Cell} (hcell : T.heap[b]? = some cellB) (hobj : cellB.vm.isStatics = false) (hcls : s.vm.findClass C = some cellB.cls)
    {g : JFrame} (hg : g.method = m) (hsize : g.locals.size = c.maxLocals) {argsL rest : List Value} (hlen : ∀ sig, parseMethodDescriptor y.desc = some sig → argsL.length = sig.parameters.length)
    (hstack : g.stack = argsL.reverse ++ .ref b :: rest) (hW : 2 * g.monitorRoom + (rest.map fun v => v.category).sum ≤ W9) (hdg : decode c.code g.pc = .ok (.invokevirtual index, 3))
    (hpre : ∀ vm₁, s.WarmedH vm₁ → Pre ⟨T.setVm vm₁, locs, cells, slots⟩ (Value.ref b :: argsL).toArray) :
    (∃ (v : Option Value) (vm₁ : Vm) (B : Pt), s.WarmedH vm₁ ∧ Stand p l e R s m args below meth c B.U B.locs B.cells B.slots ∧ Post ⟨T.setVm vm₁, locs, cells, slots⟩ (Value.ref b :: argsL).toArray v B ∧
      ∀ target, Steps p.tables e below (B.U.setTop { g with pc := g.pc + 3, stack := v.toList ++ rest }) target → Steps p.tables e below (T.setTop g) target) ∨
    (∃ (q : Addr) (vm₁ : Vm) (B : Pt), s.WarmedH vm₁ ∧ Stand p l e R s m args below meth c B.U B.locs B.cells B.slots ∧ PostX ⟨T.setVm vm₁, locs, cells, slots⟩ (Value.ref b :: argsL).toArray q B ∧
      Steps p.tables e below (T.setTop g) ((B.U.setTop { g with stack := rest }).pushFrame (.throwing q))) := by
  obtain ⟨mk, methM, hnamed, hmethM, hstM, habM⟩ := Cond.instanceMethod_spec hinst
  obtain ⟨methM', cM, hmethM', -, -, -, -, -, -, hsigM⟩ := Cond.code_spec hnamed hcode
  cases hmethM.symm.trans hmethM'
  obtain ⟨c2, r2, m2, q1, q2, q3, q4, kP, hkP, hkPi⟩ := Cond.selects_spec hsel
  cases hcls.symm.trans q1
  cases (State.methodFound?_of_named hnamed hy).symm.trans q2
  cases hnamed.symm.trans q3
  have hselP : selectMethod e.platform s.vm cellB.cls mk = .method mk := by rw [Launch.admits_selectMethod X.admits]; exact q4
  obtain ⟨vm₁, X₁, hstep₁⟩ := X.invokevirtual hexec hown hlink hnamed hmethM hstM hkP hkPi hy (a := b) (cell := cellB) hcell
    (fun z h => by rw [h] at hobj; cases hobj) hselP hmethM habM hkP hkPi (g := g) hg (argsL := argsL) (rest := rest) (hlen _ hsigM) hstack hdg
  rcases hK m meth c ⟨T.setVm vm₁, locs, cells, slots⟩ { g with stack := rest } (.invokevirtual index) mk (Value.ref b :: argsL).toArray X₁ hg hsize hdg hW (X₁.named hnamed) (hpre vm₁ X₁.warmed) with ⟨v, B, X', hpost, hsteps⟩ | ⟨q, B, X', hpost, hsteps⟩
  · exact Or.inl ⟨v, vm₁, B, X₁.warmed, X', hpost, fun target h => hstep₁ _ fun acts => by rw [doInvoke_state]; exact hsteps.trans h⟩
  · exact Or.inr ⟨q, vm₁, B, X₁.warmed, X', hpost, hstep₁ _ fun acts => by rw [doInvoke_state]; exact hsteps⟩
theorem vx_callS (X : Stand p l e R s m args below meth c T locs cells slots) (hexec : p.tables.exec = Jvm.exec) {own : String} {index : Nat} {y : MethodName} {bytes : ByteArray} {maxL : Nat} {ret : Option FieldType}
    (hown : s.vm.findClass own = some m.cls) (hlink : (Cond.methodLink own index y).before args s = true) (hstat : (Cond.static y).before args s = true) (hinit : (Cond.initialized y.cls).before args s = true)
    (hcode : (Cond.code y bytes maxL ret).before args s = true) (hy : y.cls ≠ "java/lang/invoke/MethodHandle" ∧ y.cls ≠ "java/lang/invoke/VarHandle")
    {W9 : Nat} {Pre : Pt → Array Value → Prop} {Post : Pt → Array Value → Option Value → Pt → Prop} {PostX : Pt → Array Value → Addr → Pt → Prop} (hK : vx_Back l R p e below s args y 3 W9 Pre Post PostX)
    {g : JFrame} (hg : g.method = m) (hsize : g.locals.size = c.maxLocals) {argsL rest : List Value} (hlen : ∀ sig, parseMethodDescriptor y.desc = some sig → argsL.length = sig.parameters.length)
    (hstack : g.stack = argsL.reverse ++ rest) (hW : 2 * g.monitorRoom + (rest.map fun v => v.category).sum ≤ W9) (hdg : decode c.code g.pc = .ok (.invokestatic index, 3))
    (hpre : ∀ vm₁, s.WarmedH vm₁ → Pre ⟨T.setVm vm₁, locs, cells, slots⟩ argsL.toArray) :
    (∃ (v : Option Value) (vm₁ : Vm) (B : Pt), s.WarmedH vm₁ ∧ Stand p l e R s m args below meth c B.U B.locs B.cells B.slots ∧ Post ⟨T.setVm vm₁, locs, cells, slots⟩ argsL.toArray v B ∧
      ∀ target, Steps p.tables e below (B.U.setTop { g with pc := g.pc + 3, stack := v.toList ++ rest }) target → Steps p.tables e below (T.setTop g) target) ∨
    (∃ (q : Addr) (vm₁ : Vm) (B : Pt), s.WarmedH vm₁ ∧ Stand p l e R s m args below meth c B.U B.locs B.cells B.slots ∧ PostX ⟨T.setVm vm₁, locs, cells, slots⟩ argsL.toArray q B ∧
      Steps p.tables e below (T.setTop g) ((B.U.setTop { g with stack := rest }).pushFrame (.throwing q))) := by
  obtain ⟨mk, hnamed⟩ := Cond.code_named hcode
  obtain ⟨methM, cM, hmethM, -, -, -, -, -, -, hsigM⟩ := Cond.code_spec hnamed hcode
  have hstatic : methM.isStatic = true := Cond.static_spec hnamed hmethM hstat
  obtain ⟨kP, hkP, -⟩ := className_of_methodNamed hnamed
  have hinitP : kP.init = .initialized := Cond.initialized_spec (findClass_of_methodNamed hnamed) hkP hinit
  obtain ⟨vm₁, X₁, hstep₁⟩ := X.invokestatic hexec hown hlink hnamed hmethM hstatic hkP hinitP hy (g := g) hg (argsL := argsL) (rest := rest) (hlen _ hsigM) hstack hdg
  rcases hK m meth c ⟨T.setVm vm₁, locs, cells, slots⟩ { g with stack := rest } (.invokestatic index) mk argsL.toArray X₁ hg hsize hdg hW (X₁.named hnamed) (hpre vm₁ X₁.warmed) with ⟨v, B, X', hpost, hsteps⟩ | ⟨q, B, X', hpost, hsteps⟩
  · exact Or.inl ⟨v, vm₁, B, X₁.warmed, X', hpost, fun target h => hstep₁ _ fun acts => by rw [doInvoke_state]; exact hsteps.trans h⟩
  · exact Or.inr ⟨q, vm₁, B, X₁.warmed, X', hpost, hstep₁ _ fun acts => by rw [doInvoke_state]; exact hsteps⟩
end Calls
theorem vx_cls {s : State} {T : State} {vm₁ : Vm} {E : String} {k : ClassId} (hW : s.WarmedH vm₁) (h : (T.setVm vm₁).vm.findClass E = some k) : s.vm.findClass E = some k := by
  have h1 : vm₁.findClass E = some k := h
  rw [hW.alike.findClass] at h1
  exact h1
/-- the method's frame g, with q thrown over it -/
def vx_W (p : Program) (l : Launch) (e : Env) (R : Room) (s : State) (m : MethodId) (args : Array Value) (below : List Frame) (meth : Method) (c : Code) (H : Heap) (locs : List Loc) (cells slots : Nat) (Q : State → Prop) (g : JFrame) (q : Addr) : Prop :=
  ∀ T : State, T.heap = H → Stand p l e R s m args below meth c T locs cells slots → ∃ t, Steps p.tables e below ((T.setTop g).pushFrame (.throwing q)) t ∧ Q t
def vx_Run (p : Program) (l : Launch) (e : Env) (R : Room) (s : State) (m : MethodId) (args : Array Value) (below : List Frame) (meth : Method) (c : Code) (H : Heap) (locs : List Loc) (cells slots mc ms : Nat) (g : JFrame) (rest : List Value) (Qa : State → Outcome → State → Prop) (XC : String → State → State → Prop) (free : Addr → Prop) : Prop :=
  ∀ T : State, T.heap = H → Stand p l e R s m args below meth c T locs cells slots →
    (∃ (v : Option Value) (st₀ t T' : State) (L : List Loc), st₀.heap = H ∧ Stand p l e R s m args below meth c T' (locs ++ L) (cells + mc) (slots + ms) ∧ (∀ q ∈ L, free q.base) ∧ T'.heap = t.heap ∧ T'.vm = t.vm ∧ Qa st₀ (.returned v) t ∧
      Goes p e below T g T' { g with pc := g.pc + 3, stack := v.toList ++ rest }) ∨
    (∃ (q : Addr) (st₀ t T' : State) (L : List Loc) (E : String) (ce : Cell), st₀.heap = H ∧ Stand p l e R s m args below meth c T' (locs ++ L) (cells + mc) (slots + ms) ∧ (∀ z ∈ L, free z.base) ∧ T'.heap = t.heap ∧ T'.vm = t.vm ∧ XC E st₀ t ∧ t.heap[q]? = some ce ∧ ce.vm = .none ∧ s.vm.findClass E = some ce.cls ∧
      Steps p.tables e below (T.setTop g) ((T'.setTop { g with stack := rest }).pushFrame (.throwing q)))
def vx_X {S : Type} (px : S → Prop) (B : String → S → State → Prop) (A : Nat → Prop) : String → State → State → Prop := fun E st t => ∃ u : S, px u ∧ B E u t ∧ va_F A st t
section Runs
variable {p : Program} {l : Launch} {e : Env} {R : Room} {s : State} {m : MethodId} {args : Array Value} {below : List Frame} {meth : Method} {c : Code} {H : Heap} {locs : List Loc} {cells slots : Nat}
variable {y : MethodName} {bytes cc : ByteArray} {maxL nL mc ms n index : Nat} {ret : Option FieldType} {ws : List Cond} {rm : Room} {Pc : Array Value → State → Prop} {Qc : Array Value → State → Outcome → State → Prop} {XC : String → State → State → Prop} {free : Addr → Prop} {Ts : List Cond} {own C : String} {b : Addr} {As rest : List Value} {g : JFrame}
theorem vx_callBack (cb : CallB R s args own index y bytes maxL ret ws rm mc ms n) (hM : vx_Met l y ws rm Pc Qc XC mc ms free) (hbl : FrameBlind Pc) : vx_Back l R p e below s args y 3 8 (PreOf R mc ms Pc) (PostOf Qc mc ms free) (vx_Post XC mc ms free) := by
  obtain ⟨hrc, hrs, hfr, hlo, hws, hcw, -, hini, -⟩ := cb
  exact vx_back (bytes := bytes) (maxL := maxL) (ret := ret) hM hbl hrc hrs hfr hlo hws hcw (fun a' U hW => word_at hW (Or.inl (by first | rfl | simp [Cond.onTables, Cond.keeps, Cond.steady])) hini)
theorem vx_runV (S : CallFix p m c cc nL s args Ts own) (hM : vx_Met l y ws rm Pc Qc XC mc ms free) (cw : CallW R s args own C index y bytes maxL ret ws rm mc ms n) (hp : PreV s H C b Pc As)
    (hg : g.method = m) (hn : As.length = n) (hsize : g.locals.size = nL) (hstack : g.stack = As.reverse ++ .ref b :: rest) (hW : 2 * g.monitorRoom + (rest.map fun v => v.category).sum ≤ 8) (hdg : decode cc g.pc = .ok (.invokevirtual index, 3)) (hf : cells + mc ≤ R.cells ∧ slots + ms ≤ R.slots) :
    vx_Run p l e R s m args below meth c H locs cells slots mc ms g rest (Qc (Value.ref b :: As).toArray) XC free := by
  have hK : vx_Back l R p e below s args y 3 8 (PreOf R mc ms Pc) (PostOf Qc mc ms free) (vx_Post XC mc ms free) := vx_callBack cw.1 hM hp.1
  obtain ⟨⟨-, -, -, -, -, -, hcode, -, hy, hlen, hl⟩, hin, hse⟩ := cw
  obtain ⟨hx, hb, hml, ho, -⟩ := S
  obtain ⟨-, ⟨cellB, hcB, hoB, hclB⟩, hPc⟩ := hp
  intro T hT X
  rcases vx_callV X hx (C := C) (bytes := bytes) (maxL := maxL) (ret := ret) ho hl hin hse hcode hy hK (by rw [hT]; exact hcB) hoB hclB hg (hsize.trans hml.symm) (argsL := As) (rest := rest) (fun sig h => hn.trans (hlen sig h)) hstack hW (by rw [hb]; exact hdg)
    (fun vm₁ hW₁ => ⟨hf.1, hf.2, hPc (T.setVm vm₁) hT hW₁⟩) with ⟨v, vm₁, ⟨U', l2, c2, s2⟩, hW₁, X', ⟨g', mk, t, L, e1, e2, hq, h1, hL, h2, h3⟩, st⟩ | ⟨q, vm₁, ⟨U', l2, c2, s2⟩, hW₁, X', ⟨g', mk, t, L, E, ce, e1, e2, hq, hce, hcv, hcl, h1, hL, h2, h3⟩, st⟩
  · dsimp only [Pt.U, Pt.locs, Pt.cells, Pt.slots] at X' e1 e2 h1 h2 h3 st
    subst h1; subst h2; subst h3
    exact Or.inl ⟨v, (T.setVm vm₁).calling g' mk (Value.ref b :: As).toArray, t, U', L, hT, X', hL, e1, e2, hq, st⟩
  · dsimp only [Pt.U, Pt.locs, Pt.cells, Pt.slots] at X' e1 e2 h1 h2 h3 st hcl
    subst h1; subst h2; subst h3
    exact Or.inr ⟨q, (T.setVm vm₁).calling g' mk (Value.ref b :: As).toArray, t, U', L, E, ce, hT, X', hL, e1, e2, hq, hce, hcv, vx_cls hW₁ hcl, st⟩
theorem vx_runS (S : CallFix p m c cc nL s args Ts own) (hM : vx_Met l y ws rm Pc Qc XC mc ms free) (cw : CallB R s args own index y bytes maxL ret ws rm mc ms n ∧ (Cond.static y).before args s = true) (hp : PreS s H Pc As)
    (hg : g.method = m) (hn : As.length = n) (hsize : g.locals.size = nL) (hstack : g.stack = As.reverse ++ rest) (hW : 2 * g.monitorRoom + (rest.map fun v => v.category).sum ≤ 8) (hdg : decode cc g.pc = .ok (.invokestatic index, 3)) (hf : cells + mc ≤ R.cells ∧ slots + ms ≤ R.slots) :
    vx_Run p l e R s m args below meth c H locs cells slots mc ms g rest (Qc As.toArray) XC free := by
  have hK : vx_Back l R p e below s args y 3 8 (PreOf R mc ms Pc) (PostOf Qc mc ms free) (vx_Post XC mc ms free) := vx_callBack cw.1 hM hp.1
  obtain ⟨⟨-, -, -, -, -, -, hcode, hini, hy, hlen, hl⟩, hstt⟩ := cw
  obtain ⟨hx, hb, hml, ho, -⟩ := S
  intro T hT X
  rcases vx_callS X hx (bytes := bytes) (maxL := maxL) (ret := ret) ho hl hstt hini hcode hy hK hg (hsize.trans hml.symm) (argsL := As) (rest := rest) (fun sig h => hn.trans (hlen sig h)) hstack hW (by rw [hb]; exact hdg)
    (fun vm₁ hW₁ => ⟨hf.1, hf.2, hp.2 (T.setVm vm₁) hT hW₁⟩) with ⟨v, vm₁, ⟨U', l2, c2, s2⟩, hW₁, X', ⟨g', mk, t, L, e1, e2, hq, h1, hL, h2, h3⟩, st⟩ | ⟨q, vm₁, ⟨U', l2, c2, s2⟩, hW₁, X', ⟨g', mk, t, L, E, ce, e1, e2, hq, hce, hcv, hcl, h1, hL, h2, h3⟩, st⟩
  · dsimp only [Pt.U, Pt.locs, Pt.cells, Pt.slots] at X' e1 e2 h1 h2 h3 st
    subst h1; subst h2; subst h3
    exact Or.inl ⟨v, (T.setVm vm₁).calling g' mk As.toArray, t, U', L, hT, X', hL, e1, e2, hq, st⟩
  · dsimp only [Pt.U, Pt.locs, Pt.cells, Pt.slots] at X' e1 e2 h1 h2 h3 st hcl
    subst h1; subst h2; subst h3
    exact Or.inr ⟨q, (T.setVm vm₁).calling g' mk As.toArray, t, U', L, E, ce, hT, X', hL, e1, e2, hq, hce, hcv, vx_cls hW₁ hcl, st⟩
end Runs
section Rows
variable {p : Program} {l : Launch} {e : Env} {R : Room} {s : State} {m : MethodId} {args : Array Value} {below : List Frame} {meth : Method} {c : Code} {H : Heap} {locs : List Loc} {cells slots : Nat} {Q : State → Prop}
variable {mc ms : Nat} {free : Addr → Prop} {A0 A1 : Nat → Prop} {H0 : Heap} {a : Array Value} {pc : Nat} {ls : Array Slot} {st0 rest : List Value}
theorem vx_keep {st₀ t T' : State} {L : List Loc} (h0 : st₀.heap = H) (e1 : T'.heap = t.heap) (hS : va_S A0 H0 H locs) (hA : ∀ q, q < H.size → A1 q → A0 q) (hf : ∀ q, free q → A0 q) (hL : ∀ q ∈ L, free q.base) (hF : va_F A1 st₀ t) :
    H.size ≤ T'.heap.size ∧ (∀ q : Nat, q < H.size → ¬ A1 q → T'.heap[q]? = H[q]?) ∧ va_S A0 H0 T'.heap (locs ++ L) := by
  obtain ⟨hz, hk⟩ := hF
  rw [h0] at hz hk
  exact ⟨by rw [e1]; exact hz, fun q h1 h2 => by rw [e1]; exact hk q h1 h2,
    ⟨Nat.le_trans hS.1 (by rw [e1]; exact hz), fun q h1 h2 => by rw [e1, hk q (Nat.lt_of_lt_of_le h1 hS.1) (fun z => h2 (hA q (Nat.lt_of_lt_of_le h1 hS.1) z))]; exact hS.2.1 q h1 h2, fun q hq => by
      rcases List.mem_append.mp hq with h | h
      · exact hS.2.2 q h
      · exact hf _ (hL q h)⟩⟩
theorem vx_calli {S SX : Type} {post : Int32 → S → Prop} {px : SX → Prop} {B : S → State → Prop} {BX : String → SX → State → Prop} {AX : Nat → Prop} (hr : vx_Run p l e R s m args below meth c H locs cells slots mc ms (F0 m pc ls st0) rest (va_Qi post B A1 a) (vx_X px BX AX) free) (hS : va_S A0 H0 H locs) (hA : ∀ q, q < H.size → A1 q → A0 q) (hf : ∀ q, free q → A0 q) (hAX : ∀ q, q < H.size → AX q → A0 q)
    (kx : ∀ (E : String) (ce : Cell) (q9 : Addr) (u : SX) (t : State) (H1 : Heap) (locs1 : List Loc), t.heap = H1 → s.vm.Alike t.vm → px u → BX E u t → H.size ≤ H1.size → (∀ q : Nat, q < H.size → ¬ AX q → H1[q]? = H[q]?) → va_S A0 H0 H1 locs1 → H1[q9]? = some ce → ce.vm = .none → s.vm.findClass E = some ce.cls → vx_W p l e R s m args below meth c H1 locs1 (cells + mc) (slots + ms) Q (F0 m pc ls rest) q9)
    (kk : ∀ (r : Int32) (u : S) (t : State) (H1 : Heap) (locs1 : List Loc), t.heap = H1 → s.vm.Alike t.vm → post r u → B u t → H.size ≤ H1.size → (∀ q : Nat, q < H.size → ¬ A1 q → H1[q]? = H[q]?) → va_S A0 H0 H1 locs1 → W p l e R s m args below meth c H1 locs1 (cells + mc) (slots + ms) Q (F0 m (pc + 3) ls (.int r :: rest))) : W p l e R s m args below meth c H locs cells slots Q (F0 m pc ls st0) := by
  intro T hT X
  rcases hr T hT X with ⟨v, st₀, t, T', L, h0, X', hL, e1, e2, ⟨⟨r, u, hv, hp, hb⟩, hF⟩, st⟩ | ⟨q, st₀, t, T', L, E, ce, h0, X', hL, e1, e2, ⟨u, hp, hb, hF⟩, hce, hcv, hcl, st⟩
  · cases hv
    obtain ⟨k1, k2, k3⟩ := vx_keep h0 e1 hS hA hf hL hF
    obtain ⟨t2, a1, b1⟩ := kk r u t T'.heap (locs ++ L) e1.symm (by rw [← e2]; exact X'.warmed.alike) hp hb k1 k2 k3 T' rfl X'
    exact ⟨t2, st t2 a1, b1⟩
  · obtain ⟨k1, k2, k3⟩ := vx_keep h0 e1 hS hAX hf hL hF
    obtain ⟨t2, a1, b1⟩ := kx E ce q u t T'.heap (locs ++ L) e1.symm (by rw [← e2]; exact X'.warmed.alike) hp hb k1 k2 k3 (by rw [e1]; exact hce) hcv hcl T' rfl X'
    exact ⟨t2, st.trans a1, b1⟩
theorem vx_calll {S SX : Type} {post : Int64 → S → Prop} {px : SX → Prop} {B : S → State → Prop} {BX : String → SX → State → Prop} {AX : Nat → Prop} (hr : vx_Run p l e R s m args below meth c H locs cells slots mc ms (F0 m pc ls st0) rest (va_Ql post B A1 a) (vx_X px BX AX) free) (hS : va_S A0 H0 H locs) (hA : ∀ q, q < H.size → A1 q → A0 q) (hf : ∀ q, free q → A0 q) (hAX : ∀ q, q < H.size → AX q → A0 q)
    (kx : ∀ (E : String) (ce : Cell) (q9 : Addr) (u : SX) (t : State) (H1 : Heap) (locs1 : List Loc), t.heap = H1 → s.vm.Alike t.vm → px u → BX E u t → H.size ≤ H1.size → (∀ q : Nat, q < H.size → ¬ AX q → H1[q]? = H[q]?) → va_S A0 H0 H1 locs1 → H1[q9]? = some ce → ce.vm = .none → s.vm.findClass E = some ce.cls → vx_W p l e R s m args below meth c H1 locs1 (cells + mc) (slots + ms) Q (F0 m pc ls rest) q9)
    (kk : ∀ (r : Int64) (u : S) (t : State) (H1 : Heap) (locs1 : List Loc), t.heap = H1 → s.vm.Alike t.vm → post r u → B u t → H.size ≤ H1.size → (∀ q : Nat, q < H.size → ¬ A1 q → H1[q]? = H[q]?) → va_S A0 H0 H1 locs1 → W p l e R s m args below meth c H1 locs1 (cells + mc) (slots + ms) Q (F0 m (pc + 3) ls (.long r :: rest))) : W p l e R s m args below meth c H locs cells slots Q (F0 m pc ls st0) := by
  intro T hT X
  rcases hr T hT X with ⟨v, st₀, t, T', L, h0, X', hL, e1, e2, ⟨⟨r, u, hv, hp, hb⟩, hF⟩, st⟩ | ⟨q, st₀, t, T', L, E, ce, h0, X', hL, e1, e2, ⟨u, hp, hb, hF⟩, hce, hcv, hcl, st⟩
  · cases hv
    obtain ⟨k1, k2, k3⟩ := vx_keep h0 e1 hS hA hf hL hF
    obtain ⟨t2, a1, b1⟩ := kk r u t T'.heap (locs ++ L) e1.symm (by rw [← e2]; exact X'.warmed.alike) hp hb k1 k2 k3 T' rfl X'
    exact ⟨t2, st t2 a1, b1⟩
  · obtain ⟨k1, k2, k3⟩ := vx_keep h0 e1 hS hAX hf hL hF
    obtain ⟨t2, a1, b1⟩ := kx E ce q u t T'.heap (locs ++ L) e1.symm (by rw [← e2]; exact X'.warmed.alike) hp hb k1 k2 k3 (by rw [e1]; exact hce) hcv hcl T' rfl X'
    exact ⟨t2, st.trans a1, b1⟩
theorem vx_callf {S SX : Type} {post : UInt32 → S → Prop} {px : SX → Prop} {B : S → State → Prop} {BX : String → SX → State → Prop} {AX : Nat → Prop} (hr : vx_Run p l e R s m args below meth c H locs cells slots mc ms (F0 m pc ls st0) rest (va_Qf post B A1 a) (vx_X px BX AX) free) (hS : va_S A0 H0 H locs) (hA : ∀ q, q < H.size → A1 q → A0 q) (hf : ∀ q, free q → A0 q) (hAX : ∀ q, q < H.size → AX q → A0 q)
    (kx : ∀ (E : String) (ce : Cell) (q9 : Addr) (u : SX) (t : State) (H1 : Heap) (locs1 : List Loc), t.heap = H1 → s.vm.Alike t.vm → px u → BX E u t → H.size ≤ H1.size → (∀ q : Nat, q < H.size → ¬ AX q → H1[q]? = H[q]?) → va_S A0 H0 H1 locs1 → H1[q9]? = some ce → ce.vm = .none → s.vm.findClass E = some ce.cls → vx_W p l e R s m args below meth c H1 locs1 (cells + mc) (slots + ms) Q (F0 m pc ls rest) q9)
    (kk : ∀ (r : UInt32) (u : S) (t : State) (H1 : Heap) (locs1 : List Loc), t.heap = H1 → s.vm.Alike t.vm → post r u → B u t → H.size ≤ H1.size → (∀ q : Nat, q < H.size → ¬ A1 q → H1[q]? = H[q]?) → va_S A0 H0 H1 locs1 → W p l e R s m args below meth c H1 locs1 (cells + mc) (slots + ms) Q (F0 m (pc + 3) ls (.float r :: rest))) : W p l e R s m args below meth c H locs cells slots Q (F0 m pc ls st0) := by
  intro T hT X
  rcases hr T hT X with ⟨v, st₀, t, T', L, h0, X', hL, e1, e2, ⟨⟨r, u, hv, hp, hb⟩, hF⟩, st⟩ | ⟨q, st₀, t, T', L, E, ce, h0, X', hL, e1, e2, ⟨u, hp, hb, hF⟩, hce, hcv, hcl, st⟩
  · cases hv
    obtain ⟨k1, k2, k3⟩ := vx_keep h0 e1 hS hA hf hL hF
    obtain ⟨t2, a1, b1⟩ := kk r u t T'.heap (locs ++ L) e1.symm (by rw [← e2]; exact X'.warmed.alike) hp hb k1 k2 k3 T' rfl X'
    exact ⟨t2, st t2 a1, b1⟩
  · obtain ⟨k1, k2, k3⟩ := vx_keep h0 e1 hS hAX hf hL hF
    obtain ⟨t2, a1, b1⟩ := kx E ce q u t T'.heap (locs ++ L) e1.symm (by rw [← e2]; exact X'.warmed.alike) hp hb k1 k2 k3 (by rw [e1]; exact hce) hcv hcl T' rfl X'
    exact ⟨t2, st.trans a1, b1⟩
theorem vx_calld {S SX : Type} {post : UInt64 → S → Prop} {px : SX → Prop} {B : S → State → Prop} {BX : String → SX → State → Prop} {AX : Nat → Prop} (hr : vx_Run p l e R s m args below meth c H locs cells slots mc ms (F0 m pc ls st0) rest (va_Qd post B A1 a) (vx_X px BX AX) free) (hS : va_S A0 H0 H locs) (hA : ∀ q, q < H.size → A1 q → A0 q) (hf : ∀ q, free q → A0 q) (hAX : ∀ q, q < H.size → AX q → A0 q)
    (kx : ∀ (E : String) (ce : Cell) (q9 : Addr) (u : SX) (t : State) (H1 : Heap) (locs1 : List Loc), t.heap = H1 → s.vm.Alike t.vm → px u → BX E u t → H.size ≤ H1.size → (∀ q : Nat, q < H.size → ¬ AX q → H1[q]? = H[q]?) → va_S A0 H0 H1 locs1 → H1[q9]? = some ce → ce.vm = .none → s.vm.findClass E = some ce.cls → vx_W p l e R s m args below meth c H1 locs1 (cells + mc) (slots + ms) Q (F0 m pc ls rest) q9)
    (kk : ∀ (r : UInt64) (u : S) (t : State) (H1 : Heap) (locs1 : List Loc), t.heap = H1 → s.vm.Alike t.vm → post r u → B u t → H.size ≤ H1.size → (∀ q : Nat, q < H.size → ¬ A1 q → H1[q]? = H[q]?) → va_S A0 H0 H1 locs1 → W p l e R s m args below meth c H1 locs1 (cells + mc) (slots + ms) Q (F0 m (pc + 3) ls (.double r :: rest))) : W p l e R s m args below meth c H locs cells slots Q (F0 m pc ls st0) := by
  intro T hT X
  rcases hr T hT X with ⟨v, st₀, t, T', L, h0, X', hL, e1, e2, ⟨⟨r, u, hv, hp, hb⟩, hF⟩, st⟩ | ⟨q, st₀, t, T', L, E, ce, h0, X', hL, e1, e2, ⟨u, hp, hb, hF⟩, hce, hcv, hcl, st⟩
  · cases hv
    obtain ⟨k1, k2, k3⟩ := vx_keep h0 e1 hS hA hf hL hF
    obtain ⟨t2, a1, b1⟩ := kk r u t T'.heap (locs ++ L) e1.symm (by rw [← e2]; exact X'.warmed.alike) hp hb k1 k2 k3 T' rfl X'
    exact ⟨t2, st t2 a1, b1⟩
  · obtain ⟨k1, k2, k3⟩ := vx_keep h0 e1 hS hAX hf hL hF
    obtain ⟨t2, a1, b1⟩ := kx E ce q u t T'.heap (locs ++ L) e1.symm (by rw [← e2]; exact X'.warmed.alike) hp hb k1 k2 k3 (by rw [e1]; exact hce) hcv hcl T' rfl X'
    exact ⟨t2, st.trans a1, b1⟩
theorem vx_callv {S SX : Type} {post : S → Prop} {px : SX → Prop} {B : S → State → Prop} {BX : String → SX → State → Prop} {AX : Nat → Prop} (hr : vx_Run p l e R s m args below meth c H locs cells slots mc ms (F0 m pc ls st0) rest (va_Qv post B A1 a) (vx_X px BX AX) free) (hS : va_S A0 H0 H locs) (hA : ∀ q, q < H.size → A1 q → A0 q) (hf : ∀ q, free q → A0 q) (hAX : ∀ q, q < H.size → AX q → A0 q)
    (kx : ∀ (E : String) (ce : Cell) (q9 : Addr) (u : SX) (t : State) (H1 : Heap) (locs1 : List Loc), t.heap = H1 → s.vm.Alike t.vm → px u → BX E u t → H.size ≤ H1.size → (∀ q : Nat, q < H.size → ¬ AX q → H1[q]? = H[q]?) → va_S A0 H0 H1 locs1 → H1[q9]? = some ce → ce.vm = .none → s.vm.findClass E = some ce.cls → vx_W p l e R s m args below meth c H1 locs1 (cells + mc) (slots + ms) Q (F0 m pc ls rest) q9)
    (kk : ∀ (u : S) (t : State) (H1 : Heap) (locs1 : List Loc), t.heap = H1 → s.vm.Alike t.vm → post u → B u t → H.size ≤ H1.size → (∀ q : Nat, q < H.size → ¬ A1 q → H1[q]? = H[q]?) → va_S A0 H0 H1 locs1 → W p l e R s m args below meth c H1 locs1 (cells + mc) (slots + ms) Q (F0 m (pc + 3) ls (rest))) : W p l e R s m args below meth c H locs cells slots Q (F0 m pc ls st0) := by
  intro T hT X
  rcases hr T hT X with ⟨v, st₀, t, T', L, h0, X', hL, e1, e2, ⟨⟨u, hv, hp, hb⟩, hF⟩, st⟩ | ⟨q, st₀, t, T', L, E, ce, h0, X', hL, e1, e2, ⟨u, hp, hb, hF⟩, hce, hcv, hcl, st⟩
  · cases hv
    obtain ⟨k1, k2, k3⟩ := vx_keep h0 e1 hS hA hf hL hF
    obtain ⟨t2, a1, b1⟩ := kk u t T'.heap (locs ++ L) e1.symm (by rw [← e2]; exact X'.warmed.alike) hp hb k1 k2 k3 T' rfl X'
    exact ⟨t2, st t2 a1, b1⟩
  · obtain ⟨k1, k2, k3⟩ := vx_keep h0 e1 hS hAX hf hL hF
    obtain ⟨t2, a1, b1⟩ := kx E ce q u t T'.heap (locs ++ L) e1.symm (by rw [← e2]; exact X'.warmed.alike) hp hb k1 k2 k3 (by rw [e1]; exact hce) hcv hcl T' rfl X'
    exact ⟨t2, st.trans a1, b1⟩
/-- caught by the row x of this method's table; the rows ahead don't take it -/
theorem vx_catch {own name : String} {E : String} {ce : Cell} {q : Addr} (hown : s.vm.findClass own = some m.cls) (pre : List ExceptionTableEntry) (x : ExceptionTableEntry) (suf : List ExceptionTableEntry) (hsplit : c.exceptionTable.toList = pre ++ x :: suf)
    (hpass : ∀ z ∈ pre, covers z pc = false ∨ (z.catchType ≠ 0 ∧ ∃ nm : String, (Cond.classLink own z.catchType nm).before args s = true ∧ va_Nc E nm s)) (hx : covers x pc = true) (h0 : x.catchType ≠ 0)
    (hlink : (Cond.classLink own x.catchType name).before args s = true) (hcast : (Cond.castable E name).before args s = true) (hcell : H[q]? = some ce) (hv : ce.vm = .none) (hcl : s.vm.findClass E = some ce.cls)
    (kk : W p l e R s m args below meth c H locs cells slots Q (F0 m x.handlerPc ls [.ref q])) : vx_W p l e R s m args below meth c H locs cells slots Q (F0 m pc ls rest) q := by
  intro T hT X
  have hpl : e.platform.magicAccessors = ({} : Platform).magicAccessors := by rw [X.admits.platform]
  obtain ⟨c3, c4, hc3, hc4, hasg⟩ := Cond.castable_spec hcast
  cases Option.some.inj (hc3.symm.trans hcl)
  obtain ⟨c5, hc5, hcl5⟩ := Cond.classLink_spec hown hlink e.platform hpl
  cases Option.some.inj (hc4.symm.trans hc5)
  obtain ⟨vm', X', st⟩ := X.thenCaughtThrough q (g := F0 m pc ls rest) rfl (Steps.refl _) (by rw [hT]; exact hcell) (by rw [hv]; rfl) (by obtain ⟨k9, h9, -⟩ := Vm.findClass_spec hcl; exact ⟨k9, h9⟩) pre x suf hsplit
    (fun z hz => by
      rcases hpass z hz with h | ⟨hz0, nm, hl1, hn1⟩
      · exact Or.inl h
      · obtain ⟨c6, hc6, hcl6⟩ := Cond.classLink_spec hown hl1 e.platform hpl
        obtain ⟨a8, b8, h1, h2, h3⟩ := hn1
        cases Option.some.inj (h1.symm.trans hcl)
        cases Option.some.inj (h2.symm.trans hc6)
        exact Or.inr ⟨hz0, _, hcl6, h3⟩) hx (Or.inr ⟨h0, c4, hcl5, hasg⟩)
  obtain ⟨t, a1, b1⟩ := kk (T.setVm vm') hT X'
  exact ⟨t, st.trans a1, b1⟩
end Rows
section Ends
variable {p : Program} {l : Launch} {e : Env} {R : Room} {s : State} {m : MethodId} {args : Array Value} {below : List Frame} {meth : Method} {c : Code} {H : Heap} {locs : List Loc} {cells slots : Nat} {Q : State → Prop}
variable {mc ms : Nat} {free : Addr → Prop} {A0 A1 : Nat → Prop} {H0 : Heap} {a : Array Value} {ls : Array Slot} {st0 rest : List Value}
variable {Qc : Array Value → State → Outcome → State → Prop} {XC : String → State → State → Prop}
/-- what a body that may throw owes at its end -/
def vx_MQ (below : List Frame) (Qc : Array Value → State → Outcome → State → Prop) (XC : String → State → State → Prop) (a : Array Value) (s : State) (mc ms : Nat) (free : Addr → Prop) : State → Prop := fun t =>
  ∃ o, t.status = .running ∧ Ended t below o ∧ vx_Q Qc XC mc ms free a s o t
theorem vx_ret {g : JFrame} {mc ms : Nat} (k : W p l e R s m args below meth c H locs cells slots (MQ below Qc args s mc ms free) g) : W p l e R s m args below meth c H locs cells slots (vx_MQ below Qc XC args s mc ms free) g := by
  intro T hT X
  obtain ⟨t, a1, o, b1, b2, b3, b4⟩ := k T hT X
  exact ⟨t, a1, o, b1, b2, Or.inl ⟨b3, b4⟩⟩
/-- not caught here: it goes on to the caller -/
theorem vx_widen {g : JFrame} {q : Addr} {k n : Nat} (h1 : cells ≤ k) (h2 : slots ≤ n) (kk : vx_W p l e R s m args below meth c H locs k n Q g q) : vx_W p l e R s m args below meth c H locs cells slots Q g q := fun T hT X => kk T hT (stand_widen X h1 h2)
theorem vx_out {pc : Nat} {E : String} {ce : Cell} {q : Addr} {mc ms : Nat} (hout : ∀ x ∈ c.exceptionTable.toList, covers x pc = false) (hlocks : meth.locks = false) (hcell : H[q]? = some ce) (hv : ce.vm = .none) (hcl : s.vm.findClass E = some ce.cls)
    (hx : ∀ t : State, t.heap = H → s.vm.Alike t.vm → XC E s t) (hf : ∀ z ∈ locs, free z.base) (hc : cells ≤ mc) (hs : slots ≤ ms) :
    vx_W p l e R s m args below meth c H locs cells slots (vx_MQ below Qc XC args s mc ms free) (F0 m pc ls rest) q := by
  intro T hT X
  obtain ⟨st1, hrun, hend, hW, hsm⟩ := X.leaveThrown q (g := F0 m pc ls rest) rfl rfl rfl hout hlocks
  have hcell9 : (T.setFrames (.throwing q :: below)).heap[q]? = some ce := by
    show T.heap[q]? = some ce
    rw [hT]; exact hcell
  exact ⟨_, st1, .threw q, hrun, hend, Or.inr ⟨q, rfl, E, ce, locs, hx _ hT hW.alike, hcell9, hv, hcl, hW, hsm.mono hc hs, hf⟩⟩
theorem vx_frame {U : State} {k n : Nat} (h : s.sameButNew ({ U with vm := s.vm } : State) locs k n) : s.heap.size ≤ U.heap.size ∧ ∀ q : Nat, q < s.heap.size → (∀ z ∈ locs, z.base ≠ q) → U.heap[q]? = s.heap[q]? := by
  obtain ⟨-, h2, -, -, -, h6⟩ := h
  refine ⟨h2, fun q hq hz => ?_⟩
  obtain ⟨c9, e1, e2, e3, e4⟩ := h6 q _ (Array.getElem?_eq_getElem hq)
  have hs : c9.slots = (s.heap[q]).slots := Array.ext_getElem? fun i => e4 i fun hm => hz _ hm rfl
  have h9 : c9 = s.heap[q] := by
    rw [hs] at e2
    exact e2
  have e5 : U.heap[q]? = some c9 := e1
  rw [e5, h9, Array.getElem?_eq_getElem hq]
/-- the words of a throw but the four that speak of the heap -/
def vx_no (w : Cond) : Bool := decide (w ≠ .isRef (.static Bundle.tN "UNASSIGNED_STACK" Bundle.steD)) && decide (w ≠ .isRef (.static Bundle.tN "SUPPRESSED_SENTINEL" Bundle.listD)) && decide (w ≠ .laysStatic Bundle.tN "UNASSIGNED_STACK" Bundle.steD) && decide (w ≠ .laysStatic Bundle.tN "SUPPRESSED_SENTINEL" Bundle.listD)
def vx_at0 (own : String) (ic : Nat) (X : String) (names : List String) : List Cond := (Bundle.ownAtoms0 own ic X names).filter vx_no
def vx_atS (own : String) (ic : Nat) (X : String) (names : List String) : List Cond := (Bundle.ownAtoms own ic X names).filter vx_no
/-- a word that the tables alone decide, or a good one -/
def vx_ot (w : Cond) : Bool := w.onTables || goodWord w
theorem vx_ot_at {args a' : Array Value} {s U : State} {w : Cond} (hW : s.WarmedH U.vm) (hvm : s.vm = U.vm) (hg : vx_ot w = true) (h : w.before args s = true) : w.before a' U = true := by
  simp only [vx_ot, Bool.or_eq_true] at hg
  rcases hg with hg | hg
  · exact va_tabs hg hvm h
  · exact word_at hW (good_of_word hg) h
/-- a list's words: the good ones out of the method's own list, the others by premises of their own -/
theorem vx_hat {args : Array Value} {s : State} {L B : List Cond} (h1 : ∀ w ∈ L.filter goodWord, w.before args s = true) (h2 : ∀ w ∈ L.filter (fun w => !goodWord w), w ∈ B) (h3 : ∀ w ∈ B, w.before args s = true) : ∀ w ∈ L, w.before args s = true := by
  intro w hw
  by_cases g : goodWord w = true
  · exact h1 w (List.mem_filter.mpr ⟨hw, g⟩)
  · refine h3 w (h2 w (List.mem_filter.mpr ⟨hw, ?_⟩))
    show (!goodWord w) = true
    cases hgw : goodWord w
    · rfl
    · exact absurd hgw g
theorem vx_c {args : Array Value} {s : State} {w : Cond} {B : List Cond} (h : w.before args s = true) (t : ∀ w ∈ B, w.before args s = true) : ∀ w' ∈ w :: B, w'.before args s = true := fun w' h' => (List.mem_cons.mp h').elim (fun e => by rw [e]; exact h) (t w')
theorem vx_n {args : Array Value} {s : State} : ∀ w ∈ ([] : List Cond), w.before args s = true := fun _ h => nomatch h
theorem vx_own {args : Array Value} {s : State} {L : List Cond} (h1 : ∀ w ∈ L.filter vx_no, w.before args s = true)
    (hU : (Cond.isRef (.static Bundle.tN "UNASSIGNED_STACK" Bundle.steD)).before args s = true) (hN : (Cond.isRef (.static Bundle.tN "SUPPRESSED_SENTINEL" Bundle.listD)).before args s = true)
    (lU : (Cond.laysStatic Bundle.tN "UNASSIGNED_STACK" Bundle.steD).before args s = true) (lN : (Cond.laysStatic Bundle.tN "SUPPRESSED_SENTINEL" Bundle.listD).before args s = true) : ∀ w ∈ L, w.before args s = true := by
  intro w hw
  by_cases e1 : w = .isRef (.static Bundle.tN "UNASSIGNED_STACK" Bundle.steD)
  · rw [e1]; exact hU
  · by_cases e2 : w = .isRef (.static Bundle.tN "SUPPRESSED_SENTINEL" Bundle.listD)
    · rw [e2]; exact hN
    · by_cases e3 : w = .laysStatic Bundle.tN "UNASSIGNED_STACK" Bundle.steD
      · rw [e3]; exact lU
      · by_cases e4 : w = .laysStatic Bundle.tN "SUPPRESSED_SENTINEL" Bundle.listD
        · rw [e4]; exact lN
        · exact h1 w (List.mem_filter.mpr ⟨hw, by unfold vx_no; rw [decide_eq_true e1, decide_eq_true e2, decide_eq_true e3, decide_eq_true e4]; rfl⟩)
/-- where a static field lies, its class's statics cell in H -/
def vx_L (C n d : String) (A : Nat → Prop) (U : State) (H : Heap) : Prop := ∃ (c : ClassId) (k : Class) (i : Nat) (f : Field) (a : Nat) (cell : Cell), U.vm.findClass C = some c ∧ U.fieldFound? C n d = some (c, k, i, f) ∧ f.isStatic = true ∧ k.statics = some a ∧ H[a]? = some cell ∧ cell.vm.isStatics = true ∧ cell.cls = c ∧ f.slot < cell.slots.size ∧ k.staticTypes[f.slot]? = some f.type ∧ ¬ A a
theorem vx_L.moved {C n d : String} {A : Nat → Prop} {u U : State} {H : Heap} (hvm : u.vm.Alike U.vm) (h : vx_L C n d A u H) : vx_L C n d A U H := by
  obtain ⟨c, k, i, f, a, cell, h1, h2, h3, h4, h5, h6, h7, h8, h9, h10⟩ := h
  obtain ⟨k', hi', he⟩ := State.fieldFound?_setVm hvm h2
  exact ⟨c, k', i, f, a, cell, by rw [hvm.findClass]; exact h1, hi', h3, by rw [he]; exact h4, h5, h6, h7, h8, by rw [he]; exact h9, h10⟩
theorem vx_L.kept {C n d : String} {A : Nat → Prop} {U : State} {H H1 : Heap} (h : vx_L C n d A U H) (hq : ∀ a : Nat, a < H.size → ¬ A a → H1[a]? = H[a]?) : vx_L C n d A U H1 := by
  obtain ⟨c, k, i, f, a, cell, h1, h2, h3, h4, h5, h6, h7, h8, h9, h10⟩ := h
  exact ⟨c, k, i, f, a, cell, h1, h2, h3, h4, by rw [hq a (Array.getElem?_eq_some_iff.mp h5).1 h10]; exact h5, h6, h7, h8, h9, h10⟩
theorem vx_L.narrow {C n d : String} {A B : Nat → Prop} {U : State} {H : Heap} (h : vx_L C n d A U H) (hAB : ∀ q, B q → A q) : vx_L C n d B U H := by
  obtain ⟨c, k, i, f, a, cell, h1, h2, h3, h4, h5, h6, h7, h8, h9, h10⟩ := h
  exact ⟨c, k, i, f, a, cell, h1, h2, h3, h4, h5, h6, h7, h8, h9, fun z => h10 (hAB _ z)⟩
theorem vx_L.word {C n d : String} {A : Nat → Prop} {s : State} {args : Array Value} (h : vx_L C n d A s s.heap) : (Cond.laysStatic C n d).before args s = true := by
  obtain ⟨c, k, i, f, a, cell, h1, h2, h3, h4, h5, h6, h7, h8, h9, -⟩ := h
  show (Cond.laysStatic C n d).holds args s none s [] = true
  exact Cond.laysStatic_of h1 h2 h3 h4 h5 h6 h7 h8 h9
/-- .. and what it holds: null or some reference -/
def vx_Zq (C n d : String) (A : Nat → Prop) (U : State) (H : Heap) : Prop := va_Zq C n d A U H ∧ vx_L C n d A U H
theorem vx_Zq.moved {C n d : String} {A : Nat → Prop} {u U : State} {H : Heap} (hvm : u.vm.Alike U.vm) (h : vx_Zq C n d A u H) : vx_Zq C n d A U H := ⟨va_Zq.moved hvm h.1, vx_L.moved hvm h.2⟩
theorem vx_Zq.kept {C n d : String} {A : Nat → Prop} {U : State} {H H1 : Heap} (h : vx_Zq C n d A U H) (hq : ∀ a : Nat, a < H.size → ¬ A a → H1[a]? = H[a]?) : vx_Zq C n d A U H1 := ⟨va_Zq.kept h.1 hq, vx_L.kept h.2 hq⟩
theorem vx_Zq.narrow {C n d : String} {A B : Nat → Prop} {U : State} {H : Heap} (h : vx_Zq C n d A U H) (hAB : ∀ q, B q → A q) : vx_Zq C n d B U H := ⟨va_Zq.narrow h.1 hAB, vx_L.narrow h.2 hAB⟩
theorem vx_Zqof {args : Array Value} {s : State} {C n d : String} {A : Nat → Prop} (hl : (Cond.laysStatic C n d).before args s = true) (hini : (Cond.initialized C).before args s = true) (h : (Cond.isRef (.static C n d)).before args s = true) (hA : ∀ a : Nat, a < s.heap.size → ¬ A a) : vx_Zq C n d A s s.heap := by
  refine ⟨va_Zqof hl hini h hA, ?_⟩
  obtain ⟨c, k, i, f, a, cell, h1, h2, h3, h4, h5, h6, h7, h8, h9⟩ := Cond.laysStatic_spec hl
  exact ⟨c, k, i, f, a, cell, h1, h2, h3, h4, h5, h6, h7, h8, h9, hA a (Array.getElem?_eq_some_iff.mp h5).1⟩
theorem vx_isRef {C n d : String} {v : Value} {A : Nat → Prop} {s : State} {args : Array Value} (h : va_Z C n d v A s s.heap) (hv : v.isRef = true) : (Cond.isRef (.static C n d)).before args s = true := by
  obtain ⟨cf, kf, fi, f, a, cell, h1, h2, h3, h4, h5, h6, h7, -⟩ := h
  have he : (Term.static C n d).eval args s none [] s = some v := by
    simp [Term.eval, State.fieldNamed?, h1, h2, h4, h5, h6, h7]
  simp only [Cond.before, Cond.holds, Cond.value, he]
  cases v <;> simp_all [Value.isRef]
theorem vx_isRefq {C n d : String} {A : Nat → Prop} {s : State} {args : Array Value} (h : va_Zq C n d A s s.heap) : (Cond.isRef (.static C n d)).before args s = true := by
  rcases h with h | ⟨t, h⟩
  · exact vx_isRef h rfl
  · exact vx_isRef h rfl
/-- the same frame, seen from here: as if the method were called anew in this heap -/
theorem vx_rebase {T : State} (X : Stand p l e R s m args below meth c T locs cells slots) {R' : Room} (hf : R'.frames ≤ R.frames) (hl : R'.locals ≤ R.locals) (hc : cells + R'.cells ≤ R.cells) (hs : slots + R'.slots ≤ R.slots) :
    Stand p l e R' ((T.setVm s.vm).setFrames (.invoking m args :: below)) m args below meth c T [] 0 0 := by
  have htop : (T.setVm s.vm).topJava?.isSome := X.here.top
  have hF : ((T.setVm s.vm).setFrames (.invoking m args :: below)).frames = .invoking m args :: below := State.frames_setFrames _ (State.cur_lt_of_top htop)
  obtain ⟨g₀, hg0⟩ := Option.isSome_iff_exists.mp htop
  obtain ⟨r, hr⟩ := State.topJava?_eq_some.mp hg0
  have hl9 : e.platform.stackLimits (T.setVm s.vm).me = e.platform.stackLimits s.me := X.limits
  have hb9 : (T.setVm s.vm).me.stackBytes = s.me.stackBytes := X.bytes
  refine ⟨X.admits, X.cas, X.clock, hF, ?_, X.hears, X.method, X.code, X.here, X.tail, X.warmed, ?_, ?_, ?_⟩
  · have h := X.room
    have hU : ((T.setVm s.vm).setFrames (.invoking m args :: below)).localsInUse = s.localsInUse := by
      rw [State.localsInUse_invoking hF (meth := meth) (c := c) X.method X.code, State.localsInUse_invoking X.frames X.method X.code]
    simp only [State.hasRoom, Bool.and_eq_true, decide_eq_true_eq] at h ⊢
    obtain ⟨⟨⟨⟨h1, h2, h3, h4, h5, h6⟩, h7⟩, h8⟩, h9⟩ := h
    rw [X.frames, List.length_cons] at h2 h3
    have q1 := X.heapSize
    have q2 := X.used
    simp only [hF, hU, List.length_cons, State.stackLimits_setFrames, State.stackBytes_setFrames, hl9, hb9]
    refine ⟨⟨⟨⟨by omega, by omega, by omega, by omega, by omega, h6⟩, ?_⟩, ?_⟩, X.book⟩
    · show T.heap.size + R'.cells ≤ e.platform.maxCells
      omega
    · show T.slotsUsed + R'.slots ≤ e.platform.maxSlots
      omega
  · rw [State.stackLimits_setFrames]; rfl
  · rw [State.stackBytes_setFrames]; rfl
  · refine ⟨?_, Nat.le_refl _, Nat.le_refl _, ?_, ?_, fun a c9 h9 => ⟨c9, h9, rfl, rfl, fun _ _ => rfl⟩⟩
    · obtain ⟨t, ht, -⟩ := State.frames_cons hr
      show T.setVm s.vm = { ((T.setVm s.vm).setFrames (.invoking m args :: below)).setFrames (T.setVm s.vm).frames with heap := T.heap, slotsUsed := T.slotsUsed }
      rw [State.setFrames_setFrames, State.setFrames_self ht]
      rfl
    · show T.slotsUsed = T.slotsUsed + ((T.heap.toList.drop T.heap.size).map (·.slots.size)).sum
      rw [List.drop_eq_nil_of_le (Nat.le_of_eq Array.length_toList)]
      rfl
    · show ((T.heap.toList.drop T.heap.size).map (·.slots.size)).sum ≤ 0
      rw [List.drop_eq_nil_of_le (Nat.le_of_eq Array.length_toList)]
      exact Nat.le_refl _
/-- 'throw new E()': new; dup; invokespecial; athrow -/
theorem vx_throw0 {cc : ByteArray} {pc : Nat} (hexec : p.tables.exec = Jvm.exec) (hb : c.code = cc) (hl : l.stackTraces = false) {own cls : String} {names : List String} {ik ic mc ms : Nat} {A : Nat → Prop}
    (hown : s.vm.findClass own = some m.cls) (hcls : Bundle.fit cls = true) (hnames : ∀ n ∈ names, Bundle.fit n = true)
    (hk : (Cond.classLink own ik cls).before args s = true) (hini : (Cond.initialized cls).before args s = true) (hat : ∀ w ∈ vx_at0 own ic cls names, w.before args s = true)
    (hgood : ∀ w ∈ Cond.classLink own ik cls :: Cond.initialized cls :: vx_at0 own ic cls names, vx_ot w = true)
    (hU : vx_Zq Bundle.tN "UNASSIGNED_STACK" Bundle.steD A s s.heap) (hN : vx_Zq Bundle.tN "SUPPRESSED_SENTINEL" Bundle.listD A s s.heap) (hS : va_S A s.heap H locs) (hsize : ls.size = c.maxLocals)
    (d0 : decode cc pc = .ok (.new ik, 3)) (d3 : decode cc (pc + 3) = .ok (.dup, 1)) (d4 : decode cc (pc + 4) = .ok (.invokespecial ic, 3)) (d7 : decode cc (pc + 7) = .ok (.athrow, 1))
    (hout : ∀ x ∈ c.exceptionTable.toList, covers x (pc + 7) = false)
    (hRframes : names.length + 3 < R.frames) (hRlocals : (rest.map fun v => v.category).sum + (13 * (names.length + 1) + 42) ≤ R.locals) (hRcells : cells + 1 ≤ R.cells) (hRslots : slots + 6 ≤ R.slots) (hlocks : meth.locks = false)
    (hx : ∀ t : State, s.vm.Alike t.vm → H.size ≤ t.heap.size → (∀ q : Nat, q < H.size → t.heap[q]? = H[q]?) → XC cls s t)
    (hf : ∀ z ∈ locs, free z.base) (hc : cells + 1 ≤ mc) (hs : slots + 6 ≤ ms) :
    W p l e R s m args below meth c H locs cells slots (vx_MQ below Qc XC args s mc ms free) (F0 m pc ls rest) := by
  intro T hT X
  have htr : e.platform.stackTraces = false := (show e.platform.stackTraces = l.stackTraces by rw [X.admits.platform]).trans hl
  have Y := vx_rebase X (R' := { frames := R.frames, locals := R.locals, cells := 1, slots := 6 }) (Nat.le_refl _) (Nat.le_refl _) hRcells hRslots
  obtain ⟨s', hA⟩ : ∃ z, z = (T.setVm s.vm).setFrames (.invoking m args :: below) := ⟨_, rfl⟩
  rw [← hA] at Y
  have hvm : s'.vm = s.vm := by rw [hA]; rfl
  have hhp : s'.heap = H := by rw [hA]; exact hT
  have hW0 : s.WarmedH s'.vm := by rw [hvm]; exact State.WarmedH.refl s
  have hat' : ∀ w ∈ vx_at0 own ic cls names, w.before args s' = true := fun w hw => vx_ot_at hW0 hvm.symm (hgood w (List.mem_cons_of_mem _ (List.mem_cons_of_mem _ hw))) (hat w hw)
  have hk' : (Cond.classLink own ik cls).before args s' = true := vx_ot_at hW0 hvm.symm (hgood _ List.mem_cons_self) hk
  have hini' : (Cond.initialized cls).before args s' = true := vx_ot_at hW0 hvm.symm (hgood _ (List.mem_cons_of_mem _ List.mem_cons_self)) hini
  have hU' : vx_Zq Bundle.tN "UNASSIGNED_STACK" Bundle.steD A s' s'.heap := by rw [hhp]; exact vx_Zq.moved hW0.alike (hU.kept hS.2.1)
  have hN' : vx_Zq Bundle.tN "SUPPRESSED_SENTINEL" Bundle.listD A s' s'.heap := by rw [hhp]; exact vx_Zq.moved hW0.alike (hN.kept hS.2.1)
  have h : ∀ w ∈ Bundle.ownAtoms0 own ic cls names, w.before args s' = true := vx_own hat' (vx_isRefq hU'.1) (vx_isRefq hN'.1) hU'.2.word hN'.2.word
  have hown' : s'.vm.findClass own = some m.cls := by rw [hvm]; exact hown
  have hins : (Cond.instantiable cls 6).before args s' = true := h _ (by simp [Bundle.ownAtoms0])
  obtain ⟨vm₁, cX, kX, hfX, hkX, -, -, X₁, st1⟩ := Y.newCold hexec (own := own) (C := cls) (index := ik) (n := 6) hown' hk' hins hini'
    (g := F0 m pc ls rest) rfl (by rw [hb]; exact d0) (Nat.le_refl _) (Nat.le_refl _)
  generalize hT1 : (T.setVm vm₁).pushCell { cls := cX, slots := kX.instanceTypes.map defaultValue, vm := .none } = T1 at X₁ st1
  have hcat : (Value.ref T.heap.size).category = 1 := rfl
  have hcellA : T1.heap[T.heap.size]? = some (freshCell cX kX) := by rw [← hT1]; exact State.heap_pushCell_size _ _
  have d3' : decode c.code (pc + 3) = .ok (.dup, 1) := by rw [hb]; exact d3
  obtain ⟨U, hsteps, hrun, hend, hW, hsame, ce, hce, hO⟩ := X₁.ctorThrow0 hexec htr (own := own) (cls := cls) (names := names) (ic := ic) hown' hcls hnames h (fun x hx => nomatch hx) hfX hkX hcellA (by rw [hhp, hT]; exact Nat.le_refl _)
    (g := { method := m, pc := pc + 4, locals := ls, stack := .ref T.heap.size :: .ref T.heap.size :: rest, locked := none }) rfl hsize rfl rfl (rest := rest) rfl
    (by rw [hb]; exact d4) (by rw [hb]; exact d7) hout hRframes (by simp only [List.map_cons, List.sum_cons, hcat]; omega) hlocks
  obtain ⟨f1, f2⟩ := vx_frame hsame
  rw [hhp] at f1 f2
  have hWs : s.WarmedH U.vm := State.WarmedH.trans hW0 hW
  have hcl : s.vm.findClass cls = some ce.cls := by
    have h9 := hO.cls
    rw [hvm] at h9
    exact h9
  have hall : s.sameButNew ({ U with vm := s.vm } : State) locs mc ms := by
    subst hA
    obtain ⟨e1, e2⟩ := hsame
    rw [State.setFrames_setFrames] at e1
    have h2 : (T.setVm s.vm).sameButNew ({ U with vm := s.vm } : State) [] (0 + 1) (0 + 6) := ⟨e1, e2⟩
    have h3 := X.same.trans h2
    rw [List.append_nil] at h3
    exact h3.mono hc hs
  refine ⟨U, ?_, .threw T.heap.size, hrun, hend, Or.inr ⟨T.heap.size, rfl, cls, ce, locs, hx U hWs.alike f1 (fun q hq => f2 q hq (fun z hz => nomatch hz)), hce, hO.vm, hcl, hWs, hall, hf⟩⟩
  refine st1 _ ?_
  show Steps p.tables e below (T1.setTop { method := m, pc := pc + 3, locals := ls, stack := .ref T.heap.size :: rest, locked := none }) _
  jvm_step X₁.here [X₁.here.top, hexec, d3', Value.category]
  exact hsteps
/-- 'throw new E("text")': new; dup; ldc; invokespecial; athrow -/
theorem vx_throwS {cc : ByteArray} {pc : Nat} (hexec : p.tables.exec = Jvm.exec) (hb : c.code = cc) (hl : l.stackTraces = false) {own cls text : String} {names : List String} {ik is ic mc ms sa : Nat} {A : Nat → Prop}
    (hown : s.vm.findClass own = some m.cls) (hcls : Bundle.fit cls = true) (hnames : ∀ n ∈ names, Bundle.fit n = true)
    (hk : (Cond.classLink own ik cls).before args s = true) (hini : (Cond.initialized cls).before args s = true) (hstr : vk_R own is text sa s) (hat : ∀ w ∈ vx_atS own ic cls names, w.before args s = true)
    (hgood : ∀ w ∈ Cond.classLink own ik cls :: Cond.initialized cls :: vx_atS own ic cls names, vx_ot w = true)
    (hU : vx_Zq Bundle.tN "UNASSIGNED_STACK" Bundle.steD A s s.heap) (hN : vx_Zq Bundle.tN "SUPPRESSED_SENTINEL" Bundle.listD A s s.heap) (hS : va_S A s.heap H locs) (hsize : ls.size = c.maxLocals)
    (d0 : decode cc pc = .ok (.new ik, 3)) (d3 : decode cc (pc + 3) = .ok (.dup, 1)) (d4 : decode cc (pc + 4) = .ok (.ldc is, 2)) (d6 : decode cc (pc + 6) = .ok (.invokespecial ic, 3)) (d9 : decode cc (pc + 9) = .ok (.athrow, 1))
    (hout : ∀ x ∈ c.exceptionTable.toList, covers x (pc + 9) = false)
    (hRframes : names.length + 3 < R.frames) (hRlocals : (rest.map fun v => v.category).sum + (13 * (names.length + 1) + 43) ≤ R.locals) (hRcells : cells + 1 ≤ R.cells) (hRslots : slots + 6 ≤ R.slots) (hlocks : meth.locks = false)
    (hx : ∀ t : State, s.vm.Alike t.vm → H.size ≤ t.heap.size → (∀ q : Nat, q < H.size → t.heap[q]? = H[q]?) → XC cls s t)
    (hf : ∀ z ∈ locs, free z.base) (hc : cells + 1 ≤ mc) (hs : slots + 6 ≤ ms) :
    W p l e R s m args below meth c H locs cells slots (vx_MQ below Qc XC args s mc ms free) (F0 m pc ls rest) := by
  intro T hT X
  have htr : e.platform.stackTraces = false := (show e.platform.stackTraces = l.stackTraces by rw [X.admits.platform]).trans hl
  have Y := vx_rebase X (R' := { frames := R.frames, locals := R.locals, cells := 1, slots := 6 }) (Nat.le_refl _) (Nat.le_refl _) hRcells hRslots
  obtain ⟨s', hA⟩ : ∃ z, z = (T.setVm s.vm).setFrames (.invoking m args :: below) := ⟨_, rfl⟩
  rw [← hA] at Y
  have hvm : s'.vm = s.vm := by rw [hA]; rfl
  have hhp : s'.heap = H := by rw [hA]; exact hT
  have hW0 : s.WarmedH s'.vm := by rw [hvm]; exact State.WarmedH.refl s
  have hat' : ∀ w ∈ vx_atS own ic cls names, w.before args s' = true := fun w hw => vx_ot_at hW0 hvm.symm (hgood w (List.mem_cons_of_mem _ (List.mem_cons_of_mem _ hw))) (hat w hw)
  have hk' : (Cond.classLink own ik cls).before args s' = true := vx_ot_at hW0 hvm.symm (hgood _ List.mem_cons_self) hk
  have hini' : (Cond.initialized cls).before args s' = true := vx_ot_at hW0 hvm.symm (hgood _ (List.mem_cons_of_mem _ List.mem_cons_self)) hini
  have hU' : vx_Zq Bundle.tN "UNASSIGNED_STACK" Bundle.steD A s' s'.heap := by rw [hhp]; exact vx_Zq.moved hW0.alike (hU.kept hS.2.1)
  have hN' : vx_Zq Bundle.tN "SUPPRESSED_SENTINEL" Bundle.listD A s' s'.heap := by rw [hhp]; exact vx_Zq.moved hW0.alike (hN.kept hS.2.1)
  have h : ∀ w ∈ Bundle.ownAtoms own ic cls names, w.before args s' = true := vx_own hat' (vx_isRefq hU'.1) (vx_isRefq hN'.1) hU'.2.word hN'.2.word
  have hown' : s'.vm.findClass own = some m.cls := by rw [hvm]; exact hown
  have hins : (Cond.instantiable cls 6).before args s' = true := h _ (by simp [Bundle.ownAtoms])
  obtain ⟨vm₁, cX, kX, hfX, hkX, -, -, X₁, st1⟩ := Y.newCold hexec (own := own) (C := cls) (index := ik) (n := 6) hown' hk' hins hini'
    (g := F0 m pc ls rest) rfl (by rw [hb]; exact d0) (Nat.le_refl _) (Nat.le_refl _)
  generalize hT1 : (T.setVm vm₁).pushCell { cls := cX, slots := kX.instanceTypes.map defaultValue, vm := .none } = T1 at X₁ st1
  have hcat : (Value.ref T.heap.size).category = 1 := rfl
  have hcellA : T1.heap[T.heap.size]? = some (freshCell cX kX) := by rw [← hT1]; exact State.heap_pushCell_size _ _
  have d3' : decode c.code (pc + 3) = .ok (.dup, 1) := by rw [hb]; exact d3
  have d4' : decode c.code (pc + 4) = .ok (.ldc is, 2) := by rw [hb]; exact d4
  have hstr' : vk_R own is text sa s' := vk_R.warm hW0 hstr
  obtain ⟨U, hsteps, hrun, hend, hW, hsame, ce, hce, hO⟩ := X₁.ctorThrowS hexec htr (own := own) (cls := cls) (names := names) (ic := ic) hown' hcls hnames h (fun x hx => nomatch hx) hfX hkX hcellA (by rw [hhp, hT]; exact Nat.le_refl _) (msg := .ref sa) rfl
    (g := { method := m, pc := pc + 6, locals := ls, stack := .ref sa :: .ref T.heap.size :: .ref T.heap.size :: rest, locked := none }) rfl hsize rfl rfl (rest := rest) rfl
    (by rw [hb]; exact d6) (by rw [hb]; exact d9) hout hRframes (by simp only [List.map_cons, List.sum_cons, hcat]; omega) hlocks
  obtain ⟨f1, f2⟩ := vx_frame hsame
  rw [hhp] at f1 f2
  have hWs : s.WarmedH U.vm := State.WarmedH.trans hW0 hW
  have hcl : s.vm.findClass cls = some ce.cls := by
    have h9 := hO.cls
    rw [hvm] at h9
    exact h9
  have hall : s.sameButNew ({ U with vm := s.vm } : State) locs mc ms := by
    subst hA
    obtain ⟨e1, e2⟩ := hsame
    rw [State.setFrames_setFrames] at e1
    have h2 : (T.setVm s.vm).sameButNew ({ U with vm := s.vm } : State) [] (0 + 1) (0 + 6) := ⟨e1, e2⟩
    have h3 := X.same.trans h2
    rw [List.append_nil] at h3
    exact h3.mono hc hs
  refine ⟨U, ?_, .threw T.heap.size, hrun, hend, Or.inr ⟨T.heap.size, rfl, cls, ce, locs, hx U hWs.alike f1 (fun q hq => f2 q hq (fun z hz => nomatch hz)), hce, hO.vm, hcl, hWs, hall, hf⟩⟩
  refine st1 _ ?_
  show Steps p.tables e below (T1.setTop { method := m, pc := pc + 3, locals := ls, stack := .ref T.heap.size :: rest, locked := none }) _
  jvm_step X₁.here [X₁.here.top, hexec, d3', Value.category]
  exact X₁.ldcString hexec (own := own) (text := text) (index := is) (a := sa) hown' hstr'.1 hstr'.2
    (g := { method := m, pc := pc + 4, locals := ls, stack := .ref T.heap.size :: .ref T.heap.size :: rest, locked := none }) rfl d4' _ hsteps
/-- 'throw new E("text")', the text by a wide index -/
theorem vx_throwSW {cc : ByteArray} {pc : Nat} (hexec : p.tables.exec = Jvm.exec) (hb : c.code = cc) (hl : l.stackTraces = false) {own cls text : String} {names : List String} {ik is ic mc ms sa : Nat} {A : Nat → Prop}
    (hown : s.vm.findClass own = some m.cls) (hcls : Bundle.fit cls = true) (hnames : ∀ n ∈ names, Bundle.fit n = true)
    (hk : (Cond.classLink own ik cls).before args s = true) (hini : (Cond.initialized cls).before args s = true) (hstr : vk_R own is text sa s) (hat : ∀ w ∈ vx_atS own ic cls names, w.before args s = true)
    (hgood : ∀ w ∈ Cond.classLink own ik cls :: Cond.initialized cls :: vx_atS own ic cls names, vx_ot w = true)
    (hU : vx_Zq Bundle.tN "UNASSIGNED_STACK" Bundle.steD A s s.heap) (hN : vx_Zq Bundle.tN "SUPPRESSED_SENTINEL" Bundle.listD A s s.heap) (hS : va_S A s.heap H locs) (hsize : ls.size = c.maxLocals)
    (d0 : decode cc pc = .ok (.new ik, 3)) (d3 : decode cc (pc + 3) = .ok (.dup, 1)) (d4 : decode cc (pc + 4) = .ok (.ldc_w is, 3)) (d7 : decode cc (pc + 7) = .ok (.invokespecial ic, 3)) (d10 : decode cc (pc + 10) = .ok (.athrow, 1))
    (hout : ∀ x ∈ c.exceptionTable.toList, covers x (pc + 10) = false)
    (hRframes : names.length + 3 < R.frames) (hRlocals : (rest.map fun v => v.category).sum + (13 * (names.length + 1) + 43) ≤ R.locals) (hRcells : cells + 1 ≤ R.cells) (hRslots : slots + 6 ≤ R.slots) (hlocks : meth.locks = false)
    (hx : ∀ t : State, s.vm.Alike t.vm → H.size ≤ t.heap.size → (∀ q : Nat, q < H.size → t.heap[q]? = H[q]?) → XC cls s t)
    (hf : ∀ z ∈ locs, free z.base) (hc : cells + 1 ≤ mc) (hs : slots + 6 ≤ ms) :
    W p l e R s m args below meth c H locs cells slots (vx_MQ below Qc XC args s mc ms free) (F0 m pc ls rest) := by
  intro T hT X
  have htr : e.platform.stackTraces = false := (show e.platform.stackTraces = l.stackTraces by rw [X.admits.platform]).trans hl
  have Y := vx_rebase X (R' := { frames := R.frames, locals := R.locals, cells := 1, slots := 6 }) (Nat.le_refl _) (Nat.le_refl _) hRcells hRslots
  obtain ⟨s', hA⟩ : ∃ z, z = (T.setVm s.vm).setFrames (.invoking m args :: below) := ⟨_, rfl⟩
  rw [← hA] at Y
  have hvm : s'.vm = s.vm := by rw [hA]; rfl
  have hhp : s'.heap = H := by rw [hA]; exact hT
  have hW0 : s.WarmedH s'.vm := by rw [hvm]; exact State.WarmedH.refl s
  have hat' : ∀ w ∈ vx_atS own ic cls names, w.before args s' = true := fun w hw => vx_ot_at hW0 hvm.symm (hgood w (List.mem_cons_of_mem _ (List.mem_cons_of_mem _ hw))) (hat w hw)
  have hk' : (Cond.classLink own ik cls).before args s' = true := vx_ot_at hW0 hvm.symm (hgood _ List.mem_cons_self) hk
  have hini' : (Cond.initialized cls).before args s' = true := vx_ot_at hW0 hvm.symm (hgood _ (List.mem_cons_of_mem _ List.mem_cons_self)) hini
  have hU' : vx_Zq Bundle.tN "UNASSIGNED_STACK" Bundle.steD A s' s'.heap := by rw [hhp]; exact vx_Zq.moved hW0.alike (hU.kept hS.2.1)
  have hN' : vx_Zq Bundle.tN "SUPPRESSED_SENTINEL" Bundle.listD A s' s'.heap := by rw [hhp]; exact vx_Zq.moved hW0.alike (hN.kept hS.2.1)
  have h : ∀ w ∈ Bundle.ownAtoms own ic cls names, w.before args s' = true := vx_own hat' (vx_isRefq hU'.1) (vx_isRefq hN'.1) hU'.2.word hN'.2.word
  have hown' : s'.vm.findClass own = some m.cls := by rw [hvm]; exact hown
  have hins : (Cond.instantiable cls 6).before args s' = true := h _ (by simp [Bundle.ownAtoms])
  obtain ⟨vm₁, cX, kX, hfX, hkX, -, -, X₁, st1⟩ := Y.newCold hexec (own := own) (C := cls) (index := ik) (n := 6) hown' hk' hins hini'
    (g := F0 m pc ls rest) rfl (by rw [hb]; exact d0) (Nat.le_refl _) (Nat.le_refl _)
  generalize hT1 : (T.setVm vm₁).pushCell { cls := cX, slots := kX.instanceTypes.map defaultValue, vm := .none } = T1 at X₁ st1
  have hcat : (Value.ref T.heap.size).category = 1 := rfl
  have hcellA : T1.heap[T.heap.size]? = some (freshCell cX kX) := by rw [← hT1]; exact State.heap_pushCell_size _ _
  have d3' : decode c.code (pc + 3) = .ok (.dup, 1) := by rw [hb]; exact d3
  have d4' : decode c.code (pc + 4) = .ok (.ldc_w is, 3) := by rw [hb]; exact d4
  have hstr' : vk_R own is text sa s' := vk_R.warm hW0 hstr
  obtain ⟨U, hsteps, hrun, hend, hW, hsame, ce, hce, hO⟩ := X₁.ctorThrowS hexec htr (own := own) (cls := cls) (names := names) (ic := ic) hown' hcls hnames h (fun x hx => nomatch hx) hfX hkX hcellA (by rw [hhp, hT]; exact Nat.le_refl _) (msg := .ref sa) rfl
    (g := { method := m, pc := pc + 7, locals := ls, stack := .ref sa :: .ref T.heap.size :: .ref T.heap.size :: rest, locked := none }) rfl hsize rfl rfl (rest := rest) rfl
    (by rw [hb]; exact d7) (by rw [hb]; exact d10) hout hRframes (by simp only [List.map_cons, List.sum_cons, hcat]; omega) hlocks
  obtain ⟨f1, f2⟩ := vx_frame hsame
  rw [hhp] at f1 f2
  have hWs : s.WarmedH U.vm := State.WarmedH.trans hW0 hW
  have hcl : s.vm.findClass cls = some ce.cls := by
    have h9 := hO.cls
    rw [hvm] at h9
    exact h9
  have hall : s.sameButNew ({ U with vm := s.vm } : State) locs mc ms := by
    subst hA
    obtain ⟨e1, e2⟩ := hsame
    rw [State.setFrames_setFrames] at e1
    have h2 : (T.setVm s.vm).sameButNew ({ U with vm := s.vm } : State) [] (0 + 1) (0 + 6) := ⟨e1, e2⟩
    have h3 := X.same.trans h2
    rw [List.append_nil] at h3
    exact h3.mono hc hs
  refine ⟨U, ?_, .threw T.heap.size, hrun, hend, Or.inr ⟨T.heap.size, rfl, cls, ce, locs, hx U hWs.alike f1 (fun q hq => f2 q hq (fun z hz => nomatch hz)), hce, hO.vm, hcl, hWs, hall, hf⟩⟩
  refine st1 _ ?_
  show Steps p.tables e below (T1.setTop { method := m, pc := pc + 3, locals := ls, stack := .ref T.heap.size :: rest, locked := none }) _
  jvm_step X₁.here [X₁.here.top, hexec, d3', Value.category]
  exact X₁.ldcStringW hexec (own := own) (text := text) (index := is) (a := sa) hown' hstr'.1 hstr'.2
    (g := { method := m, pc := pc + 4, locals := ls, stack := .ref T.heap.size :: .ref T.heap.size :: rest, locked := none }) rfl d4' _ hsteps
end Ends
section Bodies
variable {l : Launch}
theorem vx_ofW {y : MethodName} {ws ws' : List Cond} {rm : Room} {Pc : Array Value → State → Prop} {Qc : Array Value → State → Outcome → State → Prop} {XC : String → State → State → Prop} {mc ms : Nat} {free : Addr → Prop} {cc : ByteArray} {maxL : Nat} {ret : Option FieldType}
    (hy : plainName y.cls = true) (hw : ws = Cond.code y cc maxL ret :: ws')
    (body : ∀ p e s m args below meth c s₁, BodyLoose p l y (headSpec ws rm) cc maxL ret e s m args below meth c s₁ → c.maxLocals = maxL → (∀ x ∈ c.exceptionTable.toList, False) → Pc args s →
      W p l e (headSpec ws rm).room s m args below meth c s.heap [] 0 0 (vx_MQ below Qc XC args s mc ms free) (entryFrame m args maxL)) : vx_Met l y ws rm Pc Qc XC mc ms free := by
  refine MetFree.of_bodyS (code := cc) (maxLocals := maxL) (ret := ret) hy ?_ ?_
  · intro args s m h hn
    obtain ⟨meth, c, h1, h2, h3, h4, h5, h6, -, -⟩ := Cond.code_spec hn (atoms_spec (ws := ws) h _ (by rw [hw]; exact List.mem_cons_self))
    exact ⟨meth, c, h1, h2, h3, h4, h5, h6⟩
  · intro p e s m args below meth c s₁ B hml hP _
    have hh0 : s₁.heap = s.heap := by rw [B.state]; rfl
    have ht : ∀ x ∈ c.exceptionTable.toList, False := by
      obtain ⟨meth9, c9, h1, h2, -, -, -, -, h7, -⟩ := Cond.code_spec B.named (atoms_spec (ws := ws) B.pre _ (by rw [hw]; exact List.mem_cons_self))
      cases Option.some.inj (h1.symm.trans B.method)
      cases Option.some.inj (h2.symm.trans (Stand.of_body B).code)
      intro x hx
      rw [Array.isEmpty_iff.mp h7] at hx
      cases hx
    obtain ⟨t, a1, o, b1, b2, b3⟩ := body p e s m args below meth c s₁ B hml ht hP s₁ hh0 (Stand.of_body B)
    exact ⟨t, o, a1, b1, b2, b3⟩
/-- the table of a body with handlers -/
theorem vx_table {p : Program} {x y : MethodName} {S : Spec} {cc bytes : ByteArray} {maxL maxL' : Nat} {ret ret' : Option FieldType} {e : Env} {s s₁ : State} {m : MethodId} {args : Array Value} {below : List Frame} {meth : Method} {c : Code} {hh : List (Nat × Nat × Nat × Nat)}
    (B : BodyLoose p l y S cc maxL ret e s m args below meth c s₁) (h : (Cond.codeWith y bytes maxL' ret' hh).before args s = true) : c.exceptionTable.toList = tableOf hh := by
  obtain ⟨m9, meth9, c9, hn9, h1, h2, -, -, h6, -⟩ := Cond.codeWith_spec h
  cases Option.some.inj (hn9.symm.trans B.named)
  cases Option.some.inj (h1.symm.trans B.method)
  cases Option.some.inj (h2.symm.trans (Stand.of_body B).code)
  rw [← h6, table_eq]
end Bodies
end VXA
/-! ===== END ===== -/
/-! ===== BEGIN a static call of a method with an exception table ===== -/
section VXS
variable {p : Program} {l : Launch} {e : Env} {R : Room} {s : State} {m : MethodId} {args : Array Value} {below : List Frame} {meth : Method} {c : Code} {T : State} {H : Heap} {locs : List Loc} {cells slots : Nat}
abbrev vx_CSW (R : Room) (s : State) (args : Array Value) (own : String) (index : Nat) (y : MethodName) (bytes : ByteArray) (maxL : Nat) (ret : Option FieldType) (hh : List (Nat × Nat × Nat × Nat)) (ws : List Cond) (rm : Room) (mc ms n : Nat) : Prop :=
  (rm.cells = mc ∧ rm.slots = ms ∧ rm.frames + 1 ≤ R.frames ∧ 8 + (maxL + 11) + rm.locals ≤ R.locals ∧ (∀ w ∈ ws, ∀ (a' : Array Value) (U : State), s.WarmedH U.vm → w.before a' U = true) ∧ Cond.codeWith y bytes maxL ret hh ∈ ws) ∧
  (Cond.codeWith y bytes maxL ret hh).before args s = true ∧ (Cond.initialized y.cls).before args s = true ∧ (y.cls ≠ "java/lang/invoke/MethodHandle" ∧ y.cls ≠ "java/lang/invoke/VarHandle") ∧
  (∀ sig, parseMethodDescriptor y.desc = some sig → n = sig.parameters.length) ∧ (Cond.methodLink own index y).before args s = true ∧ (Cond.static y).before args s = true
theorem vx_cwSW {own : String} {index maxL mc ms : Nat} {y : MethodName} {bytes : ByteArray} {ret : Option FieldType} {hh : List (Nat × Nat × Nat × Nat)} {Ts ws ws' : List Cond} {rm : Room} (n : Nat) (ht : ∀ w ∈ Ts, w.before args s = true) (hT : GoodIn Ts (va_wsS own index y ws)) (hw : ws = Cond.codeWith y bytes maxL ret hh :: ws') (hrc : rm.cells = mc) (hrs : rm.slots = ms)
    (hd : y.cls ≠ "java/lang/invoke/MethodHandle" ∧ y.cls ≠ "java/lang/invoke/VarHandle" ∧ (parseMethodDescriptor y.desc).map (fun d => d.parameters.length) = some n) (hR : rm.frames + 1 ≤ R.frames ∧ 8 + (maxL + 11) + rm.locals ≤ R.locals) :
    vx_CSW R s args own index y bytes maxL ret hh ws rm mc ms n := by
  have ok : ∀ w ∈ va_wsS own index y ws, w.before args s = true := fun w h => ht w (hT w h).1
  have hG : GoodIn Ts ws := fun w h => hT w (by unfold va_wsS; exact List.mem_append_right _ h)
  have hc : Cond.codeWith y bytes maxL ret hh ∈ ws := by rw [hw]; exact List.mem_cons_self
  refine ⟨⟨hrc, hrs, hR.1, hR.2, pay_in ht hG, hc⟩, ht _ (hG _ hc).1, ok _ (by simp [va_wsS]), ⟨hd.1, hd.2.1⟩, fun sig h => ?_, ok _ (by simp [va_wsS]), ok _ (by simp [va_wsS])⟩
  have h2 := hd.2.2
  rw [h] at h2
  exact (Option.some.inj h2).symm
theorem vx_callSW (X : Stand p l e R s m args below meth c T locs cells slots) (hexec : p.tables.exec = Jvm.exec) {own : String} {index : Nat} {y : MethodName} {bytes : ByteArray} {maxL : Nat} {ret : Option FieldType} {hh : List (Nat × Nat × Nat × Nat)}
    (hown : s.vm.findClass own = some m.cls) (hlink : (Cond.methodLink own index y).before args s = true) (hstat : (Cond.static y).before args s = true) (hinit : (Cond.initialized y.cls).before args s = true)
    (hcode : (Cond.codeWith y bytes maxL ret hh).before args s = true) (hy : y.cls ≠ "java/lang/invoke/MethodHandle" ∧ y.cls ≠ "java/lang/invoke/VarHandle")
    {W9 : Nat} {Pre : Pt → Array Value → Prop} {Post : Pt → Array Value → Option Value → Pt → Prop} (hK : Back l R p e below s args y 3 W9 Pre Post)
    {g : JFrame} (hg : g.method = m) (hsize : g.locals.size = c.maxLocals) {argsL rest : List Value} (hlen : ∀ sig, parseMethodDescriptor y.desc = some sig → argsL.length = sig.parameters.length)
    (hstack : g.stack = argsL.reverse ++ rest) (hW : 2 * g.monitorRoom + (rest.map fun v => v.category).sum ≤ W9) (hdg : decode c.code g.pc = .ok (.invokestatic index, 3))
    (hpre : ∀ vm₁, s.WarmedH vm₁ → Pre ⟨T.setVm vm₁, locs, cells, slots⟩ argsL.toArray) :
    ∃ (v : Option Value) (vm₁ : Vm) (B : Pt), s.WarmedH vm₁ ∧ Stand p l e R s m args below meth c B.U B.locs B.cells B.slots ∧ Post ⟨T.setVm vm₁, locs, cells, slots⟩ argsL.toArray v B ∧
      ∀ target, Steps p.tables e below (B.U.setTop { g with pc := g.pc + 3, stack := v.toList ++ rest }) target → Steps p.tables e below (T.setTop g) target := by
  obtain ⟨mk, methM, cM, hnamed, hmethM, -, -, -, -, -, -, hsigM⟩ := Cond.codeWith_spec hcode
  have hstatic : methM.isStatic = true := Cond.static_spec hnamed hmethM hstat
  obtain ⟨kP, hkP, -⟩ := className_of_methodNamed hnamed
  have hinitP : kP.init = .initialized := Cond.initialized_spec (findClass_of_methodNamed hnamed) hkP hinit
  obtain ⟨vm₁, X₁, hstep₁⟩ := X.invokestatic hexec hown hlink hnamed hmethM hstatic hkP hinitP hy (g := g) hg (argsL := argsL) (rest := rest) (hlen _ hsigM) hstack hdg
  obtain ⟨v, B, X', hpost, hsteps⟩ := hK m meth c ⟨T.setVm vm₁, locs, cells, slots⟩ { g with stack := rest } (.invokestatic index) mk argsL.toArray X₁ hg hsize hdg hW (X₁.named hnamed) (hpre vm₁ X₁.warmed)
  exact ⟨v, vm₁, B, X₁.warmed, X', hpost, fun target h => hstep₁ _ fun acts => by rw [doInvoke_state]; exact hsteps.trans h⟩
theorem vx_runSW {y : MethodName} {bytes cc : ByteArray} {maxL nL mc ms n index : Nat} {ret : Option FieldType} {hh : List (Nat × Nat × Nat × Nat)} {ws : List Cond} {rm : Room} {Pc : Array Value → State → Prop} {Qc : Array Value → State → Outcome → State → Prop} {free : Addr → Prop} {Ts : List Cond} {own : String} {As rest : List Value} {g : JFrame}
    (S : CallFix p m c cc nL s args Ts own) (hM : Met l y ws rm Pc Qc mc ms free) (cw : vx_CSW R s args own index y bytes maxL ret hh ws rm mc ms n) (hp : PreS s H Pc As)
    (hg : g.method = m) (hn : As.length = n) (hsize : g.locals.size = nL) (hstack : g.stack = As.reverse ++ rest) (hW : 2 * g.monitorRoom + (rest.map fun v => v.category).sum ≤ 8) (hdg : decode cc g.pc = .ok (.invokestatic index, 3)) (hf : cells + mc ≤ R.cells ∧ slots + ms ≤ R.slots) :
    va_Run p l e R s m args below meth c H locs cells slots mc ms g rest (Qc As.toArray) (free) := by
  obtain ⟨⟨hrc, hrs, hfr, hlo, hws, hcw⟩, hcode, hini, hy, hlen, hl, hstt⟩ := cw
  have hK : Back l R p e below s args y 3 8 (PreOf R mc ms Pc) (PostOf Qc mc ms free) := va_backW (hh := hh) (bytes := bytes) (maxL := maxL) (ret := ret) hM hp.1 hrc hrs hfr hlo hws hcw (fun a' U hW => word_at hW (Or.inl (by first | rfl | simp [Cond.onTables, Cond.keeps, Cond.steady])) hini)
  obtain ⟨hx, hb, hml, ho, -⟩ := S
  intro T hT X
  obtain ⟨v, vm₁, ⟨U', l2, c2, s2⟩, hW₁, X', ⟨g', mk, t, L, e1, e2, hq, h1, hL, h2, h3⟩, st⟩ := vx_callSW X hx (hh := hh) (bytes := bytes) (maxL := maxL) (ret := ret) ho hl hstt hini hcode hy hK hg (hsize.trans hml.symm) (argsL := As) (rest := rest) (fun sig h => hn.trans (hlen sig h)) hstack hW (by rw [hb]; exact hdg)
    (fun vm₁ hW₁ => ⟨hf.1, hf.2, hp.2 (T.setVm vm₁) hT hW₁⟩)
  dsimp only [Pt.U, Pt.locs, Pt.cells, Pt.slots] at X' e1 e2 h1 h2 h3 st
  subst h1; subst h2; subst h3
  exact ⟨v, (T.setVm vm₁).calling g' mk As.toArray, t, U', L, hT, X', hL, e1, e2, hq, st⟩
/-- not caught here, past rows that name other classes: it goes on to the caller -/
theorem vx_outP {p : Program} {l : Launch} {e : Env} {R : Room} {s : State} {m : MethodId} {args : Array Value} {below : List Frame} {meth : Method} {c : Code} {H : Heap} {locs : List Loc} {cells slots : Nat} {free : Addr → Prop} {ls : Array Slot} {rest : List Value} {Qc : Array Value → State → Outcome → State → Prop} {XC : String → State → State → Prop}
    {pc : Nat} {own E : String} {ce : Cell} {q : Addr} {mc ms : Nat} (hown : s.vm.findClass own = some m.cls) (hlocks : meth.locks = false)
    (hpass : ∀ z ∈ c.exceptionTable.toList, covers z pc = false ∨ (z.catchType ≠ 0 ∧ ∃ nm : String, (Cond.classLink own z.catchType nm).before args s = true ∧ va_Nc E nm s)) (hcell : H[q]? = some ce) (hv : ce.vm = .none) (hcl : s.vm.findClass E = some ce.cls)
    (hx : ∀ t : State, t.heap = H → s.vm.Alike t.vm → XC E s t) (hf : ∀ z ∈ locs, free z.base) (hc : cells ≤ mc) (hs : slots ≤ ms) :
    vx_W p l e R s m args below meth c H locs cells slots (vx_MQ below Qc XC args s mc ms free) (F0 m pc ls rest) q := by
  intro T hT X
  have hpl : e.platform.magicAccessors = ({} : Platform).magicAccessors := by rw [X.admits.platform]
  obtain ⟨vm', hW', X', st⟩ := X.outThrough hlocks q (g := F0 m pc ls rest) rfl rfl rfl (cell := ce) (by rw [hT]; exact hcell) (by rw [hv]; rfl)
    (by obtain ⟨k9, h9, -⟩ := Vm.findClass_spec hcl; exact ⟨k9, h9⟩) (fun z hz => by
      rcases hpass z hz with h | ⟨hz0, nm, hl1, hn1⟩
      · exact Or.inl h
      · obtain ⟨c6, hc6, hcl6⟩ := Cond.classLink_spec hown hl1 e.platform hpl
        obtain ⟨a8, b8, h1, h2, h3⟩ := hn1
        cases Option.some.inj (h1.symm.trans hcl)
        cases Option.some.inj (h2.symm.trans hc6)
        exact Or.inr ⟨hz0, _, hcl6, h3⟩)
  obtain ⟨g₀, hfr⟩ := X'.frames_eq
  have hcell9 : ((T.setVm vm').setFrames (.throwing q :: below)).heap[q]? = some ce := by
    show T.heap[q]? = some ce
    rw [hT]; exact hcell
  have hend : Ended ((T.setVm vm').setFrames (.throwing q :: below)) below (.threw q) := State.frames_setFrames _ (State.cur_lt_of_frames hfr)
  refine ⟨(T.setVm vm').setFrames (.throwing q :: below), ?_, .threw q, X'.here.running, hend, Or.inr ⟨q, rfl, E, ce, locs, hx _ hT (X'.ends _).1.alike, hcell9, hv, hcl, (X'.ends _).1, (X'.ends _).2.mono hc hs, hf⟩⟩
  rw [X.pushThrowing_eq]
  exact st
/-- a thing of a world lies in the heap -/
theorem vx_lt {D : va_G} {cl : List vw_C} {ws : va_W} {H1 : Heap} (h : va_P D cl ws H1) {k : Nat} {q : Nat × va_E} (hk : ws[k]? = some q) : q.1 < H1.size := (h k q hk).lt
end VXS
/-! ===== END ===== -/
/-! ===== BEGIN methods with a table of their own: called by a name, returning or throwing ===== -/
section VXH
/-! vx_backW, vx_callVX, vx_callSX, vx_callVW, vx_runVW, vx_runVX, vx_runSX, vx_ofWH follow the same proofs as their sisters above (Free/Laws.lean, Shelf42/LK1.lean); vx_outP calls Shelf42/NT130.lean (outThrough). -/
section
variable {l : Launch} {R : Room} {p : Program} {e : Env} {below : List Frame} {s : State} {sargs : Array Value} {y : MethodName} {len W9 : Nat}
theorem vx_backW {ws : List Cond} {rm : Room} {Pc : Array Value → State → Prop} {Qc : Array Value → State → Outcome → State → Prop} {XC : String → State → State → Prop} {mc ms : Nat} {free : Addr → Prop} {bytes : ByteArray} {maxL : Nat} {ret : Option FieldType} {hh : List (Nat × Nat × Nat × Nat)}
    (hM : vx_Met l y ws rm Pc Qc XC mc ms free) (hblind : FrameBlind Pc) (hrc : rm.cells = mc) (hrs : rm.slots = ms)
    (hframes : rm.frames + 1 ≤ R.frames) (hlocals : W9 + (maxL + 11) + rm.locals ≤ R.locals)
    (hws : ∀ w ∈ ws, ∀ a' U, s.WarmedH U.vm → w.before a' U = true) (hcode : Cond.codeWith y bytes maxL ret hh ∈ ws) (hinit : ∀ a' U, s.WarmedH U.vm → (Cond.initialized y.cls).before a' U = true) :
    vx_Back l R p e below s sargs y len W9 (PreOf R mc ms Pc) (PostOf Qc mc ms free) (vx_Post XC mc ms free) := by
  intro m meth c A g ig mk a X hg hsize hdg hW hn hp
  have h1 : (headSpec ws rm).pre.before a A.U = true := atoms_intro fun w hw => hws w hw _ _ X.warmed
  have h2 : (Cond.codeWith y bytes maxL ret hh).before a A.U = true := hws _ hcode _ _ X.warmed
  have h3 : (Cond.initialized y.cls).before a A.U = true := hinit _ _ X.warmed
  have h4 : A.cells + (headSpec ws rm).room.cells ≤ R.cells := by rw [show (headSpec ws rm).room.cells = mc from hrc]; exact hp.1
  have h5 : A.slots + (headSpec ws rm).room.slots ≤ R.slots := by rw [show (headSpec ws rm).room.slots = ms from hrs]; exact hp.2.1
  have hPc : Pc a (A.U.calling g mk a) := hblind _ _ _ _ hp.2.2
  obtain ⟨U, Ls, c0, s0⟩ := A
  dsimp only [Pt.U, Pt.locs, Pt.cells, Pt.slots] at h1 h2 h3 h4 h5 X hn hPc ⊢
  obtain ⟨m9, methY, cY, hn9, hmY, hcY, -, hlY, -⟩ := Cond.codeWith_spec h2
  cases Option.some.inj (hn9.symm.trans hn)
  obtain ⟨kY, hkY, -⟩ := className_of_methodNamed hn
  have hinitY : kY.init = .initialized := Cond.initialized_spec (findClass_of_methodNamed hn) hkY h3
  have h : At U g.method c below := by rw [hg]; exact X.here
  have hlocals9 : W9 + (maxL + 11) + (headSpec ws rm).room.locals ≤ R.locals := hlocals
  have happ : (headSpec ws rm).appliesLoose y e.platform (U.calling g mk a) = true :=
    Spec.appliesLoose_calling (g := g) h hdg hn hkY hinitY
      (X.room_calling (g := g) (R' := (headSpec ws rm).room) hsize hmY hcY hframes (by rw [hlY]; omega) h4 h5) h1
  obtain ⟨mid, hmid⟩ := h.above
  have hfr : (U.setTop g).frames = (.java g :: mid) ++ below := by rw [State.frames_setTop' g h.top, hmid]; rfl
  obtain ⟨o, s₂, hsteps, -, hend, hq⟩ := Steps.callFree hM p X.admits X.cas X.clock (acts := []) hfr happ hPc trivial
  have hq' : vx_Q Qc XC mc ms free a (U.calling g mk a) o s₂ := hq
  rw [State.frames_setTop' g h.top] at hend
  obtain ⟨g₀, hg0⟩ := Option.isSome_iff_exists.mp h.top
  obtain ⟨r, hr⟩ := State.topJava?_eq_some.mp hg0
  have hr' : (({ U with heap := s₂.heap, slotsUsed := s₂.slotsUsed } : State).setVm s₂.vm).frames = .java g₀ :: r := hr
  rcases hq' with ⟨hqc, L, hfe, hL⟩ | ⟨q, rfl, E, ce, L, hx, hce, hcv, hcl, hW₂, hsm, hL⟩
  · obtain ⟨⟨v, rfl⟩, hW₂, e2, q2, q3, q4, q5, q6⟩ := id hfe
    have e3 : s₂ = ({ (U.calling g mk a).setFrames s₂.frames with heap := s₂.heap, slotsUsed := s₂.slotsUsed } : State).setVm s₂.vm := by
      have : s₂ = ({ s₂ with vm := (U.calling g mk a).vm } : State).setVm s₂.vm := rfl
      rw [e2] at this
      exact this
    obtain ⟨c₂, i₂, len₂, hc₂, hd₂, hf₂⟩ := hend
    have hW' : U.WarmedH s₂.vm := hW₂
    have hcc : c₂ = c := by
      have h1 : s₂.code? g.method = U.code? g.method := by
        rw [State.code?_eq, State.code?_eq, hW'.alike.method?]
      exact Option.some.inj (hc₂.symm.trans (h1.trans h.code))
    subst hcc
    have hlen : len₂ = len := by rw [hdg] at hd₂; cases hd₂; rfl
    subst hlen
    have hs₂ : s₂ = (({ U with heap := s₂.heap, slotsUsed := s₂.slotsUsed } : State).setVm s₂.vm).setTop { g with pc := g.pc + len₂, stack := v.toList ++ g.stack } := by
      refine e3.trans ?_
      rw [hf₂, State.calling_eq h.top, State.setFrames_setFrames, State.setTop_of_frames _ hr', hr]
      rfl
    have hsame : U.sameButNew ({ U with heap := s₂.heap, slotsUsed := s₂.slotsUsed } : State) L mc ms := by
      refine ⟨?_, q2, q3, q4, q5, q6⟩
      obtain ⟨t, ht, -⟩ := State.frames_cons hr
      show ({ U with heap := s₂.heap, slotsUsed := s₂.slotsUsed } : State) = { U.setFrames U.frames with heap := s₂.heap, slotsUsed := s₂.slotsUsed }
      rw [State.setFrames_self ht]
    subst hg
    refine Or.inl ⟨v, ⟨(({ U with heap := s₂.heap, slotsUsed := s₂.slotsUsed } : State).setVm s₂.vm), Ls ++ L, c0 + mc, s0 + ms⟩,
      ⟨X.admits, X.cas, X.clock, X.frames, X.room, X.hears, X.method, X.code, (X.here.setHeapUsed s₂.heap s₂.slotsUsed).setVm hW'.alike, X.tail, State.WarmedH.trans X.warmed hW', X.limits, X.bytes, X.same.trans (hsame.setVm s.vm)⟩,
      ⟨g, mk, s₂, L, rfl, rfl, hqc, rfl, hL, rfl, rfl⟩, ?_⟩
    show Steps p.tables e below _ ((({ U with heap := s₂.heap, slotsUsed := s₂.slotsUsed } : State).setVm s₂.vm).setTop { g with pc := g.pc + len₂, stack := v.toList ++ g.stack })
    rw [← hs₂]
    exact hsteps
  · obtain ⟨e2, q2, q3, q4, q5, q6⟩ := id hsm
    have e3 : s₂ = ({ (U.calling g mk a).setFrames s₂.frames with heap := s₂.heap, slotsUsed := s₂.slotsUsed } : State).setVm s₂.vm := by
      have : s₂ = ({ s₂ with vm := (U.calling g mk a).vm } : State).setVm s₂.vm := rfl
      rw [e2] at this
      exact this
    have hf₂ : s₂.frames = .throwing q :: .java g :: U.frames.tail := hend
    have hW' : U.WarmedH s₂.vm := hW₂
    have hs₂ : s₂ = ((({ U with heap := s₂.heap, slotsUsed := s₂.slotsUsed } : State).setVm s₂.vm).setTop g).pushFrame (.throwing q) := by
      refine e3.trans ?_
      rw [hf₂, State.calling_eq h.top, State.setFrames_setFrames, State.pushFrame, State.frames_setTop _ hr', State.setTop_of_frames _ hr', State.setFrames_setFrames, hr]
      rfl
    have hsame : U.sameButNew ({ U with heap := s₂.heap, slotsUsed := s₂.slotsUsed } : State) L mc ms := by
      refine ⟨?_, q2, q3, q4, q5, q6⟩
      obtain ⟨t, ht, -⟩ := State.frames_cons hr
      show ({ U with heap := s₂.heap, slotsUsed := s₂.slotsUsed } : State) = { U.setFrames U.frames with heap := s₂.heap, slotsUsed := s₂.slotsUsed }
      rw [State.setFrames_self ht]
    subst hg
    refine Or.inr ⟨q, ⟨(({ U with heap := s₂.heap, slotsUsed := s₂.slotsUsed } : State).setVm s₂.vm), Ls ++ L, c0 + mc, s0 + ms⟩,
      ⟨X.admits, X.cas, X.clock, X.frames, X.room, X.hears, X.method, X.code, (X.here.setHeapUsed s₂.heap s₂.slotsUsed).setVm hW'.alike, X.tail, State.WarmedH.trans X.warmed hW', X.limits, X.bytes, X.same.trans (hsame.setVm s.vm)⟩,
      ⟨g, mk, s₂, L, E, ce, rfl, rfl, hx, hce, hcv, hcl, rfl, hL, rfl, rfl⟩, ?_⟩
    show Steps p.tables e below _ (((({ U with heap := s₂.heap, slotsUsed := s₂.slotsUsed } : State).setVm s₂.vm).setTop g).pushFrame (.throwing q))
    rw [← hs₂]
    exact hsteps
end
variable {p : Program} {l : Launch} {e : Env} {R : Room} {s : State} {m : MethodId} {args : Array Value} {below : List Frame} {meth : Method} {c : Code} {T : State} {H : Heap} {locs : List Loc} {cells slots : Nat}
theorem vx_callVX (X : Stand p l e R s m args below meth c T locs cells slots) (hexec : p.tables.exec = Jvm.exec) {own C : String} {index : Nat} {y : MethodName} {bytes : ByteArray} {maxL : Nat} {ret : Option FieldType} {hh : List (Nat × Nat × Nat × Nat)}
    (hown : s.vm.findClass own = some m.cls) (hlink : (Cond.methodLink own index y).before args s = true) (hinst : (Cond.instanceMethod y).before args s = true) (hsel : (Cond.selects C y y).before args s = true)
    (hcode : (Cond.codeWith y bytes maxL ret hh).before args s = true) (hy : y.cls ≠ "java/lang/invoke/MethodHandle" ∧ y.cls ≠ "java/lang/invoke/VarHandle")
    {W9 : Nat} {Pre : Pt → Array Value → Prop} {Post : Pt → Array Value → Option Value → Pt → Prop} {PostX : Pt → Array Value → Addr → Pt → Prop} (hK : vx_Back l R p e below s args y 3 W9 Pre Post PostX)
    {b : Addr} {cellB : Cell} (hcell : T.heap[b]? = some cellB) (hobj : cellB.vm.isStatics = false) (hcls : s.vm.findClass C = some cellB.cls)
    {g : JFrame} (hg : g.method = m) (hsize : g.locals.size = c.maxLocals) {argsL rest : List Value} (hlen : ∀ sig, parseMethodDescriptor y.desc = some sig → argsL.length = sig.parameters.length)
    (hstack : g.stack = argsL.reverse ++ .ref b :: rest) (hW : 2 * g.monitorRoom + (rest.map fun v => v.category).sum ≤ W9) (hdg : decode c.code g.pc = .ok (.invokevirtual index, 3))
    (hpre : ∀ vm₁, s.WarmedH vm₁ → Pre ⟨T.setVm vm₁, locs, cells, slots⟩ (Value.ref b :: argsL).toArray) :
    (∃ (v : Option Value) (vm₁ : Vm) (B : Pt), s.WarmedH vm₁ ∧ Stand p l e R s m args below meth c B.U B.locs B.cells B.slots ∧ Post ⟨T.setVm vm₁, locs, cells, slots⟩ (Value.ref b :: argsL).toArray v B ∧
      ∀ target, Steps p.tables e below (B.U.setTop { g with pc := g.pc + 3, stack := v.toList ++ rest }) target → Steps p.tables e below (T.setTop g) target) ∨
    (∃ (q : Addr) (vm₁ : Vm) (B : Pt), s.WarmedH vm₁ ∧ Stand p l e R s m args below meth c B.U B.locs B.cells B.slots ∧ PostX ⟨T.setVm vm₁, locs, cells, slots⟩ (Value.ref b :: argsL).toArray q B ∧
      Steps p.tables e below (T.setTop g) ((B.U.setTop { g with stack := rest }).pushFrame (.throwing q))) := by
  obtain ⟨mk, methM, hnamed, hmethM, hstM, habM⟩ := Cond.instanceMethod_spec hinst
  obtain ⟨m8, methM', cM, hn8, hmethM', -, -, -, -, -, -, hsigM⟩ := Cond.codeWith_spec hcode
  cases Option.some.inj (hn8.symm.trans hnamed)
  cases hmethM.symm.trans hmethM'
  obtain ⟨c2, r2, m2, q1, q2, q3, q4, kP, hkP, hkPi⟩ := Cond.selects_spec hsel
  cases hcls.symm.trans q1
  cases (State.methodFound?_of_named hnamed hy).symm.trans q2
  cases hnamed.symm.trans q3
  have hselP : selectMethod e.platform s.vm cellB.cls mk = .method mk := by rw [Launch.admits_selectMethod X.admits]; exact q4
  obtain ⟨vm₁, X₁, hstep₁⟩ := X.invokevirtual hexec hown hlink hnamed hmethM hstM hkP hkPi hy (a := b) (cell := cellB) hcell
    (fun z h => by rw [h] at hobj; cases hobj) hselP hmethM habM hkP hkPi (g := g) hg (argsL := argsL) (rest := rest) (hlen _ hsigM) hstack hdg
  rcases hK m meth c ⟨T.setVm vm₁, locs, cells, slots⟩ { g with stack := rest } (.invokevirtual index) mk (Value.ref b :: argsL).toArray X₁ hg hsize hdg hW (X₁.named hnamed) (hpre vm₁ X₁.warmed) with ⟨v, B, X', hpost, hsteps⟩ | ⟨q, B, X', hpost, hsteps⟩
  · exact Or.inl ⟨v, vm₁, B, X₁.warmed, X', hpost, fun target h => hstep₁ _ fun acts => by rw [doInvoke_state]; exact hsteps.trans h⟩
  · exact Or.inr ⟨q, vm₁, B, X₁.warmed, X', hpost, hstep₁ _ fun acts => by rw [doInvoke_state]; exact hsteps⟩
theorem vx_callSX (X : Stand p l e R s m args below meth c T locs cells slots) (hexec : p.tables.exec = Jvm.exec) {own : String} {index : Nat} {y : MethodName} {bytes : ByteArray} {maxL : Nat} {ret : Option FieldType} {hh : List (Nat × Nat × Nat × Nat)}
    (hown : s.vm.findClass own = some m.cls) (hlink : (Cond.methodLink own index y).before args s = true) (hstat : (Cond.static y).before args s = true) (hinit : (Cond.initialized y.cls).before args s = true)
    (hcode : (Cond.codeWith y bytes maxL ret hh).before args s = true) (hy : y.cls ≠ "java/lang/invoke/MethodHandle" ∧ y.cls ≠ "java/lang/invoke/VarHandle")
    {W9 : Nat} {Pre : Pt → Array Value → Prop} {Post : Pt → Array Value → Option Value → Pt → Prop} {PostX : Pt → Array Value → Addr → Pt → Prop} (hK : vx_Back l R p e below s args y 3 W9 Pre Post PostX)
    {g : JFrame} (hg : g.method = m) (hsize : g.locals.size = c.maxLocals) {argsL rest : List Value} (hlen : ∀ sig, parseMethodDescriptor y.desc = some sig → argsL.length = sig.parameters.length)
    (hstack : g.stack = argsL.reverse ++ rest) (hW : 2 * g.monitorRoom + (rest.map fun v => v.category).sum ≤ W9) (hdg : decode c.code g.pc = .ok (.invokestatic index, 3))
    (hpre : ∀ vm₁, s.WarmedH vm₁ → Pre ⟨T.setVm vm₁, locs, cells, slots⟩ argsL.toArray) :
    (∃ (v : Option Value) (vm₁ : Vm) (B : Pt), s.WarmedH vm₁ ∧ Stand p l e R s m args below meth c B.U B.locs B.cells B.slots ∧ Post ⟨T.setVm vm₁, locs, cells, slots⟩ argsL.toArray v B ∧
      ∀ target, Steps p.tables e below (B.U.setTop { g with pc := g.pc + 3, stack := v.toList ++ rest }) target → Steps p.tables e below (T.setTop g) target) ∨
    (∃ (q : Addr) (vm₁ : Vm) (B : Pt), s.WarmedH vm₁ ∧ Stand p l e R s m args below meth c B.U B.locs B.cells B.slots ∧ PostX ⟨T.setVm vm₁, locs, cells, slots⟩ argsL.toArray q B ∧
      Steps p.tables e below (T.setTop g) ((B.U.setTop { g with stack := rest }).pushFrame (.throwing q))) := by
  obtain ⟨mk, methM, cM, hnamed, hmethM, -, -, -, -, -, -, hsigM⟩ := Cond.codeWith_spec hcode
  have hstatic : methM.isStatic = true := Cond.static_spec hnamed hmethM hstat
  obtain ⟨kP, hkP, -⟩ := className_of_methodNamed hnamed
  have hinitP : kP.init = .initialized := Cond.initialized_spec (findClass_of_methodNamed hnamed) hkP hinit
  obtain ⟨vm₁, X₁, hstep₁⟩ := X.invokestatic hexec hown hlink hnamed hmethM hstatic hkP hinitP hy (g := g) hg (argsL := argsL) (rest := rest) (hlen _ hsigM) hstack hdg
  rcases hK m meth c ⟨T.setVm vm₁, locs, cells, slots⟩ { g with stack := rest } (.invokestatic index) mk argsL.toArray X₁ hg hsize hdg hW (X₁.named hnamed) (hpre vm₁ X₁.warmed) with ⟨v, B, X', hpost, hsteps⟩ | ⟨q, B, X', hpost, hsteps⟩
  · exact Or.inl ⟨v, vm₁, B, X₁.warmed, X', hpost, fun target h => hstep₁ _ fun acts => by rw [doInvoke_state]; exact hsteps.trans h⟩
  · exact Or.inr ⟨q, vm₁, B, X₁.warmed, X', hpost, hstep₁ _ fun acts => by rw [doInvoke_state]; exact hsteps⟩
theorem vx_callVW (X : Stand p l e R s m args below meth c T locs cells slots) (hexec : p.tables.exec = Jvm.exec) {own C : String} {index : Nat} {y : MethodName} {bytes : ByteArray} {maxL : Nat} {ret : Option FieldType} {hh : List (Nat × Nat × Nat × Nat)}
    (hown : s.vm.findClass own = some m.cls) (hlink : (Cond.methodLink own index y).before args s = true) (hinst : (Cond.instanceMethod y).before args s = true) (hsel : (Cond.selects C y y).before args s = true)
    (hcode : (Cond.codeWith y bytes maxL ret hh).before args s = true) (hy : y.cls ≠ "java/lang/invoke/MethodHandle" ∧ y.cls ≠ "java/lang/invoke/VarHandle")
    {W9 : Nat} {Pre : Pt → Array Value → Prop} {Post : Pt → Array Value → Option Value → Pt → Prop} (hK : Back l R p e below s args y 3 W9 Pre Post)
    {b : Addr} {cellB : Cell} (hcell : T.heap[b]? = some cellB) (hobj : cellB.vm.isStatics = false) (hcls : s.vm.findClass C = some cellB.cls)
    {g : JFrame} (hg : g.method = m) (hsize : g.locals.size = c.maxLocals) {argsL rest : List Value} (hlen : ∀ sig, parseMethodDescriptor y.desc = some sig → argsL.length = sig.parameters.length)
    (hstack : g.stack = argsL.reverse ++ .ref b :: rest) (hW : 2 * g.monitorRoom + (rest.map fun v => v.category).sum ≤ W9) (hdg : decode c.code g.pc = .ok (.invokevirtual index, 3))
    (hpre : ∀ vm₁, s.WarmedH vm₁ → Pre ⟨T.setVm vm₁, locs, cells, slots⟩ (Value.ref b :: argsL).toArray) :
    ∃ (v : Option Value) (vm₁ : Vm) (B : Pt), s.WarmedH vm₁ ∧ Stand p l e R s m args below meth c B.U B.locs B.cells B.slots ∧ Post ⟨T.setVm vm₁, locs, cells, slots⟩ (Value.ref b :: argsL).toArray v B ∧
      ∀ target, Steps p.tables e below (B.U.setTop { g with pc := g.pc + 3, stack := v.toList ++ rest }) target → Steps p.tables e below (T.setTop g) target := by
  obtain ⟨mk, methM, hnamed, hmethM, hstM, habM⟩ := Cond.instanceMethod_spec hinst
  obtain ⟨m8, methM', cM, hn8, hmethM', -, -, -, -, -, -, hsigM⟩ := Cond.codeWith_spec hcode
  cases Option.some.inj (hn8.symm.trans hnamed)
  cases hmethM.symm.trans hmethM'
  obtain ⟨c2, r2, m2, q1, q2, q3, q4, kP, hkP, hkPi⟩ := Cond.selects_spec hsel
  cases hcls.symm.trans q1
  cases (State.methodFound?_of_named hnamed hy).symm.trans q2
  cases hnamed.symm.trans q3
  have hselP : selectMethod e.platform s.vm cellB.cls mk = .method mk := by rw [Launch.admits_selectMethod X.admits]; exact q4
  obtain ⟨vm₁, X₁, hstep₁⟩ := X.invokevirtual hexec hown hlink hnamed hmethM hstM hkP hkPi hy (a := b) (cell := cellB) hcell
    (fun z h => by rw [h] at hobj; cases hobj) hselP hmethM habM hkP hkPi (g := g) hg (argsL := argsL) (rest := rest) (hlen _ hsigM) hstack hdg
  obtain ⟨v, B, X', hpost, hsteps⟩ := hK m meth c ⟨T.setVm vm₁, locs, cells, slots⟩ { g with stack := rest } (.invokevirtual index) mk (Value.ref b :: argsL).toArray X₁ hg hsize hdg hW (X₁.named hnamed) (hpre vm₁ X₁.warmed)
  exact ⟨v, vm₁, B, X₁.warmed, X', hpost, fun target h => hstep₁ _ fun acts => by rw [doInvoke_state]; exact hsteps.trans h⟩
abbrev vx_CVW (R : Room) (s : State) (args : Array Value) (own C : String) (index : Nat) (y : MethodName) (bytes : ByteArray) (maxL : Nat) (ret : Option FieldType) (hh : List (Nat × Nat × Nat × Nat)) (ws : List Cond) (rm : Room) (mc ms n : Nat) : Prop :=
  (rm.cells = mc ∧ rm.slots = ms ∧ rm.frames + 1 ≤ R.frames ∧ 8 + (maxL + 11) + rm.locals ≤ R.locals ∧ (∀ w ∈ ws, ∀ (a' : Array Value) (U : State), s.WarmedH U.vm → w.before a' U = true) ∧ Cond.codeWith y bytes maxL ret hh ∈ ws) ∧
  (Cond.codeWith y bytes maxL ret hh).before args s = true ∧ (Cond.initialized y.cls).before args s = true ∧ (y.cls ≠ "java/lang/invoke/MethodHandle" ∧ y.cls ≠ "java/lang/invoke/VarHandle") ∧
  (∀ sig, parseMethodDescriptor y.desc = some sig → n = sig.parameters.length) ∧ (Cond.methodLink own index y).before args s = true ∧ (Cond.instanceMethod y).before args s = true ∧ (Cond.selects C y y).before args s = true
theorem vx_cwVW {own C : String} {index maxL mc ms : Nat} {y : MethodName} {bytes : ByteArray} {ret : Option FieldType} {hh : List (Nat × Nat × Nat × Nat)} {Ts ws ws' : List Cond} {rm : Room} (n : Nat) (ht : ∀ w ∈ Ts, w.before args s = true) (hT : GoodIn Ts (wsV own index C y ws)) (hw : ws = Cond.codeWith y bytes maxL ret hh :: ws') (hrc : rm.cells = mc) (hrs : rm.slots = ms)
    (hd : y.cls = C ∧ y.cls ≠ "java/lang/invoke/MethodHandle" ∧ y.cls ≠ "java/lang/invoke/VarHandle" ∧ (parseMethodDescriptor y.desc).map (fun d => d.parameters.length) = some n) (hR : rm.frames + 1 ≤ R.frames ∧ 8 + (maxL + 11) + rm.locals ≤ R.locals) :
    vx_CVW R s args own C index y bytes maxL ret hh ws rm mc ms n := by
  obtain ⟨hC, hd⟩ := hd
  subst hC
  have ok : ∀ w ∈ wsV own index y.cls y ws, w.before args s = true := fun w h => ht w (hT w h).1
  have hG : GoodIn Ts ws := fun w h => hT w (by unfold wsV; exact List.mem_append_right _ h)
  have hc : Cond.codeWith y bytes maxL ret hh ∈ ws := by rw [hw]; exact List.mem_cons_self
  refine ⟨⟨hrc, hrs, hR.1, hR.2, pay_in ht hG, hc⟩, ht _ (hG _ hc).1, ok _ (by simp [wsV]), ⟨hd.1, hd.2.1⟩, fun sig h => ?_, ok _ (by simp [wsV]), ok _ (by simp [wsV]), ok _ (by simp [wsV])⟩
  have h2 := hd.2.2
  rw [h] at h2
  exact (Option.some.inj h2).symm
theorem vx_runVW {y : MethodName} {bytes cc : ByteArray} {maxL nL mc ms n index : Nat} {ret : Option FieldType} {hh : List (Nat × Nat × Nat × Nat)} {ws : List Cond} {rm : Room} {Pc : Array Value → State → Prop} {Qc : Array Value → State → Outcome → State → Prop} {free : Addr → Prop} {Ts : List Cond} {own C : String} {b : Addr} {As rest : List Value} {g : JFrame}
    (S : CallFix p m c cc nL s args Ts own) (hM : Met l y ws rm Pc Qc mc ms free) (cw : vx_CVW R s args own C index y bytes maxL ret hh ws rm mc ms n) (hp : PreV s H C b Pc As)
    (hg : g.method = m) (hn : As.length = n) (hsize : g.locals.size = nL) (hstack : g.stack = As.reverse ++ .ref b :: rest) (hW : 2 * g.monitorRoom + (rest.map fun v => v.category).sum ≤ 8) (hdg : decode cc g.pc = .ok (.invokevirtual index, 3)) (hf : cells + mc ≤ R.cells ∧ slots + ms ≤ R.slots) :
    va_Run p l e R s m args below meth c H locs cells slots mc ms g rest (Qc (Value.ref b :: As).toArray) free := by
  obtain ⟨⟨hrc, hrs, hfr, hlo, hws, hcw⟩, hcode, hini, hy, hlen, hl, hin, hse⟩ := cw
  have hK : Back l R p e below s args y 3 8 (PreOf R mc ms Pc) (PostOf Qc mc ms free) := va_backW (hh := hh) (bytes := bytes) (maxL := maxL) (ret := ret) hM hp.1 hrc hrs hfr hlo hws hcw (fun a' U hW => word_at hW (Or.inl (by first | rfl | simp [Cond.onTables, Cond.keeps, Cond.steady])) hini)
  obtain ⟨hx, hb, hml, ho, -⟩ := S
  obtain ⟨-, ⟨cellB, hcB, hoB, hclB⟩, hPc⟩ := hp
  intro T hT X
  obtain ⟨v, vm₁, ⟨U', l2, c2, s2⟩, hW₁, X', ⟨g', mk, t, L, e1, e2, hq, h1, hL, h2, h3⟩, st⟩ := vx_callVW X hx (C := C) (hh := hh) (bytes := bytes) (maxL := maxL) (ret := ret) ho hl hin hse hcode hy hK (by rw [hT]; exact hcB) hoB hclB hg (hsize.trans hml.symm) (argsL := As) (rest := rest) (fun sig h => hn.trans (hlen sig h)) hstack hW (by rw [hb]; exact hdg)
    (fun vm₁ hW₁ => ⟨hf.1, hf.2, hPc (T.setVm vm₁) hT hW₁⟩)
  dsimp only [Pt.U, Pt.locs, Pt.cells, Pt.slots] at X' e1 e2 h1 h2 h3 st
  subst h1; subst h2; subst h3
  exact ⟨v, (T.setVm vm₁).calling g' mk (Value.ref b :: As).toArray, t, U', L, hT, X', hL, e1, e2, hq, st⟩
section
variable {y : MethodName} {bytes cc : ByteArray} {maxL nL mc ms n index : Nat} {ret : Option FieldType} {ws : List Cond} {rm : Room} {Pc : Array Value → State → Prop} {Qc : Array Value → State → Outcome → State → Prop} {XC : String → State → State → Prop} {free : Addr → Prop} {Ts : List Cond} {own C : String} {b : Addr} {As rest : List Value} {g : JFrame}
theorem vx_runVX {hh : List (Nat × Nat × Nat × Nat)} (S : CallFix p m c cc nL s args Ts own) (hM : vx_Met l y ws rm Pc Qc XC mc ms free) (cw : vx_CVW R s args own C index y bytes maxL ret hh ws rm mc ms n) (hp : PreV s H C b Pc As)
    (hg : g.method = m) (hn : As.length = n) (hsize : g.locals.size = nL) (hstack : g.stack = As.reverse ++ .ref b :: rest) (hW : 2 * g.monitorRoom + (rest.map fun v => v.category).sum ≤ 8) (hdg : decode cc g.pc = .ok (.invokevirtual index, 3)) (hf : cells + mc ≤ R.cells ∧ slots + ms ≤ R.slots) :
    vx_Run p l e R s m args below meth c H locs cells slots mc ms g rest (Qc (Value.ref b :: As).toArray) XC free := by
  obtain ⟨⟨hrc, hrs, hfr, hlo, hws, hcw⟩, hcode, hini, hy, hlen, hl, hin, hse⟩ := cw
  have hK : vx_Back l R p e below s args y 3 8 (PreOf R mc ms Pc) (PostOf Qc mc ms free) (vx_Post XC mc ms free) := vx_backW (hh := hh) (bytes := bytes) (maxL := maxL) (ret := ret) hM hp.1 hrc hrs hfr hlo hws hcw (fun a' U hW => word_at hW (Or.inl (by first | rfl | simp [Cond.onTables, Cond.keeps, Cond.steady])) hini)
  obtain ⟨hx, hb, hml, ho, -⟩ := S
  obtain ⟨-, ⟨cellB, hcB, hoB, hclB⟩, hPc⟩ := hp
  intro T hT X
  rcases vx_callVX X hx (C := C) (hh := hh) (bytes := bytes) (maxL := maxL) (ret := ret) ho hl hin hse hcode hy hK (by rw [hT]; exact hcB) hoB hclB hg (hsize.trans hml.symm) (argsL := As) (rest := rest) (fun sig h => hn.trans (hlen sig h)) hstack hW (by rw [hb]; exact hdg)
    (fun vm₁ hW₁ => ⟨hf.1, hf.2, hPc (T.setVm vm₁) hT hW₁⟩) with ⟨v, vm₁, ⟨U', l2, c2, s2⟩, hW₁, X', ⟨g', mk, t, L, e1, e2, hq, h1, hL, h2, h3⟩, st⟩ | ⟨q, vm₁, ⟨U', l2, c2, s2⟩, hW₁, X', ⟨g', mk, t, L, E, ce, e1, e2, hq, hce, hcv, hcl, h1, hL, h2, h3⟩, st⟩
  · dsimp only [Pt.U, Pt.locs, Pt.cells, Pt.slots] at X' e1 e2 h1 h2 h3 st
    subst h1; subst h2; subst h3
    exact Or.inl ⟨v, (T.setVm vm₁).calling g' mk (Value.ref b :: As).toArray, t, U', L, hT, X', hL, e1, e2, hq, st⟩
  · dsimp only [Pt.U, Pt.locs, Pt.cells, Pt.slots] at X' e1 e2 h1 h2 h3 st hcl
    subst h1; subst h2; subst h3
    exact Or.inr ⟨q, (T.setVm vm₁).calling g' mk (Value.ref b :: As).toArray, t, U', L, E, ce, hT, X', hL, e1, e2, hq, hce, hcv, vx_cls hW₁ hcl, st⟩
theorem vx_runSX {hh : List (Nat × Nat × Nat × Nat)} (S : CallFix p m c cc nL s args Ts own) (hM : vx_Met l y ws rm Pc Qc XC mc ms free) (cw : vx_CSW R s args own index y bytes maxL ret hh ws rm mc ms n) (hp : PreS s H Pc As)
    (hg : g.method = m) (hn : As.length = n) (hsize : g.locals.size = nL) (hstack : g.stack = As.reverse ++ rest) (hW : 2 * g.monitorRoom + (rest.map fun v => v.category).sum ≤ 8) (hdg : decode cc g.pc = .ok (.invokestatic index, 3)) (hf : cells + mc ≤ R.cells ∧ slots + ms ≤ R.slots) :
    vx_Run p l e R s m args below meth c H locs cells slots mc ms g rest (Qc As.toArray) XC free := by
  obtain ⟨⟨hrc, hrs, hfr, hlo, hws, hcw⟩, hcode, hini, hy, hlen, hl, hstt⟩ := cw
  have hK : vx_Back l R p e below s args y 3 8 (PreOf R mc ms Pc) (PostOf Qc mc ms free) (vx_Post XC mc ms free) := vx_backW (hh := hh) (bytes := bytes) (maxL := maxL) (ret := ret) hM hp.1 hrc hrs hfr hlo hws hcw (fun a' U hW => word_at hW (Or.inl (by first | rfl | simp [Cond.onTables, Cond.keeps, Cond.steady])) hini)
  obtain ⟨hx, hb, hml, ho, -⟩ := S
  intro T hT X
  rcases vx_callSX X hx (hh := hh) (bytes := bytes) (maxL := maxL) (ret := ret) ho hl hstt hini hcode hy hK hg (hsize.trans hml.symm) (argsL := As) (rest := rest) (fun sig h => hn.trans (hlen sig h)) hstack hW (by rw [hb]; exact hdg)
    (fun vm₁ hW₁ => ⟨hf.1, hf.2, hp.2 (T.setVm vm₁) hT hW₁⟩) with ⟨v, vm₁, ⟨U', l2, c2, s2⟩, hW₁, X', ⟨g', mk, t, L, e1, e2, hq, h1, hL, h2, h3⟩, st⟩ | ⟨q, vm₁, ⟨U', l2, c2, s2⟩, hW₁, X', ⟨g', mk, t, L, E, ce, e1, e2, hq, hce, hcv, hcl, h1, hL, h2, h3⟩, st⟩
  · dsimp only [Pt.U, Pt.locs, Pt.cells, Pt.slots] at X' e1 e2 h1 h2 h3 st
    subst h1; subst h2; subst h3
    exact Or.inl ⟨v, (T.setVm vm₁).calling g' mk As.toArray, t, U', L, hT, X', hL, e1, e2, hq, st⟩
  · dsimp only [Pt.U, Pt.locs, Pt.cells, Pt.slots] at X' e1 e2 h1 h2 h3 st hcl
    subst h1; subst h2; subst h3
    exact Or.inr ⟨q, (T.setVm vm₁).calling g' mk As.toArray, t, U', L, E, ce, hT, X', hL, e1, e2, hq, hce, hcv, vx_cls hW₁ hcl, st⟩
end
end VXH
theorem vx_ofWH {l : Launch} {y : MethodName} {ws ws' : List Cond} {rm : Room} {Pc : Array Value → State → Prop} {Qc : Array Value → State → Outcome → State → Prop} {XC : String → State → State → Prop} {mc ms : Nat} {free : Addr → Prop} {cc : ByteArray} {maxL : Nat} {ret : Option FieldType} {hh : List (Nat × Nat × Nat × Nat)}
    (hy : plainName y.cls = true) (hw : ws = Cond.codeWith y cc maxL ret hh :: ws')
    (body : ∀ p e s m args below meth c s₁, BodyLoose p l y (headSpec ws rm) cc maxL ret e s m args below meth c s₁ → c.maxLocals = maxL → Pc args s →
      W p l e (headSpec ws rm).room s m args below meth c s.heap [] 0 0 (vx_MQ below Qc XC args s mc ms free) (entryFrame m args maxL)) : vx_Met l y ws rm Pc Qc XC mc ms free := by
  refine MetFree.of_bodyS (code := cc) (maxLocals := maxL) (ret := ret) hy ?_ ?_
  · intro args s m h hn
    obtain ⟨m9, meth, c, hn9, h1, h2, h3, h4, -, h5, h6, -⟩ := Cond.codeWith_spec (atoms_spec (ws := ws) h _ (by rw [hw]; exact List.mem_cons_self))
    cases hn.symm.trans hn9
    exact ⟨meth, c, h1, h2, h3, h4, h5, h6⟩
  · intro p e s m args below meth c s₁ B hml hP _
    have hh0 : s₁.heap = s.heap := by rw [B.state]; rfl
    obtain ⟨t, a1, o, b1, b2, b3⟩ := body p e s m args below meth c s₁ B hml hP s₁ hh0 (Stand.of_body B)
    exact ⟨t, o, a1, b1, b2, b3⟩
/-! ===== END ===== -/
end
section
/-! Names: classes, fields, methods, and the tables' words by their places (by program, out of the Statement). -/
abbrev R_F : String := "PolynomialHeap$Field"
abbrev R_Q : String := "PolynomialHeap$Monomial"
abbrev R_P : String := "PolynomialHeap$Polynomial"
abbrev R_T : String := "PolynomialHeap$PowerTable"
abbrev R_S : String := "PolynomialHeap$Sheet"
abbrev R_H : String := "PolynomialHeap"
abbrev R_R : String := "PolynomialHeapModel"
abbrev R_L : String := "PolynomialHeapLaw"
abbrev R_Jm : String := "java/lang/Math"
abbrev R_Ja : String := "java/util/Arrays"
abbrev R_Ji : String := "java/lang/Integer"
abbrev R_Js : String := "java/lang/System"
abbrev R_Jo : String := "java/lang/Object"
def T_F : u_T := fun k => match k with
  | _ => ("PolynomialHeap$Field", "prime", "I", true)
def ty_F : Nat → FieldType := fun k => match k with
  | _ => .int
theorem nm_F : ∀ a, a < 1 → ∀ b, b < 1 → a ≠ b → (T_F a).2.1 ≠ (T_F b).2.1 := by decide +kernel
theorem tyok_F : ∀ k, k < 1 → parseFieldDescriptor (T_F k).2.2.1 = some (ty_F k) := by decide +kernel
def T_P : u_T := fun k => match k with
  | 0 => ("PolynomialHeap$Polynomial", "monomials", "[I", false)
  | 1 => ("PolynomialHeap$Polynomial", "coefficients", "[I", false)
  | _ => ("PolynomialHeap$Polynomial", "size", "I", false)
def ty_P : Nat → FieldType := fun k => match k with
  | 0 => .array .int
  | 1 => .array .int
  | _ => .int
theorem nm_P : ∀ a, a < 3 → ∀ b, b < 3 → a ≠ b → (T_P a).2.1 ≠ (T_P b).2.1 := by decide +kernel
theorem tyok_P : ∀ k, k < 3 → parseFieldDescriptor (T_P k).2.2.1 = some (ty_P k) := by decide +kernel
def T_T : u_T := fun k => match k with
  | 0 => ("PolynomialHeap$PowerTable", "field", "LPolynomialHeap$Field;", true)
  | _ => ("PolynomialHeap$PowerTable", "rows", "[[I", true)
def ty_T : Nat → FieldType := fun k => match k with
  | 0 => .object "PolynomialHeap$Field"
  | _ => .array (.array .int)
theorem nm_T : ∀ a, a < 2 → ∀ b, b < 2 → a ≠ b → (T_T a).2.1 ≠ (T_T b).2.1 := by decide +kernel
theorem tyok_T : ∀ k, k < 2 → parseFieldDescriptor (T_T k).2.2.1 = some (ty_T k) := by decide +kernel
def T_S : u_T := fun k => match k with
  | 0 => ("PolynomialHeap$Sheet", "field", "LPolynomialHeap$Field;", true)
  | 1 => ("PolynomialHeap$Sheet", "monomials", "[I", true)
  | 2 => ("PolynomialHeap$Sheet", "firstRanks", "[I", true)
  | 3 => ("PolynomialHeap$Sheet", "cells", "[I", true)
  | _ => ("PolynomialHeap$Sheet", "end", "I", false)
def ty_S : Nat → FieldType := fun k => match k with
  | 0 => .object "PolynomialHeap$Field"
  | 1 => .array .int
  | 2 => .array .int
  | 3 => .array .int
  | _ => .int
theorem nm_S : ∀ a, a < 5 → ∀ b, b < 5 → a ≠ b → (T_S a).2.1 ≠ (T_S b).2.1 := by decide +kernel
theorem tyok_S : ∀ k, k < 5 → parseFieldDescriptor (T_S k).2.2.1 = some (ty_S k) := by decide +kernel
def T_H : u_T := fun k => match k with
  | 0 => ("PolynomialHeap", "field", "LPolynomialHeap$Field;", true)
  | 1 => ("PolynomialHeap", "sheet", "LPolynomialHeap$Sheet;", true)
  | 2 => ("PolynomialHeap", "powers", "LPolynomialHeap$PowerTable;", true)
  | 3 => ("PolynomialHeap", "registers", "[LPolynomialHeap$Polynomial;", true)
  | 4 => ("PolynomialHeap", "minors", "[LPolynomialHeap$Polynomial;", true)
  | 5 => ("PolynomialHeap", "spare", "LPolynomialHeap$Polynomial;", false)
  | _ => ("PolynomialHeap", "refusals", "I", false)
def ty_H : Nat → FieldType := fun k => match k with
  | 0 => .object "PolynomialHeap$Field"
  | 1 => .object "PolynomialHeap$Sheet"
  | 2 => .object "PolynomialHeap$PowerTable"
  | 3 => .array (.object "PolynomialHeap$Polynomial")
  | 4 => .array (.object "PolynomialHeap$Polynomial")
  | 5 => .object "PolynomialHeap$Polynomial"
  | _ => .int
theorem nm_H : ∀ a, a < 7 → ∀ b, b < 7 → a ≠ b → (T_H a).2.1 ≠ (T_H b).2.1 := by decide +kernel
theorem tyok_H : ∀ k, k < 7 → parseFieldDescriptor (T_H k).2.2.1 = some (ty_H k) := by decide +kernel
def T_R : u_T := fun k => match k with
  | 0 => ("PolynomialHeapModel", "thrown", "I", false)
  | 1 => ("PolynomialHeapModel", "prime", "I", true)
  | 2 => ("PolynomialHeapModel", "refused", "I", false)
  | 3 => ("PolynomialHeapModel", "exponents", "[I", true)
  | 4 => ("PolynomialHeapModel", "places", "[I", true)
  | 5 => ("PolynomialHeapModel", "rows", "[I", true)
  | 6 => ("PolynomialHeapModel", "one", "[I", true)
  | 7 => ("PolynomialHeapModel", "two", "[I", true)
  | 8 => ("PolynomialHeapModel", "out", "[I", true)
  | 9 => ("PolynomialHeapModel", "listed", "[I", true)
  | 10 => ("PolynomialHeapModel", "now", "[I", true)
  | 11 => ("PolynomialHeapModel", "some", "[I", true)
  | 12 => ("PolynomialHeapModel", "entries", "[I", true)
  | _ => ("PolynomialHeapModel", "sums", "[I", true)
def ty_R : Nat → FieldType := fun k => match k with
  | 0 => .int
  | 1 => .int
  | 2 => .int
  | 3 => .array .int
  | 4 => .array .int
  | 5 => .array .int
  | 6 => .array .int
  | 7 => .array .int
  | 8 => .array .int
  | 9 => .array .int
  | 10 => .array .int
  | 11 => .array .int
  | 12 => .array .int
  | _ => .array .int
theorem nm_R : ∀ a, a < 14 → ∀ b, b < 14 → a ≠ b → (T_R a).2.1 ≠ (T_R b).2.1 := by decide +kernel
theorem tyok_R : ∀ k, k < 14 → parseFieldDescriptor (T_R k).2.2.1 = some (ty_R k) := by decide +kernel
abbrev vC : List vw_C := [(R_F, T_F, 1), (R_P, T_P, 3), (R_T, T_T, 2), (R_S, T_S, 5), (R_H, T_H, 7), (R_R, T_R, 14)]
abbrev b_H_init : ByteArray := prog_1_method_1_code
abbrev y_H_init : MethodName := ⟨R_H, "<init>", "(I)V"⟩
abbrev b_Jo_init : ByteArray := object_method_1_code
abbrev y_Jo_init : MethodName := ⟨R_Jo, "<init>", "()V"⟩
abbrev b_F_init : ByteArray := prog_2_method_1_code
abbrev y_F_init : MethodName := ⟨R_F, "<init>", "(I)V"⟩
abbrev b_F_leastPrime : ByteArray := prog_2_method_2_code
abbrev y_F_leastPrime : MethodName := ⟨R_F, "leastPrime", "(I)I"⟩
abbrev b_Jm_max : ByteArray := prog_14_method_65_code
abbrev y_Jm_max : MethodName := ⟨R_Jm, "max", "(II)I"⟩
abbrev b_F_isPrime : ByteArray := prog_2_method_3_code
abbrev y_F_isPrime : MethodName := ⟨R_F, "isPrime", "(I)Z"⟩
abbrev b_S_init : ByteArray := prog_6_method_1_code
abbrev y_S_init : MethodName := ⟨R_S, "<init>", "(LPolynomialHeap$Field;)V"⟩
abbrev b_Q_of : ByteArray := prog_3_method_2_code
abbrev y_Q_of : MethodName := ⟨R_Q, "of", "(III)I"⟩
abbrev b_T_init : ByteArray := prog_5_method_1_code
abbrev y_T_init : MethodName := ⟨R_T, "<init>", "(LPolynomialHeap$Field;)V"⟩
abbrev b_P_init : ByteArray := prog_4_method_1_code
abbrev y_P_init : MethodName := ⟨R_P, "<init>", "()V"⟩
abbrev b_H_count : ByteArray := prog_1_method_17_code
abbrev y_H_count : MethodName := ⟨R_H, "count", "(I)I"⟩
abbrev b_H_allTerms : ByteArray := prog_1_method_24_code
abbrev y_H_allTerms : MethodName := ⟨R_H, "allTerms", "()I"⟩
abbrev b_H_zeroRegisters : ByteArray := prog_1_method_25_code
abbrev y_H_zeroRegisters : MethodName := ⟨R_H, "zeroRegisters", "()I"⟩
abbrev b_P_isZero : ByteArray := prog_4_method_5_code
abbrev y_P_isZero : MethodName := ⟨R_P, "isZero", "()Z"⟩
abbrev b_H_greatestDegree : ByteArray := prog_1_method_26_code
abbrev y_H_greatestDegree : MethodName := ⟨R_H, "greatestDegree", "()I"⟩
abbrev b_P_degreeIn : ByteArray := prog_4_method_6_code
abbrev y_P_degreeIn : MethodName := ⟨R_P, "degreeIn", "(I)I"⟩
abbrev b_Q_exponent : ByteArray := prog_3_method_5_code
abbrev y_Q_exponent : MethodName := ⟨R_Q, "exponent", "(II)I"⟩
abbrev b_L_cell : ByteArray := method_2_code
abbrev y_L_cell : MethodName := ⟨R_L, "cell", "([II)I"⟩
abbrev b_L_constant : ByteArray := method_3_code
abbrev y_L_constant : MethodName := ⟨R_L, "constant", "(LPolynomialHeap;II)I"⟩
abbrev b_H_constant : ByteArray := prog_1_method_2_code
abbrev y_H_constant : MethodName := ⟨R_H, "constant", "(II)V"⟩
abbrev b_H_checkRegister : ByteArray := prog_1_method_18_code
abbrev y_H_checkRegister : MethodName := ⟨R_H, "checkRegister", "(I)V"⟩
abbrev b_F_reduced : ByteArray := prog_2_method_4_code
abbrev y_F_reduced : MethodName := ⟨R_F, "reduced", "(I)I"⟩
abbrev b_Jm_floorMod : ByteArray := prog_14_method_50_code
abbrev y_Jm_floorMod : MethodName := ⟨R_Jm, "floorMod", "(II)I"⟩
abbrev b_P_becomeNumber : ByteArray := prog_4_method_4_code
abbrev y_P_becomeNumber : MethodName := ⟨R_P, "becomeNumber", "(I)V"⟩
abbrev b_P_clear : ByteArray := prog_4_method_2_code
abbrev y_P_clear : MethodName := ⟨R_P, "clear", "()V"⟩
abbrev b_P_append : ByteArray := prog_4_method_3_code
abbrev y_P_append : MethodName := ⟨R_P, "append", "(II)V"⟩
abbrev b_Ja_copyOf : ByteArray := prog_18_method_123_code
abbrev y_Ja_copyOf : MethodName := ⟨R_Ja, "copyOf", "([II)[I"⟩
abbrev b_Jm_min : ByteArray := prog_14_method_69_code
abbrev y_Jm_min : MethodName := ⟨R_Jm, "min", "(II)I"⟩
abbrev b_L_variable : ByteArray := method_4_code
abbrev y_L_variable : MethodName := ⟨R_L, "variable", "(LPolynomialHeap;II)I"⟩
abbrev b_H_variable : ByteArray := prog_1_method_3_code
abbrev y_H_variable : MethodName := ⟨R_H, "variable", "(II)V"⟩
abbrev b_H_checkVariable : ByteArray := prog_1_method_20_code
abbrev y_H_checkVariable : MethodName := ⟨R_H, "checkVariable", "(I)V"⟩
abbrev b_Q_ofVariable : ByteArray := prog_3_method_3_code
abbrev y_Q_ofVariable : MethodName := ⟨R_Q, "ofVariable", "(I)I"⟩
abbrev b_L_add : ByteArray := method_5_code
abbrev y_L_add : MethodName := ⟨R_L, "add", "(LPolynomialHeap;IIII)I"⟩
abbrev b_H_add : ByteArray := prog_1_method_4_code
abbrev y_H_add : MethodName := ⟨R_H, "add", "(IIII)V"⟩
abbrev b_H_checkRegisters : ByteArray := prog_1_method_19_code
abbrev y_H_checkRegisters : MethodName := ⟨R_H, "checkRegisters", "(III)V"⟩
abbrev b_S_addMultiple : ByteArray := prog_6_method_4_code
abbrev y_S_addMultiple : MethodName := ⟨R_S, "addMultiple", "(LPolynomialHeap$Polynomial;II)V"⟩
abbrev b_S_addTerm : ByteArray := prog_6_method_3_code
abbrev y_S_addTerm : MethodName := ⟨R_S, "addTerm", "(III)V"⟩
abbrev b_S_rankOf : ByteArray := prog_6_method_2_code
abbrev y_S_rankOf : MethodName := ⟨R_S, "rankOf", "(I)I"⟩
abbrev b_Q_sumAndFirst : ByteArray := prog_3_method_6_code
abbrev y_Q_sumAndFirst : MethodName := ⟨R_Q, "sumAndFirst", "(I)I"⟩
abbrev b_F_sumWithProduct : ByteArray := prog_2_method_6_code
abbrev y_F_sumWithProduct : MethodName := ⟨R_F, "sumWithProduct", "(III)I"⟩
abbrev b_S_moveTo : ByteArray := prog_6_method_8_code
abbrev y_S_moveTo : MethodName := ⟨R_S, "moveTo", "(LPolynomialHeap$Polynomial;)V"⟩
abbrev b_S_clear : ByteArray := prog_6_method_9_code
abbrev y_S_clear : MethodName := ⟨R_S, "clear", "()V"⟩
abbrev b_Ja_fill : ByteArray := prog_18_method_104_code
abbrev y_Ja_fill : MethodName := ⟨R_Ja, "fill", "([IIII)V"⟩
abbrev b_Ja_rangeCheck : ByteArray := prog_18_method_30_code
abbrev y_Ja_rangeCheck : MethodName := ⟨R_Ja, "rangeCheck", "(III)V"⟩
abbrev b_L_multiply : ByteArray := method_6_code
abbrev y_L_multiply : MethodName := ⟨R_L, "multiply", "(LPolynomialHeap;III[J)I"⟩
abbrev b_H_multiply : ByteArray := prog_1_method_5_code
abbrev y_H_multiply : MethodName := ⟨R_H, "multiply", "(III)Z"⟩
abbrev b_H_refuse : ByteArray := prog_1_method_21_code
abbrev y_H_refuse : MethodName := ⟨R_H, "refuse", "()Z"⟩
abbrev b_S_addProduct : ByteArray := prog_6_method_5_code
abbrev y_S_addProduct : MethodName := ⟨R_S, "addProduct", "(LPolynomialHeap$Polynomial;LPolynomialHeap$Polynomial;)V"⟩
abbrev b_L_power : ByteArray := method_7_code
abbrev y_L_power : MethodName := ⟨R_L, "power", "(LPolynomialHeap;III[J)I"⟩
abbrev b_H_power : ByteArray := prog_1_method_6_code
abbrev y_H_power : MethodName := ⟨R_H, "power", "(III)Z"⟩
abbrev b_H_exchangeSpare : ByteArray := prog_1_method_22_code
abbrev y_H_exchangeSpare : MethodName := ⟨R_H, "exchangeSpare", "(I)V"⟩
abbrev b_L_divide : ByteArray := method_8_code
abbrev y_L_divide : MethodName := ⟨R_L, "divide", "(LPolynomialHeap;IIIZ)I"⟩
abbrev b_H_divide : ByteArray := prog_1_method_7_code
abbrev y_H_divide : MethodName := ⟨R_H, "divide", "(IIIZ)V"⟩
abbrev b_S_divideBy : ByteArray := prog_6_method_7_code
abbrev y_S_divideBy : MethodName := ⟨R_S, "divideBy", "(LPolynomialHeap$Polynomial;LPolynomialHeap$Polynomial;)V"⟩
abbrev b_F_inverse : ByteArray := prog_2_method_8_code
abbrev y_F_inverse : MethodName := ⟨R_F, "inverse", "(I)I"⟩
abbrev b_F_product : ByteArray := prog_2_method_5_code
abbrev y_F_product : MethodName := ⟨R_F, "product", "(II)I"⟩
abbrev b_Q_isMultiple : ByteArray := prog_3_method_8_code
abbrev y_Q_isMultiple : MethodName := ⟨R_Q, "isMultiple", "(II)Z"⟩
abbrev b_F_negative : ByteArray := prog_2_method_7_code
abbrev y_F_negative : MethodName := ⟨R_F, "negative", "(I)I"⟩
abbrev b_L_derive : ByteArray := method_9_code
abbrev y_L_derive : MethodName := ⟨R_L, "derive", "(LPolynomialHeap;III)I"⟩
abbrev b_H_derive : ByteArray := prog_1_method_8_code
abbrev y_H_derive : MethodName := ⟨R_H, "derive", "(III)V"⟩
abbrev b_L_put : ByteArray := method_10_code
abbrev y_L_put : MethodName := ⟨R_L, "put", "(LPolynomialHeap;IIII[J)I"⟩
abbrev b_H_put : ByteArray := prog_1_method_9_code
abbrev y_H_put : MethodName := ⟨R_H, "put", "(IIII)Z"⟩
abbrev b_S_addCoefficientOf : ByteArray := prog_6_method_6_code
abbrev y_S_addCoefficientOf : MethodName := ⟨R_S, "addCoefficientOf", "(LPolynomialHeap$Polynomial;II)V"⟩
abbrev b_Q_without : ByteArray := prog_3_method_7_code
abbrev y_Q_without : MethodName := ⟨R_Q, "without", "(II)I"⟩
abbrev b_L_resultant : ByteArray := method_11_code
abbrev y_L_resultant : MethodName := ⟨R_L, "resultant", "(LPolynomialHeap;IIII[J)I"⟩
abbrev b_H_resultant : ByteArray := prog_1_method_10_code
abbrev y_H_resultant : MethodName := ⟨R_H, "resultant", "(IIII)Z"⟩
abbrev b_Ji_bitCount : ByteArray := prog_13_method_49_code
abbrev y_Ji_bitCount : MethodName := ⟨R_Ji, "bitCount", "(I)I"⟩
abbrev b_H_addExpansion : ByteArray := prog_1_method_23_code
abbrev y_H_addExpansion : MethodName := ⟨R_H, "addExpansion", "(ILPolynomialHeap$Polynomial;II)V"⟩
abbrev b_L_value : ByteArray := method_12_code
abbrev y_L_value : MethodName := ⟨R_L, "value", "(LPolynomialHeap;IIII[J)I"⟩
abbrev b_H_value : ByteArray := prog_1_method_11_code
abbrev y_H_value : MethodName := ⟨R_H, "value", "(IIII)I"⟩
abbrev b_T_fillRow : ByteArray := prog_5_method_2_code
abbrev y_T_fillRow : MethodName := ⟨R_T, "fillRow", "(II)V"⟩
abbrev b_T_at : ByteArray := prog_5_method_3_code
abbrev y_T_at : MethodName := ⟨R_T, "at", "(I)I"⟩
abbrev b_L_terms : ByteArray := method_13_code
abbrev y_L_terms : MethodName := ⟨R_L, "terms", "(LPolynomialHeap;I[J)I"⟩
abbrev b_H_terms : ByteArray := prog_1_method_12_code
abbrev y_H_terms : MethodName := ⟨R_H, "terms", "(I)I"⟩
abbrev b_L_term : ByteArray := method_14_code
abbrev y_L_term : MethodName := ⟨R_L, "term", "(LPolynomialHeap;III[J)I"⟩
abbrev b_H_term : ByteArray := prog_1_method_13_code
abbrev y_H_term : MethodName := ⟨R_H, "term", "(III)I"⟩
abbrev b_L_coefficient : ByteArray := method_15_code
abbrev y_L_coefficient : MethodName := ⟨R_L, "coefficient", "(LPolynomialHeap;IIII[J)I"⟩
abbrev b_H_coefficient : ByteArray := prog_1_method_14_code
abbrev y_H_coefficient : MethodName := ⟨R_H, "coefficient", "(IIII)I"⟩
abbrev b_Q_exists : ByteArray := prog_3_method_4_code
abbrev y_Q_exists : MethodName := ⟨R_Q, "exists", "(III)Z"⟩
abbrev b_P_coefficientOf : ByteArray := prog_4_method_7_code
abbrev y_P_coefficientOf : MethodName := ⟨R_P, "coefficientOf", "(I)I"⟩
abbrev b_L_degree : ByteArray := method_16_code
abbrev y_L_degree : MethodName := ⟨R_L, "degree", "(LPolynomialHeap;II[J)I"⟩
abbrev b_H_degree : ByteArray := prog_1_method_15_code
abbrev y_H_degree : MethodName := ⟨R_H, "degree", "(II)I"⟩
abbrev b_L_isSame : ByteArray := method_17_code
abbrev y_L_isSame : MethodName := ⟨R_L, "isSame", "(LPolynomialHeap;II[J)I"⟩
abbrev b_H_isSame : ByteArray := prog_1_method_16_code
abbrev y_H_isSame : MethodName := ⟨R_H, "isSame", "(II)Z"⟩
abbrev b_P_matches : ByteArray := prog_4_method_8_code
abbrev y_P_matches : MethodName := ⟨R_P, "matches", "(LPolynomialHeap$Polynomial;)Z"⟩
abbrev b_R_init : ByteArray := prog_8_method_1_code
abbrev y_R_init : MethodName := ⟨R_R, "<init>", "(I)V"⟩
abbrev b_R_isPrime : ByteArray := prog_8_method_2_code
abbrev y_R_isPrime : MethodName := ⟨R_R, "isPrime", "(I)Z"⟩
abbrev b_R_thrown : ByteArray := prog_8_method_3_code
abbrev y_R_thrown : MethodName := ⟨R_R, "thrown", "()I"⟩
abbrev b_R_constant : ByteArray := prog_8_method_19_code
abbrev y_R_constant : MethodName := ⟨R_R, "constant", "(II)V"⟩
abbrev b_R_isRegister : ByteArray := prog_8_method_5_code
abbrev y_R_isRegister : MethodName := ⟨R_R, "isRegister", "(I)Z"⟩
abbrev b_R_fails : ByteArray := prog_8_method_4_code
abbrev y_R_fails : MethodName := ⟨R_R, "fails", "(ZZ)Z"⟩
abbrev b_R_clear : ByteArray := prog_8_method_12_code
abbrev y_R_clear : MethodName := ⟨R_R, "clear", "([I)V"⟩
abbrev b_R_reduced : ByteArray := prog_8_method_7_code
abbrev y_R_reduced : MethodName := ⟨R_R, "reduced", "(J)I"⟩
abbrev b_R_keep : ByteArray := prog_8_method_11_code
abbrev y_R_keep : MethodName := ⟨R_R, "keep", "(I[I)V"⟩
abbrev b_R_variable : ByteArray := prog_8_method_20_code
abbrev y_R_variable : MethodName := ⟨R_R, "variable", "(II)V"⟩
abbrev b_R_isVariable : ByteArray := prog_8_method_6_code
abbrev y_R_isVariable : MethodName := ⟨R_R, "isVariable", "(I)Z"⟩
abbrev b_R_place : ByteArray := prog_8_method_8_code
abbrev y_R_place : MethodName := ⟨R_R, "place", "(III)I"⟩
abbrev b_R_add : ByteArray := prog_8_method_21_code
abbrev y_R_add : MethodName := ⟨R_R, "add", "(IIII)V"⟩
abbrev b_R_load : ByteArray := prog_8_method_10_code
abbrev y_R_load : MethodName := ⟨R_R, "load", "(I[I)V"⟩
abbrev b_R_multiply : ByteArray := prog_8_method_22_code
abbrev y_R_multiply : MethodName := ⟨R_R, "multiply", "(III)Z"⟩
abbrev b_R_degreeOf : ByteArray := prog_8_method_14_code
abbrev y_R_degreeOf : MethodName := ⟨R_R, "degreeOf", "([II)I"⟩
abbrev b_R_exponent : ByteArray := prog_8_method_9_code
abbrev y_R_exponent : MethodName := ⟨R_R, "exponent", "(II)I"⟩
abbrev b_R_refuses : ByteArray := prog_8_method_18_code
abbrev y_R_refuses : MethodName := ⟨R_R, "refuses", "(Z)Z"⟩
abbrev b_R_times : ByteArray := prog_8_method_17_code
abbrev y_R_times : MethodName := ⟨R_R, "times", "([I[I)V"⟩
abbrev b_R_gather : ByteArray := prog_8_method_16_code
abbrev y_R_gather : MethodName := ⟨R_R, "gather", "([II[II[IIZ)V"⟩
abbrev b_R_copy : ByteArray := prog_8_method_13_code
abbrev y_R_copy : MethodName := ⟨R_R, "copy", "([I[I)V"⟩
abbrev b_R_power : ByteArray := prog_8_method_23_code
abbrev y_R_power : MethodName := ⟨R_R, "power", "(III)Z"⟩
abbrev b_R_divide : ByteArray := prog_8_method_25_code
abbrev y_R_divide : MethodName := ⟨R_R, "divide", "(IIIZ)V"⟩
abbrev b_R_isZero : ByteArray := prog_8_method_15_code
abbrev y_R_isZero : MethodName := ⟨R_R, "isZero", "([I)Z"⟩
abbrev b_R_inverse : ByteArray := prog_8_method_24_code
abbrev y_R_inverse : MethodName := ⟨R_R, "inverse", "(I)I"⟩
abbrev b_R_derive : ByteArray := prog_8_method_26_code
abbrev y_R_derive : MethodName := ⟨R_R, "derive", "(III)V"⟩
abbrev b_R_put : ByteArray := prog_8_method_28_code
abbrev y_R_put : MethodName := ⟨R_R, "put", "(IIII)Z"⟩
abbrev b_R_part : ByteArray := prog_8_method_27_code
abbrev y_R_part : MethodName := ⟨R_R, "part", "([III)V"⟩
abbrev b_R_resultant : ByteArray := prog_8_method_29_code
abbrev y_R_resultant : MethodName := ⟨R_R, "resultant", "(IIII)Z"⟩
abbrev b_R_entry : ByteArray := prog_8_method_30_code
abbrev y_R_entry : MethodName := ⟨R_R, "entry", "([IIII)V"⟩
abbrev b_R_determinant : ByteArray := prog_8_method_31_code
abbrev y_R_determinant : MethodName := ⟨R_R, "determinant", "(I)V"⟩
abbrev b_R_bits : ByteArray := prog_8_method_32_code
abbrev y_R_bits : MethodName := ⟨R_R, "bits", "(I)I"⟩
abbrev b_R_cross : ByteArray := prog_8_method_33_code
abbrev y_R_cross : MethodName := ⟨R_R, "cross", "(IIIZ)V"⟩
abbrev b_R_value : ByteArray := prog_8_method_34_code
abbrev y_R_value : MethodName := ⟨R_R, "value", "(IIII)I"⟩
abbrev b_R_terms : ByteArray := prog_8_method_36_code
abbrev y_R_terms : MethodName := ⟨R_R, "terms", "(I)I"⟩
abbrev b_R_counted : ByteArray := prog_8_method_35_code
abbrev y_R_counted : MethodName := ⟨R_R, "counted", "(I)I"⟩
abbrev b_R_term : ByteArray := prog_8_method_37_code
abbrev y_R_term : MethodName := ⟨R_R, "term", "(III)I"⟩
abbrev b_R_coefficient : ByteArray := prog_8_method_38_code
abbrev y_R_coefficient : MethodName := ⟨R_R, "coefficient", "(IIII)I"⟩
abbrev b_R_degree : ByteArray := prog_8_method_39_code
abbrev y_R_degree : MethodName := ⟨R_R, "degree", "(II)I"⟩
abbrev b_R_isSame : ByteArray := prog_8_method_40_code
abbrev y_R_isSame : MethodName := ⟨R_R, "isSame", "(II)Z"⟩
abbrev b_R_count : ByteArray := prog_8_method_41_code
abbrev y_R_count : MethodName := ⟨R_R, "count", "(I)I"⟩
abbrev b_L_law : ByteArray := code
abbrev y_L_law : MethodName := ⟨R_L, "law", "([I)Z"⟩
/-- the words that ride with every call, out of the tables; those that need a law of their own -/
def GW : List Cond := lw_tbl.filter goodWord
def nwB : Cond → Bool
  | .methodLinkNest _ _ _ _ => true
  | .castable _ _ => true
  | .arrayOver _ => true
  | .declares _ => true
  | _ => false
def NW : List Cond := lw_tbl.filter nwB
theorem gw_in {w : Cond} (i : Nat) (h : lw_tbl[i]? = some w) (hg : goodWord w = true) : w ∈ GW := List.mem_filter.mpr ⟨List.mem_of_getElem? h, hg⟩
theorem nw_in {w : Cond} (i : Nat) (h : lw_tbl[i]? = some w) (hg : nwB w = true) : w ∈ NW := List.mem_filter.mpr ⟨List.mem_of_getElem? h, hg⟩
theorem wl_H_allTerms : Cond.selects R_H y_H_allTerms y_H_allTerms ∈ GW := gw_in 0 (by decide +kernel) (by decide +kernel)
theorem wl_H_zeroRegisters : Cond.selects R_H y_H_zeroRegisters y_H_zeroRegisters ∈ GW := gw_in 1 (by decide +kernel) (by decide +kernel)
theorem wl_H_greatestDegree : Cond.selects R_H y_H_greatestDegree y_H_greatestDegree ∈ GW := gw_in 2 (by decide +kernel) (by decide +kernel)
theorem wl_S_addTerm : Cond.selects R_S y_S_addTerm y_S_addTerm ∈ GW := gw_in 4 (by decide +kernel) (by decide +kernel)
theorem wl_S_rankOf : Cond.selects R_S y_S_rankOf y_S_rankOf ∈ GW := gw_in 5 (by decide +kernel) (by decide +kernel)
theorem wl_H_refuse : Cond.selects R_H y_H_refuse y_H_refuse ∈ GW := gw_in 6 (by decide +kernel) (by decide +kernel)
theorem wl_H_exchangeSpare : Cond.selects R_H y_H_exchangeSpare y_H_exchangeSpare ∈ GW := gw_in 7 (by decide +kernel) (by decide +kernel)
theorem wl_H_addExpansion : Cond.selects R_H y_H_addExpansion y_H_addExpansion ∈ GW := gw_in 8 (by decide +kernel) (by decide +kernel)
theorem wl_R_fails : Cond.selects R_R y_R_fails y_R_fails ∈ GW := gw_in 9 (by decide +kernel) (by decide +kernel)
theorem wl_R_reduced : Cond.selects R_R y_R_reduced y_R_reduced ∈ GW := gw_in 10 (by decide +kernel) (by decide +kernel)
theorem wl_R_keep : Cond.selects R_R y_R_keep y_R_keep ∈ GW := gw_in 11 (by decide +kernel) (by decide +kernel)
theorem wl_R_place : Cond.selects R_R y_R_place y_R_place ∈ GW := gw_in 12 (by decide +kernel) (by decide +kernel)
theorem wl_R_load : Cond.selects R_R y_R_load y_R_load ∈ GW := gw_in 13 (by decide +kernel) (by decide +kernel)
theorem wl_R_degreeOf : Cond.selects R_R y_R_degreeOf y_R_degreeOf ∈ GW := gw_in 14 (by decide +kernel) (by decide +kernel)
theorem wl_R_exponent : Cond.selects R_R y_R_exponent y_R_exponent ∈ GW := gw_in 15 (by decide +kernel) (by decide +kernel)
theorem wl_R_refuses : Cond.selects R_R y_R_refuses y_R_refuses ∈ GW := gw_in 16 (by decide +kernel) (by decide +kernel)
theorem wl_R_times : Cond.selects R_R y_R_times y_R_times ∈ GW := gw_in 17 (by decide +kernel) (by decide +kernel)
theorem wl_R_gather : Cond.selects R_R y_R_gather y_R_gather ∈ GW := gw_in 18 (by decide +kernel) (by decide +kernel)
theorem wl_R_inverse : Cond.selects R_R y_R_inverse y_R_inverse ∈ GW := gw_in 19 (by decide +kernel) (by decide +kernel)
theorem wl_R_part : Cond.selects R_R y_R_part y_R_part ∈ GW := gw_in 20 (by decide +kernel) (by decide +kernel)
theorem wl_R_entry : Cond.selects R_R y_R_entry y_R_entry ∈ GW := gw_in 21 (by decide +kernel) (by decide +kernel)
theorem wl_R_determinant : Cond.selects R_R y_R_determinant y_R_determinant ∈ GW := gw_in 22 (by decide +kernel) (by decide +kernel)
theorem wl_R_cross : Cond.selects R_R y_R_cross y_R_cross ∈ GW := gw_in 23 (by decide +kernel) (by decide +kernel)
theorem wl_R_counted : Cond.selects R_R y_R_counted y_R_counted ∈ GW := gw_in 24 (by decide +kernel) (by decide +kernel)
theorem wn_L : Cond.initialized R_L ∈ GW := gw_in 25 (by decide +kernel) (by decide +kernel)
theorem wn_H : Cond.initialized R_H ∈ GW := gw_in 26 (by decide +kernel) (by decide +kernel)
theorem wn_F : Cond.initialized R_F ∈ GW := gw_in 27 (by decide +kernel) (by decide +kernel)
theorem wn_Jm : Cond.initialized R_Jm ∈ GW := gw_in 28 (by decide +kernel) (by decide +kernel)
theorem wn_S : Cond.initialized R_S ∈ GW := gw_in 29 (by decide +kernel) (by decide +kernel)
theorem wn_Q : Cond.initialized R_Q ∈ GW := gw_in 30 (by decide +kernel) (by decide +kernel)
theorem wn_T : Cond.initialized R_T ∈ GW := gw_in 31 (by decide +kernel) (by decide +kernel)
theorem wn_P : Cond.initialized R_P ∈ GW := gw_in 32 (by decide +kernel) (by decide +kernel)
theorem wn_R : Cond.initialized R_R ∈ GW := gw_in 33 (by decide +kernel) (by decide +kernel)
theorem wn_Throwable : Cond.initialized "java/lang/Throwable" ∈ GW := gw_in 34 (by decide +kernel) (by decide +kernel)
theorem wn_Exception : Cond.initialized "java/lang/Exception" ∈ GW := gw_in 35 (by decide +kernel) (by decide +kernel)
theorem wn_RuntimeException : Cond.initialized "java/lang/RuntimeException" ∈ GW := gw_in 36 (by decide +kernel) (by decide +kernel)
theorem wn_IndexOutOfBoundsException : Cond.initialized "java/lang/IndexOutOfBoundsException" ∈ GW := gw_in 37 (by decide +kernel) (by decide +kernel)
theorem wn_Ja : Cond.initialized R_Ja ∈ GW := gw_in 38 (by decide +kernel) (by decide +kernel)
theorem wn_Js : Cond.initialized R_Js ∈ GW := gw_in 39 (by decide +kernel) (by decide +kernel)
theorem wn_IllegalArgumentException : Cond.initialized "java/lang/IllegalArgumentException" ∈ GW := gw_in 40 (by decide +kernel) (by decide +kernel)
theorem wn_Ji : Cond.initialized R_Ji ∈ GW := gw_in 41 (by decide +kernel) (by decide +kernel)
theorem cl_L_8 : Cond.classLink R_L 8 "PolynomialHeap" ∈ GW := gw_in 42 (by decide +kernel) (by decide +kernel)
theorem is_H : Cond.instantiable R_H 7 ∈ GW := gw_in 43 (by decide +kernel) (by decide +kernel)
theorem ml_L_75 : Cond.methodLink R_L 75 y_H_init ∈ GW := gw_in 44 (by decide +kernel) (by decide +kernel)
theorem wi_H_init : Cond.instanceMethod y_H_init ∈ GW := gw_in 45 (by decide +kernel) (by decide +kernel)
set_option maxRecDepth 100000 in
theorem wc_H_init : Cond.code y_H_init b_H_init 3 none ∈ GW := gw_in 46 (rfl) (by decide +kernel)
theorem ml_H_1 : Cond.methodLink R_H 1 y_Jo_init ∈ GW := gw_in 47 (by decide +kernel) (by decide +kernel)
theorem wi_Jo_init : Cond.instanceMethod y_Jo_init ∈ GW := gw_in 48 (by decide +kernel) (by decide +kernel)
set_option maxRecDepth 100000 in
theorem wc_Jo_init : Cond.code y_Jo_init b_Jo_init 1 none ∈ GW := gw_in 49 (rfl) (by decide +kernel)
theorem cl_H_9 : Cond.classLink R_H 9 "PolynomialHeap$Polynomial" ∈ GW := gw_in 50 (by decide +kernel) (by decide +kernel)
theorem ao_51 : Cond.arrayOver (.object "PolynomialHeap$Polynomial") ∈ NW := nw_in 51 (by decide +kernel) (by decide +kernel)
theorem cl_H_18 : Cond.classLink R_H 18 "PolynomialHeap$Field" ∈ GW := gw_in 52 (by decide +kernel) (by decide +kernel)
theorem is_F : Cond.instantiable R_F 1 ∈ GW := gw_in 53 (by decide +kernel) (by decide +kernel)
theorem ml_H_20 : Cond.methodLink R_H 20 y_F_init ∈ GW := gw_in 54 (by decide +kernel) (by decide +kernel)
theorem wi_F_init : Cond.instanceMethod y_F_init ∈ GW := gw_in 55 (by decide +kernel) (by decide +kernel)
set_option maxRecDepth 100000 in
theorem wc_F_init : Cond.code y_F_init b_F_init 2 none ∈ GW := gw_in 56 (rfl) (by decide +kernel)
theorem ml_F_1 : Cond.methodLink R_F 1 y_Jo_init ∈ GW := gw_in 57 (by decide +kernel) (by decide +kernel)
theorem ml_F_7 : Cond.methodLink R_F 7 y_F_leastPrime ∈ GW := gw_in 58 (by decide +kernel) (by decide +kernel)
theorem ws_F_leastPrime : Cond.static y_F_leastPrime ∈ GW := gw_in 59 (by decide +kernel) (by decide +kernel)
set_option maxRecDepth 100000 in
theorem wc_F_leastPrime : Cond.code y_F_leastPrime b_F_leastPrime 2 (some .int) ∈ GW := gw_in 60 (rfl) (by decide +kernel)
theorem ml_F_17 : Cond.methodLink R_F 17 y_Jm_max ∈ GW := gw_in 61 (by decide +kernel) (by decide +kernel)
theorem ws_Jm_max : Cond.static y_Jm_max ∈ GW := gw_in 62 (by decide +kernel) (by decide +kernel)
set_option maxRecDepth 100000 in
theorem wc_Jm_max : Cond.code y_Jm_max b_Jm_max 2 (some .int) ∈ GW := gw_in 63 (rfl) (by decide +kernel)
theorem kc_F_23 : Cond.constant R_F 23 46337 ∈ GW := gw_in 64 (by decide +kernel) (by decide +kernel)
theorem ml_F_24 : Cond.methodLink R_F 24 y_F_isPrime ∈ GW := gw_in 65 (by decide +kernel) (by decide +kernel)
theorem ws_F_isPrime : Cond.static y_F_isPrime ∈ GW := gw_in 66 (by decide +kernel) (by decide +kernel)
set_option maxRecDepth 100000 in
theorem wc_F_isPrime : Cond.code y_F_isPrime b_F_isPrime 2 (some .boolean) ∈ GW := gw_in 67 (rfl) (by decide +kernel)
theorem fl_F_13 : Cond.fieldLink R_F 13 "PolynomialHeap$Field" "prime" "I" ∈ GW := gw_in 68 (by decide +kernel) (by decide +kernel)
theorem fl_H_166 : Cond.fieldLink R_H 166 "PolynomialHeap$Field" "prime" "I" ∈ GW := gw_in 69 (by decide +kernel) (by decide +kernel)
theorem cl_H_27 : Cond.classLink R_H 27 "PolynomialHeap$Sheet" ∈ GW := gw_in 73 (by decide +kernel) (by decide +kernel)
theorem is_S : Cond.instantiable R_S 5 ∈ GW := gw_in 74 (by decide +kernel) (by decide +kernel)
theorem ml_H_29 : Cond.methodLink R_H 29 y_S_init ∈ GW := gw_in 75 (by decide +kernel) (by decide +kernel)
theorem wi_S_init : Cond.instanceMethod y_S_init ∈ GW := gw_in 76 (by decide +kernel) (by decide +kernel)
set_option maxRecDepth 100000 in
theorem wc_S_init : Cond.code y_S_init b_S_init 6 none ∈ GW := gw_in 77 (rfl) (by decide +kernel)
theorem ml_S_1 : Cond.methodLink R_S 1 y_Jo_init ∈ GW := gw_in 78 (by decide +kernel) (by decide +kernel)
theorem ml_S_25 : Cond.methodLink R_S 25 y_Q_of ∈ GW := gw_in 79 (by decide +kernel) (by decide +kernel)
theorem ws_Q_of : Cond.static y_Q_of ∈ GW := gw_in 80 (by decide +kernel) (by decide +kernel)
set_option maxRecDepth 100000 in
theorem wc_Q_of : Cond.code y_Q_of b_Q_of 3 (some .int) ∈ GW := gw_in 81 (rfl) (by decide +kernel)
theorem fl_S_21 : Cond.fieldLink R_S 21 "PolynomialHeap$Sheet" "field" "LPolynomialHeap$Field;" ∈ GW := gw_in 82 (by decide +kernel) (by decide +kernel)
theorem fl_S_9 : Cond.fieldLink R_S 9 "PolynomialHeap$Sheet" "monomials" "[I" ∈ GW := gw_in 83 (by decide +kernel) (by decide +kernel)
theorem fl_S_15 : Cond.fieldLink R_S 15 "PolynomialHeap$Sheet" "firstRanks" "[I" ∈ GW := gw_in 84 (by decide +kernel) (by decide +kernel)
theorem fl_S_18 : Cond.fieldLink R_S 18 "PolynomialHeap$Sheet" "cells" "[I" ∈ GW := gw_in 85 (by decide +kernel) (by decide +kernel)
theorem fl_S_45 : Cond.fieldLink R_S 45 "PolynomialHeap$Sheet" "end" "I" ∈ GW := gw_in 86 (by decide +kernel) (by decide +kernel)
theorem ac_int : Cond.arrayClass .int ∈ GW := gw_in 98 (by decide +kernel) (by decide +kernel)
theorem cl_H_36 : Cond.classLink R_H 36 "PolynomialHeap$PowerTable" ∈ GW := gw_in 99 (by decide +kernel) (by decide +kernel)
theorem is_T : Cond.instantiable R_T 2 ∈ GW := gw_in 100 (by decide +kernel) (by decide +kernel)
theorem ml_H_38 : Cond.methodLink R_H 38 y_T_init ∈ GW := gw_in 101 (by decide +kernel) (by decide +kernel)
theorem wi_T_init : Cond.instanceMethod y_T_init ∈ GW := gw_in 102 (by decide +kernel) (by decide +kernel)
set_option maxRecDepth 100000 in
theorem wc_T_init : Cond.code y_T_init b_T_init 2 none ∈ GW := gw_in 103 (rfl) (by decide +kernel)
theorem ml_T_3 : Cond.methodLink R_T 3 y_Jo_init ∈ GW := gw_in 104 (by decide +kernel) (by decide +kernel)
theorem cl_T_11 : Cond.classLink R_T 11 "[[I" ∈ GW := gw_in 105 (by decide +kernel) (by decide +kernel)
theorem ao_106 : Cond.arrayOver (.array .int) ∈ NW := nw_in 106 (by decide +kernel) (by decide +kernel)
theorem fl_T_18 : Cond.fieldLink R_T 18 "PolynomialHeap$PowerTable" "field" "LPolynomialHeap$Field;" ∈ GW := gw_in 107 (by decide +kernel) (by decide +kernel)
theorem fl_T_13 : Cond.fieldLink R_T 13 "PolynomialHeap$PowerTable" "rows" "[[I" ∈ GW := gw_in 108 (by decide +kernel) (by decide +kernel)
theorem is_P : Cond.instantiable R_P 3 ∈ GW := gw_in 114 (by decide +kernel) (by decide +kernel)
theorem mN_H_43 : Cond.methodLinkNest R_H 43 y_P_init "PolynomialHeap" ∈ NW := nw_in 115 (by decide +kernel) (by decide +kernel)
theorem wi_P_init : Cond.instanceMethod y_P_init ∈ GW := gw_in 116 (by decide +kernel) (by decide +kernel)
set_option maxRecDepth 100000 in
theorem wc_P_init : Cond.code y_P_init b_P_init 1 none ∈ GW := gw_in 117 (rfl) (by decide +kernel)
theorem ml_P_1 : Cond.methodLink R_P 1 y_Jo_init ∈ GW := gw_in 118 (by decide +kernel) (by decide +kernel)
theorem fl_P_9 : Cond.fieldLink R_P 9 "PolynomialHeap$Polynomial" "monomials" "[I" ∈ GW := gw_in 119 (by decide +kernel) (by decide +kernel)
theorem fl_S_59 : Cond.fieldLink R_S 59 "PolynomialHeap$Polynomial" "monomials" "[I" ∈ GW := gw_in 120 (by decide +kernel) (by decide +kernel)
theorem fl_H_113 : Cond.fieldLink R_H 113 "PolynomialHeap$Polynomial" "monomials" "[I" ∈ GW := gw_in 121 (by decide +kernel) (by decide +kernel)
theorem fl_P_13 : Cond.fieldLink R_P 13 "PolynomialHeap$Polynomial" "coefficients" "[I" ∈ GW := gw_in 122 (by decide +kernel) (by decide +kernel)
theorem fl_S_60 : Cond.fieldLink R_S 60 "PolynomialHeap$Polynomial" "coefficients" "[I" ∈ GW := gw_in 123 (by decide +kernel) (by decide +kernel)
theorem fl_H_121 : Cond.fieldLink R_H 121 "PolynomialHeap$Polynomial" "coefficients" "[I" ∈ GW := gw_in 124 (by decide +kernel) (by decide +kernel)
theorem fl_P_16 : Cond.fieldLink R_P 16 "PolynomialHeap$Polynomial" "size" "I" ∈ GW := gw_in 125 (by decide +kernel) (by decide +kernel)
theorem fl_S_54 : Cond.fieldLink R_S 54 "PolynomialHeap$Polynomial" "size" "I" ∈ GW := gw_in 126 (by decide +kernel) (by decide +kernel)
theorem fl_H_109 : Cond.fieldLink R_H 109 "PolynomialHeap$Polynomial" "size" "I" ∈ GW := gw_in 127 (by decide +kernel) (by decide +kernel)
theorem fl_H_23 : Cond.fieldLink R_H 23 "PolynomialHeap" "field" "LPolynomialHeap$Field;" ∈ GW := gw_in 135 (by decide +kernel) (by decide +kernel)
theorem fl_H_32 : Cond.fieldLink R_H 32 "PolynomialHeap" "sheet" "LPolynomialHeap$Sheet;" ∈ GW := gw_in 136 (by decide +kernel) (by decide +kernel)
theorem fl_H_39 : Cond.fieldLink R_H 39 "PolynomialHeap" "powers" "LPolynomialHeap$PowerTable;" ∈ GW := gw_in 137 (by decide +kernel) (by decide +kernel)
theorem fl_H_11 : Cond.fieldLink R_H 11 "PolynomialHeap" "registers" "[LPolynomialHeap$Polynomial;" ∈ GW := gw_in 138 (by decide +kernel) (by decide +kernel)
theorem fl_H_15 : Cond.fieldLink R_H 15 "PolynomialHeap" "minors" "[LPolynomialHeap$Polynomial;" ∈ GW := gw_in 139 (by decide +kernel) (by decide +kernel)
theorem fl_H_44 : Cond.fieldLink R_H 44 "PolynomialHeap" "spare" "LPolynomialHeap$Polynomial;" ∈ GW := gw_in 140 (by decide +kernel) (by decide +kernel)
theorem fl_H_179 : Cond.fieldLink R_H 179 "PolynomialHeap" "refusals" "I" ∈ GW := gw_in 141 (by decide +kernel) (by decide +kernel)
theorem ml_L_138 : Cond.methodLink R_L 138 y_H_count ∈ GW := gw_in 157 (by decide +kernel) (by decide +kernel)
theorem wi_H_count : Cond.instanceMethod y_H_count ∈ GW := gw_in 158 (by decide +kernel) (by decide +kernel)
theorem wl_H_count : Cond.selects R_H y_H_count y_H_count ∈ GW := gw_in 159 (by decide +kernel) (by decide +kernel)
set_option maxRecDepth 100000 in
theorem wc_H_count : Cond.code y_H_count b_H_count 2 (some .int) ∈ GW := gw_in 160 (rfl) (by decide +kernel)
theorem ml_H_169 : Cond.methodLink R_H 169 y_H_allTerms ∈ GW := gw_in 161 (by decide +kernel) (by decide +kernel)
theorem wi_H_allTerms : Cond.instanceMethod y_H_allTerms ∈ GW := gw_in 163 (by decide +kernel) (by decide +kernel)
set_option maxRecDepth 100000 in
theorem wc_H_allTerms : Cond.code y_H_allTerms b_H_allTerms 3 (some .int) ∈ GW := gw_in 164 (rfl) (by decide +kernel)
theorem ml_H_173 : Cond.methodLink R_H 173 y_H_zeroRegisters ∈ GW := gw_in 165 (by decide +kernel) (by decide +kernel)
theorem wi_H_zeroRegisters : Cond.instanceMethod y_H_zeroRegisters ∈ GW := gw_in 167 (by decide +kernel) (by decide +kernel)
set_option maxRecDepth 100000 in
theorem wc_H_zeroRegisters : Cond.code y_H_zeroRegisters b_H_zeroRegisters 3 (some .int) ∈ GW := gw_in 168 (rfl) (by decide +kernel)
theorem ml_H_102 : Cond.methodLink R_H 102 y_P_isZero ∈ GW := gw_in 169 (by decide +kernel) (by decide +kernel)
theorem wi_P_isZero : Cond.instanceMethod y_P_isZero ∈ GW := gw_in 170 (by decide +kernel) (by decide +kernel)
theorem wl_P_isZero : Cond.selects R_P y_P_isZero y_P_isZero ∈ GW := gw_in 171 (by decide +kernel) (by decide +kernel)
set_option maxRecDepth 100000 in
theorem wc_P_isZero : Cond.code y_P_isZero b_P_isZero 1 (some .boolean) ∈ GW := gw_in 172 (rfl) (by decide +kernel)
theorem ml_H_176 : Cond.methodLink R_H 176 y_H_greatestDegree ∈ GW := gw_in 173 (by decide +kernel) (by decide +kernel)
theorem wi_H_greatestDegree : Cond.instanceMethod y_H_greatestDegree ∈ GW := gw_in 175 (by decide +kernel) (by decide +kernel)
set_option maxRecDepth 100000 in
theorem wc_H_greatestDegree : Cond.code y_H_greatestDegree b_H_greatestDegree 4 (some .int) ∈ GW := gw_in 176 (rfl) (by decide +kernel)
theorem ml_H_85 : Cond.methodLink R_H 85 y_P_degreeIn ∈ GW := gw_in 177 (by decide +kernel) (by decide +kernel)
theorem wi_P_degreeIn : Cond.instanceMethod y_P_degreeIn ∈ GW := gw_in 178 (by decide +kernel) (by decide +kernel)
theorem wl_P_degreeIn : Cond.selects R_P y_P_degreeIn y_P_degreeIn ∈ GW := gw_in 179 (by decide +kernel) (by decide +kernel)
set_option maxRecDepth 100000 in
theorem wc_P_degreeIn : Cond.code y_P_degreeIn b_P_degreeIn 4 (some .int) ∈ GW := gw_in 180 (rfl) (by decide +kernel)
theorem ml_P_35 : Cond.methodLink R_P 35 y_Q_exponent ∈ GW := gw_in 181 (by decide +kernel) (by decide +kernel)
theorem ws_Q_exponent : Cond.static y_Q_exponent ∈ GW := gw_in 182 (by decide +kernel) (by decide +kernel)
set_option maxRecDepth 100000 in
theorem wc_Q_exponent : Cond.code y_Q_exponent b_Q_exponent 2 (some .int) ∈ GW := gw_in 183 (rfl) (by decide +kernel)
theorem ml_P_39 : Cond.methodLink R_P 39 y_Jm_max ∈ GW := gw_in 184 (by decide +kernel) (by decide +kernel)
theorem ml_H_188 : Cond.methodLink R_H 188 y_Jm_max ∈ GW := gw_in 185 (by decide +kernel) (by decide +kernel)
theorem ml_L_69 : Cond.methodLink R_L 69 y_L_cell ∈ GW := gw_in 186 (by decide +kernel) (by decide +kernel)
theorem ws_L_cell : Cond.static y_L_cell ∈ GW := gw_in 187 (by decide +kernel) (by decide +kernel)
set_option maxRecDepth 100000 in
theorem wc_L_cell : Cond.code y_L_cell b_L_cell 2 (some .int) ∈ GW := gw_in 188 (rfl) (by decide +kernel)
theorem ml_L_81 : Cond.methodLink R_L 81 y_L_constant ∈ GW := gw_in 189 (by decide +kernel) (by decide +kernel)
theorem ws_L_constant : Cond.static y_L_constant ∈ GW := gw_in 190 (by decide +kernel) (by decide +kernel)
theorem cl_L_13 : Cond.classLink R_L 13 "java/lang/IndexOutOfBoundsException" ∈ GW := gw_in 192 (by decide +kernel) (by decide +kernel)
theorem ml_L_7 : Cond.methodLink R_L 7 y_H_constant ∈ GW := gw_in 193 (by decide +kernel) (by decide +kernel)
theorem wi_H_constant : Cond.instanceMethod y_H_constant ∈ GW := gw_in 194 (by decide +kernel) (by decide +kernel)
theorem wl_H_constant : Cond.selects R_H y_H_constant y_H_constant ∈ GW := gw_in 195 (by decide +kernel) (by decide +kernel)
set_option maxRecDepth 100000 in
theorem wc_H_constant : Cond.code y_H_constant b_H_constant 3 none ∈ GW := gw_in 196 (rfl) (by decide +kernel)
theorem ml_H_48 : Cond.methodLink R_H 48 y_H_checkRegister ∈ GW := gw_in 197 (by decide +kernel) (by decide +kernel)
theorem ws_H_checkRegister : Cond.static y_H_checkRegister ∈ GW := gw_in 198 (by decide +kernel) (by decide +kernel)
set_option maxRecDepth 100000 in
theorem wc_H_checkRegister : Cond.code y_H_checkRegister b_H_checkRegister 1 none ∈ GW := gw_in 199 (rfl) (by decide +kernel)
theorem cl_H_149 : Cond.classLink R_H 149 "java/lang/IndexOutOfBoundsException" ∈ GW := gw_in 200 (by decide +kernel) (by decide +kernel)
theorem ca_202 : Cond.castable "java/lang/IndexOutOfBoundsException" "java/lang/IndexOutOfBoundsException" ∈ NW := nw_in 202 (by decide +kernel) (by decide +kernel)
theorem wv_fillInStackTrace : Cond.native ⟨"java/lang/Throwable", "fillInStackTrace", "(I)Ljava/lang/Throwable;"⟩ ∈ GW := gw_in 239 (by decide +kernel) (by decide +kernel)
theorem ml_H_151 : Cond.methodLink R_H 151 ⟨"java/lang/IndexOutOfBoundsException", "<init>", "()V"⟩ ∈ GW := gw_in 240 (by decide +kernel) (by decide +kernel)
theorem ml_H_51 : Cond.methodLink R_H 51 y_F_reduced ∈ GW := gw_in 262 (by decide +kernel) (by decide +kernel)
theorem wi_F_reduced : Cond.instanceMethod y_F_reduced ∈ GW := gw_in 263 (by decide +kernel) (by decide +kernel)
theorem wl_F_reduced : Cond.selects R_F y_F_reduced y_F_reduced ∈ GW := gw_in 264 (by decide +kernel) (by decide +kernel)
set_option maxRecDepth 100000 in
theorem wc_F_reduced : Cond.code y_F_reduced b_F_reduced 2 (some .int) ∈ GW := gw_in 265 (rfl) (by decide +kernel)
theorem ml_F_28 : Cond.methodLink R_F 28 y_Jm_floorMod ∈ GW := gw_in 266 (by decide +kernel) (by decide +kernel)
theorem ws_Jm_floorMod : Cond.static y_Jm_floorMod ∈ GW := gw_in 267 (by decide +kernel) (by decide +kernel)
set_option maxRecDepth 100000 in
theorem wc_Jm_floorMod : Cond.code y_Jm_floorMod b_Jm_floorMod 3 (some .int) ∈ GW := gw_in 268 (rfl) (by decide +kernel)
theorem ml_H_55 : Cond.methodLink R_H 55 y_P_becomeNumber ∈ GW := gw_in 269 (by decide +kernel) (by decide +kernel)
theorem wi_P_becomeNumber : Cond.instanceMethod y_P_becomeNumber ∈ GW := gw_in 270 (by decide +kernel) (by decide +kernel)
theorem wl_P_becomeNumber : Cond.selects R_P y_P_becomeNumber y_P_becomeNumber ∈ GW := gw_in 271 (by decide +kernel) (by decide +kernel)
set_option maxRecDepth 100000 in
theorem wc_P_becomeNumber : Cond.code y_P_becomeNumber b_P_becomeNumber 2 none ∈ GW := gw_in 272 (rfl) (by decide +kernel)
theorem ml_P_26 : Cond.methodLink R_P 26 y_P_clear ∈ GW := gw_in 273 (by decide +kernel) (by decide +kernel)
theorem wi_P_clear : Cond.instanceMethod y_P_clear ∈ GW := gw_in 274 (by decide +kernel) (by decide +kernel)
theorem wl_P_clear : Cond.selects R_P y_P_clear y_P_clear ∈ GW := gw_in 275 (by decide +kernel) (by decide +kernel)
set_option maxRecDepth 100000 in
theorem wc_P_clear : Cond.code y_P_clear b_P_clear 1 none ∈ GW := gw_in 276 (rfl) (by decide +kernel)
theorem ml_P_31 : Cond.methodLink R_P 31 y_P_append ∈ GW := gw_in 277 (by decide +kernel) (by decide +kernel)
theorem wi_P_append : Cond.instanceMethod y_P_append ∈ GW := gw_in 278 (by decide +kernel) (by decide +kernel)
theorem wl_P_append : Cond.selects R_P y_P_append y_P_append ∈ GW := gw_in 279 (by decide +kernel) (by decide +kernel)
set_option maxRecDepth 100000 in
theorem wc_P_append : Cond.code y_P_append b_P_append 3 none ∈ GW := gw_in 280 (rfl) (by decide +kernel)
theorem ml_P_20 : Cond.methodLink R_P 20 y_Ja_copyOf ∈ GW := gw_in 281 (by decide +kernel) (by decide +kernel)
theorem ws_Ja_copyOf : Cond.static y_Ja_copyOf ∈ GW := gw_in 282 (by decide +kernel) (by decide +kernel)
set_option maxRecDepth 100000 in
theorem wc_Ja_copyOf : Cond.code y_Ja_copyOf b_Ja_copyOf 3 (some (.array .int)) ∈ GW := gw_in 283 (rfl) (by decide +kernel)
theorem ml_Ja_316 : Cond.methodLink R_Ja 316 ⟨"[I", "clone", "()Ljava/lang/Object;"⟩ ∈ GW := gw_in 284 (by decide +kernel) (by decide +kernel)
theorem wv_clone : Cond.native ⟨"java/lang/Object", "clone", "()Ljava/lang/Object;"⟩ ∈ GW := gw_in 286 (by decide +kernel) (by decide +kernel)
theorem ca_289 : Cond.castable "[I" "java/lang/Cloneable" ∈ NW := nw_in 289 (by decide +kernel) (by decide +kernel)
theorem cl_Ja_317 : Cond.classLink R_Ja 317 "[I" ∈ GW := gw_in 290 (by decide +kernel) (by decide +kernel)
theorem ml_Ja_304 : Cond.methodLink R_Ja 304 y_Jm_min ∈ GW := gw_in 291 (by decide +kernel) (by decide +kernel)
theorem ws_Jm_min : Cond.static y_Jm_min ∈ GW := gw_in 292 (by decide +kernel) (by decide +kernel)
set_option maxRecDepth 100000 in
theorem wc_Jm_min : Cond.code y_Jm_min b_Jm_min 2 (some .int) ∈ GW := gw_in 293 (rfl) (by decide +kernel)
theorem ml_Ja_150 : Cond.methodLink R_Ja 150 ⟨"java/lang/System", "arraycopy", "(Ljava/lang/Object;ILjava/lang/Object;II)V"⟩ ∈ GW := gw_in 294 (by decide +kernel) (by decide +kernel)
theorem ws_arraycopy : Cond.static ⟨"java/lang/System", "arraycopy", "(Ljava/lang/Object;ILjava/lang/Object;II)V"⟩ ∈ GW := gw_in 295 (by decide +kernel) (by decide +kernel)
theorem wv_arraycopy : Cond.native ⟨"java/lang/System", "arraycopy", "(Ljava/lang/Object;ILjava/lang/Object;II)V"⟩ ∈ GW := gw_in 296 (by decide +kernel) (by decide +kernel)
theorem ml_L_89 : Cond.methodLink R_L 89 y_L_variable ∈ GW := gw_in 297 (by decide +kernel) (by decide +kernel)
theorem ws_L_variable : Cond.static y_L_variable ∈ GW := gw_in 298 (by decide +kernel) (by decide +kernel)
theorem cl_L_18 : Cond.classLink R_L 18 "java/lang/IllegalArgumentException" ∈ GW := gw_in 300 (by decide +kernel) (by decide +kernel)
theorem ml_L_15 : Cond.methodLink R_L 15 y_H_variable ∈ GW := gw_in 301 (by decide +kernel) (by decide +kernel)
theorem wi_H_variable : Cond.instanceMethod y_H_variable ∈ GW := gw_in 302 (by decide +kernel) (by decide +kernel)
theorem wl_H_variable : Cond.selects R_H y_H_variable y_H_variable ∈ GW := gw_in 303 (by decide +kernel) (by decide +kernel)
set_option maxRecDepth 100000 in
theorem wc_H_variable : Cond.code y_H_variable b_H_variable 3 none ∈ GW := gw_in 304 (rfl) (by decide +kernel)
theorem ml_H_58 : Cond.methodLink R_H 58 y_H_checkVariable ∈ GW := gw_in 305 (by decide +kernel) (by decide +kernel)
theorem ws_H_checkVariable : Cond.static y_H_checkVariable ∈ GW := gw_in 306 (by decide +kernel) (by decide +kernel)
set_option maxRecDepth 100000 in
theorem wc_H_checkVariable : Cond.code y_H_checkVariable b_H_checkVariable 1 none ∈ GW := gw_in 307 (rfl) (by decide +kernel)
theorem cl_H_96 : Cond.classLink R_H 96 "java/lang/IllegalArgumentException" ∈ GW := gw_in 308 (by decide +kernel) (by decide +kernel)
theorem ca_310 : Cond.castable "java/lang/IllegalArgumentException" "java/lang/IllegalArgumentException" ∈ NW := nw_in 310 (by decide +kernel) (by decide +kernel)
theorem ml_H_98 : Cond.methodLink R_H 98 ⟨"java/lang/IllegalArgumentException", "<init>", "()V"⟩ ∈ GW := gw_in 317 (by decide +kernel) (by decide +kernel)
theorem ml_H_61 : Cond.methodLink R_H 61 y_P_clear ∈ GW := gw_in 323 (by decide +kernel) (by decide +kernel)
theorem ml_H_64 : Cond.methodLink R_H 64 y_Q_ofVariable ∈ GW := gw_in 324 (by decide +kernel) (by decide +kernel)
theorem ws_Q_ofVariable : Cond.static y_Q_ofVariable ∈ GW := gw_in 325 (by decide +kernel) (by decide +kernel)
set_option maxRecDepth 100000 in
theorem wc_Q_ofVariable : Cond.code y_Q_ofVariable b_Q_ofVariable 1 (some .int) ∈ GW := gw_in 326 (rfl) (by decide +kernel)
theorem kc_Q_9 : Cond.constant R_Q 9 262144 ∈ GW := gw_in 327 (by decide +kernel) (by decide +kernel)
theorem ml_H_69 : Cond.methodLink R_H 69 y_P_append ∈ GW := gw_in 328 (by decide +kernel) (by decide +kernel)
theorem ml_L_92 : Cond.methodLink R_L 92 y_L_add ∈ GW := gw_in 329 (by decide +kernel) (by decide +kernel)
theorem ws_L_add : Cond.static y_L_add ∈ GW := gw_in 330 (by decide +kernel) (by decide +kernel)
theorem ml_L_20 : Cond.methodLink R_L 20 y_H_add ∈ GW := gw_in 332 (by decide +kernel) (by decide +kernel)
theorem wi_H_add : Cond.instanceMethod y_H_add ∈ GW := gw_in 333 (by decide +kernel) (by decide +kernel)
theorem wl_H_add : Cond.selects R_H y_H_add y_H_add ∈ GW := gw_in 334 (by decide +kernel) (by decide +kernel)
set_option maxRecDepth 100000 in
theorem wc_H_add : Cond.code y_H_add b_H_add 5 none ∈ GW := gw_in 335 (rfl) (by decide +kernel)
theorem ml_H_73 : Cond.methodLink R_H 73 y_H_checkRegisters ∈ GW := gw_in 336 (by decide +kernel) (by decide +kernel)
theorem ws_H_checkRegisters : Cond.static y_H_checkRegisters ∈ GW := gw_in 337 (by decide +kernel) (by decide +kernel)
set_option maxRecDepth 100000 in
theorem wc_H_checkRegisters : Cond.code y_H_checkRegisters b_H_checkRegisters 3 none ∈ GW := gw_in 338 (rfl) (by decide +kernel)
theorem ml_H_77 : Cond.methodLink R_H 77 y_S_addMultiple ∈ GW := gw_in 339 (by decide +kernel) (by decide +kernel)
theorem wi_S_addMultiple : Cond.instanceMethod y_S_addMultiple ∈ GW := gw_in 340 (by decide +kernel) (by decide +kernel)
theorem wl_S_addMultiple : Cond.selects R_S y_S_addMultiple y_S_addMultiple ∈ GW := gw_in 341 (by decide +kernel) (by decide +kernel)
set_option maxRecDepth 100000 in
theorem wc_S_addMultiple : Cond.code y_S_addMultiple b_S_addMultiple 5 none ∈ GW := gw_in 342 (rfl) (by decide +kernel)
theorem ml_S_63 : Cond.methodLink R_S 63 y_S_addTerm ∈ GW := gw_in 343 (by decide +kernel) (by decide +kernel)
theorem wi_S_addTerm : Cond.instanceMethod y_S_addTerm ∈ GW := gw_in 345 (by decide +kernel) (by decide +kernel)
set_option maxRecDepth 100000 in
theorem wc_S_addTerm : Cond.code y_S_addTerm b_S_addTerm 5 none ∈ GW := gw_in 346 (rfl) (by decide +kernel)
theorem ml_S_37 : Cond.methodLink R_S 37 y_S_rankOf ∈ GW := gw_in 347 (by decide +kernel) (by decide +kernel)
theorem wi_S_rankOf : Cond.instanceMethod y_S_rankOf ∈ GW := gw_in 349 (by decide +kernel) (by decide +kernel)
set_option maxRecDepth 100000 in
theorem wc_S_rankOf : Cond.code y_S_rankOf b_S_rankOf 2 (some .int) ∈ GW := gw_in 350 (rfl) (by decide +kernel)
theorem ml_S_29 : Cond.methodLink R_S 29 y_Q_sumAndFirst ∈ GW := gw_in 351 (by decide +kernel) (by decide +kernel)
theorem ws_Q_sumAndFirst : Cond.static y_Q_sumAndFirst ∈ GW := gw_in 352 (by decide +kernel) (by decide +kernel)
set_option maxRecDepth 100000 in
theorem wc_Q_sumAndFirst : Cond.code y_Q_sumAndFirst b_Q_sumAndFirst 1 (some .int) ∈ GW := gw_in 353 (rfl) (by decide +kernel)
theorem ml_S_33 : Cond.methodLink R_S 33 y_Q_exponent ∈ GW := gw_in 354 (by decide +kernel) (by decide +kernel)
theorem ml_S_40 : Cond.methodLink R_S 40 y_F_sumWithProduct ∈ GW := gw_in 355 (by decide +kernel) (by decide +kernel)
theorem wi_F_sumWithProduct : Cond.instanceMethod y_F_sumWithProduct ∈ GW := gw_in 356 (by decide +kernel) (by decide +kernel)
theorem wl_F_sumWithProduct : Cond.selects R_F y_F_sumWithProduct y_F_sumWithProduct ∈ GW := gw_in 357 (by decide +kernel) (by decide +kernel)
set_option maxRecDepth 100000 in
theorem wc_F_sumWithProduct : Cond.code y_F_sumWithProduct b_F_sumWithProduct 4 (some .int) ∈ GW := gw_in 358 (rfl) (by decide +kernel)
theorem ml_S_49 : Cond.methodLink R_S 49 y_Jm_max ∈ GW := gw_in 359 (by decide +kernel) (by decide +kernel)
theorem ml_H_81 : Cond.methodLink R_H 81 y_S_moveTo ∈ GW := gw_in 360 (by decide +kernel) (by decide +kernel)
theorem wi_S_moveTo : Cond.instanceMethod y_S_moveTo ∈ GW := gw_in 361 (by decide +kernel) (by decide +kernel)
theorem wl_S_moveTo : Cond.selects R_S y_S_moveTo y_S_moveTo ∈ GW := gw_in 362 (by decide +kernel) (by decide +kernel)
set_option maxRecDepth 100000 in
theorem wc_S_moveTo : Cond.code y_S_moveTo b_S_moveTo 3 none ∈ GW := gw_in 363 (rfl) (by decide +kernel)
theorem ml_S_74 : Cond.methodLink R_S 74 y_P_clear ∈ GW := gw_in 364 (by decide +kernel) (by decide +kernel)
theorem ml_S_87 : Cond.methodLink R_S 87 y_P_append ∈ GW := gw_in 365 (by decide +kernel) (by decide +kernel)
theorem ml_S_94 : Cond.methodLink R_S 94 y_S_clear ∈ GW := gw_in 366 (by decide +kernel) (by decide +kernel)
theorem wi_S_clear : Cond.instanceMethod y_S_clear ∈ GW := gw_in 367 (by decide +kernel) (by decide +kernel)
theorem wl_S_clear : Cond.selects R_S y_S_clear y_S_clear ∈ GW := gw_in 368 (by decide +kernel) (by decide +kernel)
set_option maxRecDepth 100000 in
theorem wc_S_clear : Cond.code y_S_clear b_S_clear 1 none ∈ GW := gw_in 369 (rfl) (by decide +kernel)
theorem ml_S_95 : Cond.methodLink R_S 95 y_Ja_fill ∈ GW := gw_in 370 (by decide +kernel) (by decide +kernel)
theorem ws_Ja_fill : Cond.static y_Ja_fill ∈ GW := gw_in 371 (by decide +kernel) (by decide +kernel)
set_option maxRecDepth 100000 in
theorem wc_Ja_fill : Cond.code y_Ja_fill b_Ja_fill 5 none ∈ GW := gw_in 372 (rfl) (by decide +kernel)
theorem ml_Ja_13 : Cond.methodLink R_Ja 13 y_Ja_rangeCheck ∈ GW := gw_in 373 (by decide +kernel) (by decide +kernel)
theorem ws_Ja_rangeCheck : Cond.static y_Ja_rangeCheck ∈ GW := gw_in 374 (by decide +kernel) (by decide +kernel)
set_option maxRecDepth 100000 in
theorem wc_Ja_rangeCheck : Cond.code y_Ja_rangeCheck b_Ja_rangeCheck 3 none ∈ GW := gw_in 375 (rfl) (by decide +kernel)
theorem ml_L_96 : Cond.methodLink R_L 96 y_L_multiply ∈ GW := gw_in 376 (by decide +kernel) (by decide +kernel)
theorem ws_L_multiply : Cond.static y_L_multiply ∈ GW := gw_in 377 (by decide +kernel) (by decide +kernel)
theorem ml_L_24 : Cond.methodLink R_L 24 y_H_multiply ∈ GW := gw_in 379 (by decide +kernel) (by decide +kernel)
theorem wi_H_multiply : Cond.instanceMethod y_H_multiply ∈ GW := gw_in 380 (by decide +kernel) (by decide +kernel)
theorem wl_H_multiply : Cond.selects R_H y_H_multiply y_H_multiply ∈ GW := gw_in 381 (by decide +kernel) (by decide +kernel)
set_option maxRecDepth 100000 in
theorem wc_H_multiply : Cond.code y_H_multiply b_H_multiply 7 (some .boolean) ∈ GW := gw_in 382 (rfl) (by decide +kernel)
theorem ml_H_88 : Cond.methodLink R_H 88 y_H_refuse ∈ GW := gw_in 383 (by decide +kernel) (by decide +kernel)
theorem wi_H_refuse : Cond.instanceMethod y_H_refuse ∈ GW := gw_in 385 (by decide +kernel) (by decide +kernel)
set_option maxRecDepth 100000 in
theorem wc_H_refuse : Cond.code y_H_refuse b_H_refuse 1 (some .boolean) ∈ GW := gw_in 386 (rfl) (by decide +kernel)
theorem ml_H_92 : Cond.methodLink R_H 92 y_S_addProduct ∈ GW := gw_in 387 (by decide +kernel) (by decide +kernel)
theorem wi_S_addProduct : Cond.instanceMethod y_S_addProduct ∈ GW := gw_in 388 (by decide +kernel) (by decide +kernel)
theorem wl_S_addProduct : Cond.selects R_S y_S_addProduct y_S_addProduct ∈ GW := gw_in 389 (by decide +kernel) (by decide +kernel)
set_option maxRecDepth 100000 in
theorem wc_S_addProduct : Cond.code y_S_addProduct b_S_addProduct 4 none ∈ GW := gw_in 390 (rfl) (by decide +kernel)
theorem ml_S_67 : Cond.methodLink R_S 67 y_S_addMultiple ∈ GW := gw_in 391 (by decide +kernel) (by decide +kernel)
theorem ml_L_100 : Cond.methodLink R_L 100 y_L_power ∈ GW := gw_in 392 (by decide +kernel) (by decide +kernel)
theorem ws_L_power : Cond.static y_L_power ∈ GW := gw_in 393 (by decide +kernel) (by decide +kernel)
theorem ml_L_28 : Cond.methodLink R_L 28 y_H_power ∈ GW := gw_in 395 (by decide +kernel) (by decide +kernel)
theorem wi_H_power : Cond.instanceMethod y_H_power ∈ GW := gw_in 396 (by decide +kernel) (by decide +kernel)
theorem wl_H_power : Cond.selects R_H y_H_power y_H_power ∈ GW := gw_in 397 (by decide +kernel) (by decide +kernel)
set_option maxRecDepth 100000 in
theorem wc_H_power : Cond.code y_H_power b_H_power 6 (some .boolean) ∈ GW := gw_in 398 (rfl) (by decide +kernel)
theorem ml_H_99 : Cond.methodLink R_H 99 y_H_exchangeSpare ∈ GW := gw_in 399 (by decide +kernel) (by decide +kernel)
theorem wi_H_exchangeSpare : Cond.instanceMethod y_H_exchangeSpare ∈ GW := gw_in 401 (by decide +kernel) (by decide +kernel)
set_option maxRecDepth 100000 in
theorem wc_H_exchangeSpare : Cond.code y_H_exchangeSpare b_H_exchangeSpare 3 none ∈ GW := gw_in 402 (rfl) (by decide +kernel)
theorem ml_L_103 : Cond.methodLink R_L 103 y_L_divide ∈ GW := gw_in 403 (by decide +kernel) (by decide +kernel)
theorem ws_L_divide : Cond.static y_L_divide ∈ GW := gw_in 404 (by decide +kernel) (by decide +kernel)
theorem ml_L_31 : Cond.methodLink R_L 31 y_H_divide ∈ GW := gw_in 406 (by decide +kernel) (by decide +kernel)
theorem wi_H_divide : Cond.instanceMethod y_H_divide ∈ GW := gw_in 407 (by decide +kernel) (by decide +kernel)
theorem wl_H_divide : Cond.selects R_H y_H_divide y_H_divide ∈ GW := gw_in 408 (by decide +kernel) (by decide +kernel)
set_option maxRecDepth 100000 in
theorem wc_H_divide : Cond.code y_H_divide b_H_divide 6 none ∈ GW := gw_in 409 (rfl) (by decide +kernel)
theorem ml_H_105 : Cond.methodLink R_H 105 y_S_divideBy ∈ GW := gw_in 410 (by decide +kernel) (by decide +kernel)
theorem wi_S_divideBy : Cond.instanceMethod y_S_divideBy ∈ GW := gw_in 411 (by decide +kernel) (by decide +kernel)
theorem wl_S_divideBy : Cond.selects R_S y_S_divideBy y_S_divideBy ∈ GW := gw_in 412 (by decide +kernel) (by decide +kernel)
set_option maxRecDepth 100000 in
theorem wc_S_divideBy : Cond.code y_S_divideBy b_S_divideBy 8 none ∈ GW := gw_in 413 (rfl) (by decide +kernel)
theorem ml_S_77 : Cond.methodLink R_S 77 y_F_inverse ∈ GW := gw_in 414 (by decide +kernel) (by decide +kernel)
theorem wi_F_inverse : Cond.instanceMethod y_F_inverse ∈ GW := gw_in 415 (by decide +kernel) (by decide +kernel)
theorem wl_F_inverse : Cond.selects R_F y_F_inverse y_F_inverse ∈ GW := gw_in 416 (by decide +kernel) (by decide +kernel)
set_option maxRecDepth 100000 in
theorem wc_F_inverse : Cond.code y_F_inverse b_F_inverse 5 (some .int) ∈ GW := gw_in 417 (rfl) (by decide +kernel)
theorem ml_F_31 : Cond.methodLink R_F 31 y_F_product ∈ GW := gw_in 418 (by decide +kernel) (by decide +kernel)
theorem wi_F_product : Cond.instanceMethod y_F_product ∈ GW := gw_in 419 (by decide +kernel) (by decide +kernel)
theorem wl_F_product : Cond.selects R_F y_F_product y_F_product ∈ GW := gw_in 420 (by decide +kernel) (by decide +kernel)
set_option maxRecDepth 100000 in
theorem wc_F_product : Cond.code y_F_product b_F_product 3 (some .int) ∈ GW := gw_in 421 (rfl) (by decide +kernel)
theorem ml_S_80 : Cond.methodLink R_S 80 y_Q_isMultiple ∈ GW := gw_in 422 (by decide +kernel) (by decide +kernel)
theorem ws_Q_isMultiple : Cond.static y_Q_isMultiple ∈ GW := gw_in 423 (by decide +kernel) (by decide +kernel)
set_option maxRecDepth 100000 in
theorem wc_Q_isMultiple : Cond.code y_Q_isMultiple b_Q_isMultiple 2 (some .boolean) ∈ GW := gw_in 424 (rfl) (by decide +kernel)
theorem ml_Q_10 : Cond.methodLink R_Q 10 y_Q_exponent ∈ GW := gw_in 425 (by decide +kernel) (by decide +kernel)
theorem ml_S_84 : Cond.methodLink R_S 84 y_F_product ∈ GW := gw_in 426 (by decide +kernel) (by decide +kernel)
theorem ml_S_91 : Cond.methodLink R_S 91 y_F_negative ∈ GW := gw_in 427 (by decide +kernel) (by decide +kernel)
theorem wi_F_negative : Cond.instanceMethod y_F_negative ∈ GW := gw_in 428 (by decide +kernel) (by decide +kernel)
theorem wl_F_negative : Cond.selects R_F y_F_negative y_F_negative ∈ GW := gw_in 429 (by decide +kernel) (by decide +kernel)
set_option maxRecDepth 100000 in
theorem wc_F_negative : Cond.code y_F_negative b_F_negative 2 (some .int) ∈ GW := gw_in 430 (rfl) (by decide +kernel)
theorem ml_H_108 : Cond.methodLink R_H 108 y_S_clear ∈ GW := gw_in 431 (by decide +kernel) (by decide +kernel)
theorem ml_L_107 : Cond.methodLink R_L 107 y_L_derive ∈ GW := gw_in 432 (by decide +kernel) (by decide +kernel)
theorem ws_L_derive : Cond.static y_L_derive ∈ GW := gw_in 433 (by decide +kernel) (by decide +kernel)
theorem ml_L_35 : Cond.methodLink R_L 35 y_H_derive ∈ GW := gw_in 435 (by decide +kernel) (by decide +kernel)
theorem wi_H_derive : Cond.instanceMethod y_H_derive ∈ GW := gw_in 436 (by decide +kernel) (by decide +kernel)
theorem wl_H_derive : Cond.selects R_H y_H_derive y_H_derive ∈ GW := gw_in 437 (by decide +kernel) (by decide +kernel)
set_option maxRecDepth 100000 in
theorem wc_H_derive : Cond.code y_H_derive b_H_derive 8 none ∈ GW := gw_in 438 (rfl) (by decide +kernel)
theorem ml_H_117 : Cond.methodLink R_H 117 y_Q_exponent ∈ GW := gw_in 439 (by decide +kernel) (by decide +kernel)
theorem ml_H_124 : Cond.methodLink R_H 124 y_F_product ∈ GW := gw_in 440 (by decide +kernel) (by decide +kernel)
theorem ml_L_111 : Cond.methodLink R_L 111 y_L_put ∈ GW := gw_in 441 (by decide +kernel) (by decide +kernel)
theorem ws_L_put : Cond.static y_L_put ∈ GW := gw_in 442 (by decide +kernel) (by decide +kernel)
theorem ml_L_39 : Cond.methodLink R_L 39 y_H_put ∈ GW := gw_in 444 (by decide +kernel) (by decide +kernel)
theorem wi_H_put : Cond.instanceMethod y_H_put ∈ GW := gw_in 445 (by decide +kernel) (by decide +kernel)
theorem wl_H_put : Cond.selects R_H y_H_put y_H_put ∈ GW := gw_in 446 (by decide +kernel) (by decide +kernel)
set_option maxRecDepth 100000 in
theorem wc_H_put : Cond.code y_H_put b_H_put 10 (some .boolean) ∈ GW := gw_in 447 (rfl) (by decide +kernel)
theorem ml_H_127 : Cond.methodLink R_H 127 y_S_addCoefficientOf ∈ GW := gw_in 448 (by decide +kernel) (by decide +kernel)
theorem wi_S_addCoefficientOf : Cond.instanceMethod y_S_addCoefficientOf ∈ GW := gw_in 449 (by decide +kernel) (by decide +kernel)
theorem wl_S_addCoefficientOf : Cond.selects R_S y_S_addCoefficientOf y_S_addCoefficientOf ∈ GW := gw_in 450 (by decide +kernel) (by decide +kernel)
set_option maxRecDepth 100000 in
theorem wc_S_addCoefficientOf : Cond.code y_S_addCoefficientOf b_S_addCoefficientOf 6 none ∈ GW := gw_in 451 (rfl) (by decide +kernel)
theorem ml_S_71 : Cond.methodLink R_S 71 y_Q_without ∈ GW := gw_in 452 (by decide +kernel) (by decide +kernel)
theorem ws_Q_without : Cond.static y_Q_without ∈ GW := gw_in 453 (by decide +kernel) (by decide +kernel)
set_option maxRecDepth 100000 in
theorem wc_Q_without : Cond.code y_Q_without b_Q_without 2 (some .int) ∈ GW := gw_in 454 (rfl) (by decide +kernel)
theorem ml_Q_14 : Cond.methodLink R_Q 14 y_Q_ofVariable ∈ GW := gw_in 455 (by decide +kernel) (by decide +kernel)
theorem ml_L_115 : Cond.methodLink R_L 115 y_L_resultant ∈ GW := gw_in 456 (by decide +kernel) (by decide +kernel)
theorem ws_L_resultant : Cond.static y_L_resultant ∈ GW := gw_in 457 (by decide +kernel) (by decide +kernel)
theorem ml_L_43 : Cond.methodLink R_L 43 y_H_resultant ∈ GW := gw_in 459 (by decide +kernel) (by decide +kernel)
theorem wi_H_resultant : Cond.instanceMethod y_H_resultant ∈ GW := gw_in 460 (by decide +kernel) (by decide +kernel)
theorem wl_H_resultant : Cond.selects R_H y_H_resultant y_H_resultant ∈ GW := gw_in 461 (by decide +kernel) (by decide +kernel)
set_option maxRecDepth 100000 in
theorem wc_H_resultant : Cond.code y_H_resultant b_H_resultant 12 (some .boolean) ∈ GW := gw_in 462 (rfl) (by decide +kernel)
theorem ml_H_130 : Cond.methodLink R_H 130 y_Ji_bitCount ∈ GW := gw_in 463 (by decide +kernel) (by decide +kernel)
theorem ws_Ji_bitCount : Cond.static y_Ji_bitCount ∈ GW := gw_in 464 (by decide +kernel) (by decide +kernel)
set_option maxRecDepth 100000 in
theorem wc_Ji_bitCount : Cond.code y_Ji_bitCount b_Ji_bitCount 1 (some .int) ∈ GW := gw_in 465 (rfl) (by decide +kernel)
theorem kc_Ji_265 : Cond.constant R_Ji 265 1431655765 ∈ GW := gw_in 466 (by decide +kernel) (by decide +kernel)
theorem kc_Ji_266 : Cond.constant R_Ji 266 858993459 ∈ GW := gw_in 467 (by decide +kernel) (by decide +kernel)
theorem kc_Ji_267 : Cond.constant R_Ji 267 252645135 ∈ GW := gw_in 468 (by decide +kernel) (by decide +kernel)
theorem ml_H_135 : Cond.methodLink R_H 135 y_H_addExpansion ∈ GW := gw_in 469 (by decide +kernel) (by decide +kernel)
theorem wi_H_addExpansion : Cond.instanceMethod y_H_addExpansion ∈ GW := gw_in 471 (by decide +kernel) (by decide +kernel)
set_option maxRecDepth 100000 in
theorem wc_H_addExpansion : Cond.code y_H_addExpansion b_H_addExpansion 11 none ∈ GW := gw_in 472 (rfl) (by decide +kernel)
theorem ml_H_182 : Cond.methodLink R_H 182 y_F_negative ∈ GW := gw_in 473 (by decide +kernel) (by decide +kernel)
theorem ml_H_185 : Cond.methodLink R_H 185 y_Q_without ∈ GW := gw_in 474 (by decide +kernel) (by decide +kernel)
theorem ml_L_118 : Cond.methodLink R_L 118 y_L_value ∈ GW := gw_in 475 (by decide +kernel) (by decide +kernel)
theorem ws_L_value : Cond.static y_L_value ∈ GW := gw_in 476 (by decide +kernel) (by decide +kernel)
theorem ml_L_46 : Cond.methodLink R_L 46 y_H_value ∈ GW := gw_in 478 (by decide +kernel) (by decide +kernel)
theorem wi_H_value : Cond.instanceMethod y_H_value ∈ GW := gw_in 479 (by decide +kernel) (by decide +kernel)
theorem wl_H_value : Cond.selects R_H y_H_value y_H_value ∈ GW := gw_in 480 (by decide +kernel) (by decide +kernel)
set_option maxRecDepth 100000 in
theorem wc_H_value : Cond.code y_H_value b_H_value 8 (some .int) ∈ GW := gw_in 481 (rfl) (by decide +kernel)
theorem ml_H_139 : Cond.methodLink R_H 139 y_T_fillRow ∈ GW := gw_in 482 (by decide +kernel) (by decide +kernel)
theorem wi_T_fillRow : Cond.instanceMethod y_T_fillRow ∈ GW := gw_in 483 (by decide +kernel) (by decide +kernel)
theorem wl_T_fillRow : Cond.selects R_T y_T_fillRow y_T_fillRow ∈ GW := gw_in 484 (by decide +kernel) (by decide +kernel)
set_option maxRecDepth 100000 in
theorem wc_T_fillRow : Cond.code y_T_fillRow b_T_fillRow 4 none ∈ GW := gw_in 485 (rfl) (by decide +kernel)
theorem ml_T_22 : Cond.methodLink R_T 22 y_F_product ∈ GW := gw_in 486 (by decide +kernel) (by decide +kernel)
theorem ml_H_142 : Cond.methodLink R_H 142 y_T_at ∈ GW := gw_in 487 (by decide +kernel) (by decide +kernel)
theorem wi_T_at : Cond.instanceMethod y_T_at ∈ GW := gw_in 488 (by decide +kernel) (by decide +kernel)
theorem wl_T_at : Cond.selects R_T y_T_at y_T_at ∈ GW := gw_in 489 (by decide +kernel) (by decide +kernel)
set_option maxRecDepth 100000 in
theorem wc_T_at : Cond.code y_T_at b_T_at 4 (some .int) ∈ GW := gw_in 490 (rfl) (by decide +kernel)
theorem ml_T_28 : Cond.methodLink R_T 28 y_Q_exponent ∈ GW := gw_in 491 (by decide +kernel) (by decide +kernel)
theorem ml_H_145 : Cond.methodLink R_H 145 y_F_sumWithProduct ∈ GW := gw_in 492 (by decide +kernel) (by decide +kernel)
theorem ml_L_121 : Cond.methodLink R_L 121 y_L_terms ∈ GW := gw_in 493 (by decide +kernel) (by decide +kernel)
theorem ws_L_terms : Cond.static y_L_terms ∈ GW := gw_in 494 (by decide +kernel) (by decide +kernel)
theorem ml_L_50 : Cond.methodLink R_L 50 y_H_terms ∈ GW := gw_in 496 (by decide +kernel) (by decide +kernel)
theorem wi_H_terms : Cond.instanceMethod y_H_terms ∈ GW := gw_in 497 (by decide +kernel) (by decide +kernel)
theorem wl_H_terms : Cond.selects R_H y_H_terms y_H_terms ∈ GW := gw_in 498 (by decide +kernel) (by decide +kernel)
set_option maxRecDepth 100000 in
theorem wc_H_terms : Cond.code y_H_terms b_H_terms 2 (some .int) ∈ GW := gw_in 499 (rfl) (by decide +kernel)
theorem ml_L_125 : Cond.methodLink R_L 125 y_L_term ∈ GW := gw_in 500 (by decide +kernel) (by decide +kernel)
theorem ws_L_term : Cond.static y_L_term ∈ GW := gw_in 501 (by decide +kernel) (by decide +kernel)
theorem ml_L_54 : Cond.methodLink R_L 54 y_H_term ∈ GW := gw_in 503 (by decide +kernel) (by decide +kernel)
theorem wi_H_term : Cond.instanceMethod y_H_term ∈ GW := gw_in 504 (by decide +kernel) (by decide +kernel)
theorem wl_H_term : Cond.selects R_H y_H_term y_H_term ∈ GW := gw_in 505 (by decide +kernel) (by decide +kernel)
set_option maxRecDepth 100000 in
theorem wc_H_term : Cond.code y_H_term b_H_term 5 (some .int) ∈ GW := gw_in 506 (rfl) (by decide +kernel)
theorem ml_L_128 : Cond.methodLink R_L 128 y_L_coefficient ∈ GW := gw_in 507 (by decide +kernel) (by decide +kernel)
theorem ws_L_coefficient : Cond.static y_L_coefficient ∈ GW := gw_in 508 (by decide +kernel) (by decide +kernel)
theorem ml_L_58 : Cond.methodLink R_L 58 y_H_coefficient ∈ GW := gw_in 510 (by decide +kernel) (by decide +kernel)
theorem wi_H_coefficient : Cond.instanceMethod y_H_coefficient ∈ GW := gw_in 511 (by decide +kernel) (by decide +kernel)
theorem wl_H_coefficient : Cond.selects R_H y_H_coefficient y_H_coefficient ∈ GW := gw_in 512 (by decide +kernel) (by decide +kernel)
set_option maxRecDepth 100000 in
theorem wc_H_coefficient : Cond.code y_H_coefficient b_H_coefficient 5 (some .int) ∈ GW := gw_in 513 (rfl) (by decide +kernel)
theorem ml_H_152 : Cond.methodLink R_H 152 y_Q_exists ∈ GW := gw_in 514 (by decide +kernel) (by decide +kernel)
theorem ws_Q_exists : Cond.static y_Q_exists ∈ GW := gw_in 515 (by decide +kernel) (by decide +kernel)
set_option maxRecDepth 100000 in
theorem wc_Q_exists : Cond.code y_Q_exists b_Q_exists 3 (some .boolean) ∈ GW := gw_in 516 (rfl) (by decide +kernel)
theorem ml_H_156 : Cond.methodLink R_H 156 y_Q_of ∈ GW := gw_in 517 (by decide +kernel) (by decide +kernel)
theorem ml_H_159 : Cond.methodLink R_H 159 y_P_coefficientOf ∈ GW := gw_in 518 (by decide +kernel) (by decide +kernel)
theorem wi_P_coefficientOf : Cond.instanceMethod y_P_coefficientOf ∈ GW := gw_in 519 (by decide +kernel) (by decide +kernel)
theorem wl_P_coefficientOf : Cond.selects R_P y_P_coefficientOf y_P_coefficientOf ∈ GW := gw_in 520 (by decide +kernel) (by decide +kernel)
set_option maxRecDepth 100000 in
theorem wc_P_coefficientOf : Cond.code y_P_coefficientOf b_P_coefficientOf 3 (some .int) ∈ GW := gw_in 521 (rfl) (by decide +kernel)
theorem ml_L_131 : Cond.methodLink R_L 131 y_L_degree ∈ GW := gw_in 522 (by decide +kernel) (by decide +kernel)
theorem ws_L_degree : Cond.static y_L_degree ∈ GW := gw_in 523 (by decide +kernel) (by decide +kernel)
theorem ml_L_61 : Cond.methodLink R_L 61 y_H_degree ∈ GW := gw_in 525 (by decide +kernel) (by decide +kernel)
theorem wi_H_degree : Cond.instanceMethod y_H_degree ∈ GW := gw_in 526 (by decide +kernel) (by decide +kernel)
theorem wl_H_degree : Cond.selects R_H y_H_degree y_H_degree ∈ GW := gw_in 527 (by decide +kernel) (by decide +kernel)
set_option maxRecDepth 100000 in
theorem wc_H_degree : Cond.code y_H_degree b_H_degree 3 (some .int) ∈ GW := gw_in 528 (rfl) (by decide +kernel)
theorem ml_L_135 : Cond.methodLink R_L 135 y_L_isSame ∈ GW := gw_in 529 (by decide +kernel) (by decide +kernel)
theorem ws_L_isSame : Cond.static y_L_isSame ∈ GW := gw_in 530 (by decide +kernel) (by decide +kernel)
theorem ml_L_65 : Cond.methodLink R_L 65 y_H_isSame ∈ GW := gw_in 532 (by decide +kernel) (by decide +kernel)
theorem wi_H_isSame : Cond.instanceMethod y_H_isSame ∈ GW := gw_in 533 (by decide +kernel) (by decide +kernel)
theorem wl_H_isSame : Cond.selects R_H y_H_isSame y_H_isSame ∈ GW := gw_in 534 (by decide +kernel) (by decide +kernel)
set_option maxRecDepth 100000 in
theorem wc_H_isSame : Cond.code y_H_isSame b_H_isSame 3 (some .boolean) ∈ GW := gw_in 535 (rfl) (by decide +kernel)
theorem ml_H_162 : Cond.methodLink R_H 162 y_P_matches ∈ GW := gw_in 536 (by decide +kernel) (by decide +kernel)
theorem wi_P_matches : Cond.instanceMethod y_P_matches ∈ GW := gw_in 537 (by decide +kernel) (by decide +kernel)
theorem wl_P_matches : Cond.selects R_P y_P_matches y_P_matches ∈ GW := gw_in 538 (by decide +kernel) (by decide +kernel)
set_option maxRecDepth 100000 in
theorem wc_P_matches : Cond.code y_P_matches b_P_matches 3 (some .boolean) ∈ GW := gw_in 539 (rfl) (by decide +kernel)
theorem cl_L_78 : Cond.classLink R_L 78 "PolynomialHeapModel" ∈ GW := gw_in 540 (by decide +kernel) (by decide +kernel)
theorem is_R : Cond.instantiable R_R 14 ∈ GW := gw_in 541 (by decide +kernel) (by decide +kernel)
theorem ml_L_80 : Cond.methodLink R_L 80 y_R_init ∈ GW := gw_in 542 (by decide +kernel) (by decide +kernel)
theorem wi_R_init : Cond.instanceMethod y_R_init ∈ GW := gw_in 543 (by decide +kernel) (by decide +kernel)
set_option maxRecDepth 100000 in
theorem wc_R_init : Cond.code y_R_init b_R_init 7 none ∈ GW := gw_in 544 (rfl) (by decide +kernel)
theorem ml_R_1 : Cond.methodLink R_R 1 y_Jo_init ∈ GW := gw_in 545 (by decide +kernel) (by decide +kernel)
theorem kc_R_13 : Cond.constant R_R 13 50653 ∈ GW := gw_in 546 (by decide +kernel) (by decide +kernel)
theorem kc_R_17 : Cond.constant R_R 17 109668 ∈ GW := gw_in 547 (by decide +kernel) (by decide +kernel)
theorem kc_R_42 : Cond.constant R_R 42 43264 ∈ GW := gw_in 548 (by decide +kernel) (by decide +kernel)
theorem kc_R_46 : Cond.constant R_R 46 46337 ∈ GW := gw_in 549 (by decide +kernel) (by decide +kernel)
theorem ml_R_47 : Cond.methodLink R_R 47 y_R_isPrime ∈ GW := gw_in 550 (by decide +kernel) (by decide +kernel)
theorem ws_R_isPrime : Cond.static y_R_isPrime ∈ GW := gw_in 551 (by decide +kernel) (by decide +kernel)
set_option maxRecDepth 100000 in
theorem wc_R_isPrime : Cond.code y_R_isPrime b_R_isPrime 3 (some .boolean) ∈ GW := gw_in 552 (rfl) (by decide +kernel)
theorem fl_R_55 : Cond.fieldLink R_R 55 "PolynomialHeapModel" "thrown" "I" ∈ GW := gw_in 553 (by decide +kernel) (by decide +kernel)
theorem fl_R_51 : Cond.fieldLink R_R 51 "PolynomialHeapModel" "prime" "I" ∈ GW := gw_in 554 (by decide +kernel) (by decide +kernel)
theorem fl_R_82 : Cond.fieldLink R_R 82 "PolynomialHeapModel" "refused" "I" ∈ GW := gw_in 555 (by decide +kernel) (by decide +kernel)
theorem fl_R_7 : Cond.fieldLink R_R 7 "PolynomialHeapModel" "exponents" "[I" ∈ GW := gw_in 556 (by decide +kernel) (by decide +kernel)
theorem fl_R_14 : Cond.fieldLink R_R 14 "PolynomialHeapModel" "places" "[I" ∈ GW := gw_in 557 (by decide +kernel) (by decide +kernel)
theorem fl_R_18 : Cond.fieldLink R_R 18 "PolynomialHeapModel" "rows" "[I" ∈ GW := gw_in 558 (by decide +kernel) (by decide +kernel)
theorem fl_R_21 : Cond.fieldLink R_R 21 "PolynomialHeapModel" "one" "[I" ∈ GW := gw_in 559 (by decide +kernel) (by decide +kernel)
theorem fl_R_24 : Cond.fieldLink R_R 24 "PolynomialHeapModel" "two" "[I" ∈ GW := gw_in 560 (by decide +kernel) (by decide +kernel)
theorem fl_R_27 : Cond.fieldLink R_R 27 "PolynomialHeapModel" "out" "[I" ∈ GW := gw_in 561 (by decide +kernel) (by decide +kernel)
theorem fl_R_30 : Cond.fieldLink R_R 30 "PolynomialHeapModel" "listed" "[I" ∈ GW := gw_in 562 (by decide +kernel) (by decide +kernel)
theorem fl_R_33 : Cond.fieldLink R_R 33 "PolynomialHeapModel" "now" "[I" ∈ GW := gw_in 563 (by decide +kernel) (by decide +kernel)
theorem fl_R_36 : Cond.fieldLink R_R 36 "PolynomialHeapModel" "some" "[I" ∈ GW := gw_in 564 (by decide +kernel) (by decide +kernel)
theorem fl_R_39 : Cond.fieldLink R_R 39 "PolynomialHeapModel" "entries" "[I" ∈ GW := gw_in 565 (by decide +kernel) (by decide +kernel)
theorem fl_R_43 : Cond.fieldLink R_R 43 "PolynomialHeapModel" "sums" "[I" ∈ GW := gw_in 566 (by decide +kernel) (by decide +kernel)
theorem ml_L_85 : Cond.methodLink R_L 85 y_R_thrown ∈ GW := gw_in 596 (by decide +kernel) (by decide +kernel)
theorem wi_R_thrown : Cond.instanceMethod y_R_thrown ∈ GW := gw_in 597 (by decide +kernel) (by decide +kernel)
theorem wl_R_thrown : Cond.selects R_R y_R_thrown y_R_thrown ∈ GW := gw_in 598 (by decide +kernel) (by decide +kernel)
set_option maxRecDepth 100000 in
theorem wc_R_thrown : Cond.code y_R_thrown b_R_thrown 1 (some .int) ∈ GW := gw_in 599 (rfl) (by decide +kernel)
theorem ml_L_84 : Cond.methodLink R_L 84 y_R_constant ∈ GW := gw_in 600 (by decide +kernel) (by decide +kernel)
theorem wi_R_constant : Cond.instanceMethod y_R_constant ∈ GW := gw_in 601 (by decide +kernel) (by decide +kernel)
theorem wl_R_constant : Cond.selects R_R y_R_constant y_R_constant ∈ GW := gw_in 602 (by decide +kernel) (by decide +kernel)
set_option maxRecDepth 100000 in
theorem wc_R_constant : Cond.code y_R_constant b_R_constant 3 none ∈ GW := gw_in 603 (rfl) (by decide +kernel)
theorem ml_R_85 : Cond.methodLink R_R 85 y_R_isRegister ∈ GW := gw_in 604 (by decide +kernel) (by decide +kernel)
theorem ws_R_isRegister : Cond.static y_R_isRegister ∈ GW := gw_in 605 (by decide +kernel) (by decide +kernel)
set_option maxRecDepth 100000 in
theorem wc_R_isRegister : Cond.code y_R_isRegister b_R_isRegister 1 (some .boolean) ∈ GW := gw_in 606 (rfl) (by decide +kernel)
theorem ml_R_88 : Cond.methodLink R_R 88 y_R_fails ∈ GW := gw_in 607 (by decide +kernel) (by decide +kernel)
theorem wi_R_fails : Cond.instanceMethod y_R_fails ∈ GW := gw_in 609 (by decide +kernel) (by decide +kernel)
set_option maxRecDepth 100000 in
theorem wc_R_fails : Cond.code y_R_fails b_R_fails 3 (some .boolean) ∈ GW := gw_in 610 (rfl) (by decide +kernel)
theorem ml_R_70 : Cond.methodLink R_R 70 y_R_clear ∈ GW := gw_in 611 (by decide +kernel) (by decide +kernel)
theorem ws_R_clear : Cond.static y_R_clear ∈ GW := gw_in 612 (by decide +kernel) (by decide +kernel)
set_option maxRecDepth 100000 in
theorem wc_R_clear : Cond.code y_R_clear b_R_clear 2 none ∈ GW := gw_in 613 (rfl) (by decide +kernel)
theorem ml_R_66 : Cond.methodLink R_R 66 y_R_reduced ∈ GW := gw_in 614 (by decide +kernel) (by decide +kernel)
theorem wi_R_reduced : Cond.instanceMethod y_R_reduced ∈ GW := gw_in 616 (by decide +kernel) (by decide +kernel)
set_option maxRecDepth 100000 in
theorem wc_R_reduced : Cond.code y_R_reduced b_R_reduced 5 (some .int) ∈ GW := gw_in 617 (rfl) (by decide +kernel)
theorem ml_R_92 : Cond.methodLink R_R 92 y_R_keep ∈ GW := gw_in 618 (by decide +kernel) (by decide +kernel)
theorem wi_R_keep : Cond.instanceMethod y_R_keep ∈ GW := gw_in 620 (by decide +kernel) (by decide +kernel)
set_option maxRecDepth 100000 in
theorem wc_R_keep : Cond.code y_R_keep b_R_keep 4 none ∈ GW := gw_in 621 (rfl) (by decide +kernel)
theorem ml_L_91 : Cond.methodLink R_L 91 y_R_variable ∈ GW := gw_in 622 (by decide +kernel) (by decide +kernel)
theorem wi_R_variable : Cond.instanceMethod y_R_variable ∈ GW := gw_in 623 (by decide +kernel) (by decide +kernel)
theorem wl_R_variable : Cond.selects R_R y_R_variable y_R_variable ∈ GW := gw_in 624 (by decide +kernel) (by decide +kernel)
set_option maxRecDepth 100000 in
theorem wc_R_variable : Cond.code y_R_variable b_R_variable 3 none ∈ GW := gw_in 625 (rfl) (by decide +kernel)
theorem ml_R_96 : Cond.methodLink R_R 96 y_R_isVariable ∈ GW := gw_in 626 (by decide +kernel) (by decide +kernel)
theorem ws_R_isVariable : Cond.static y_R_isVariable ∈ GW := gw_in 627 (by decide +kernel) (by decide +kernel)
set_option maxRecDepth 100000 in
theorem wc_R_isVariable : Cond.code y_R_isVariable b_R_isVariable 1 (some .boolean) ∈ GW := gw_in 628 (rfl) (by decide +kernel)
theorem ml_R_62 : Cond.methodLink R_R 62 y_R_place ∈ GW := gw_in 629 (by decide +kernel) (by decide +kernel)
theorem wi_R_place : Cond.instanceMethod y_R_place ∈ GW := gw_in 631 (by decide +kernel) (by decide +kernel)
set_option maxRecDepth 100000 in
theorem wc_R_place : Cond.code y_R_place b_R_place 4 (some .int) ∈ GW := gw_in 632 (rfl) (by decide +kernel)
theorem ml_L_95 : Cond.methodLink R_L 95 y_R_add ∈ GW := gw_in 633 (by decide +kernel) (by decide +kernel)
theorem wi_R_add : Cond.instanceMethod y_R_add ∈ GW := gw_in 634 (by decide +kernel) (by decide +kernel)
theorem wl_R_add : Cond.selects R_R y_R_add y_R_add ∈ GW := gw_in 635 (by decide +kernel) (by decide +kernel)
set_option maxRecDepth 100000 in
theorem wc_R_add : Cond.code y_R_add b_R_add 8 none ∈ GW := gw_in 636 (rfl) (by decide +kernel)
theorem ml_R_99 : Cond.methodLink R_R 99 y_R_load ∈ GW := gw_in 637 (by decide +kernel) (by decide +kernel)
theorem wi_R_load : Cond.instanceMethod y_R_load ∈ GW := gw_in 639 (by decide +kernel) (by decide +kernel)
set_option maxRecDepth 100000 in
theorem wc_R_load : Cond.code y_R_load b_R_load 4 none ∈ GW := gw_in 640 (rfl) (by decide +kernel)
theorem ml_L_99 : Cond.methodLink R_L 99 y_R_multiply ∈ GW := gw_in 641 (by decide +kernel) (by decide +kernel)
theorem wi_R_multiply : Cond.instanceMethod y_R_multiply ∈ GW := gw_in 642 (by decide +kernel) (by decide +kernel)
theorem wl_R_multiply : Cond.selects R_R y_R_multiply y_R_multiply ∈ GW := gw_in 643 (by decide +kernel) (by decide +kernel)
set_option maxRecDepth 100000 in
theorem wc_R_multiply : Cond.code y_R_multiply b_R_multiply 6 (some .boolean) ∈ GW := gw_in 644 (rfl) (by decide +kernel)
theorem ml_R_102 : Cond.methodLink R_R 102 y_R_degreeOf ∈ GW := gw_in 645 (by decide +kernel) (by decide +kernel)
theorem wi_R_degreeOf : Cond.instanceMethod y_R_degreeOf ∈ GW := gw_in 647 (by decide +kernel) (by decide +kernel)
set_option maxRecDepth 100000 in
theorem wc_R_degreeOf : Cond.code y_R_degreeOf b_R_degreeOf 5 (some .int) ∈ GW := gw_in 648 (rfl) (by decide +kernel)
theorem ml_R_58 : Cond.methodLink R_R 58 y_R_exponent ∈ GW := gw_in 649 (by decide +kernel) (by decide +kernel)
theorem wi_R_exponent : Cond.instanceMethod y_R_exponent ∈ GW := gw_in 651 (by decide +kernel) (by decide +kernel)
set_option maxRecDepth 100000 in
theorem wc_R_exponent : Cond.code y_R_exponent b_R_exponent 3 (some .int) ∈ GW := gw_in 652 (rfl) (by decide +kernel)
theorem ml_R_106 : Cond.methodLink R_R 106 y_R_refuses ∈ GW := gw_in 653 (by decide +kernel) (by decide +kernel)
theorem wi_R_refuses : Cond.instanceMethod y_R_refuses ∈ GW := gw_in 655 (by decide +kernel) (by decide +kernel)
set_option maxRecDepth 100000 in
theorem wc_R_refuses : Cond.code y_R_refuses b_R_refuses 2 (some .boolean) ∈ GW := gw_in 656 (rfl) (by decide +kernel)
theorem ml_R_110 : Cond.methodLink R_R 110 y_R_times ∈ GW := gw_in 657 (by decide +kernel) (by decide +kernel)
theorem wi_R_times : Cond.instanceMethod y_R_times ∈ GW := gw_in 659 (by decide +kernel) (by decide +kernel)
set_option maxRecDepth 100000 in
theorem wc_R_times : Cond.code y_R_times b_R_times 3 none ∈ GW := gw_in 660 (rfl) (by decide +kernel)
theorem ml_R_74 : Cond.methodLink R_R 74 y_R_gather ∈ GW := gw_in 661 (by decide +kernel) (by decide +kernel)
theorem wi_R_gather : Cond.instanceMethod y_R_gather ∈ GW := gw_in 663 (by decide +kernel) (by decide +kernel)
set_option maxRecDepth 100000 in
theorem wc_R_gather : Cond.code y_R_gather b_R_gather 15 none ∈ GW := gw_in 664 (rfl) (by decide +kernel)
theorem ml_R_78 : Cond.methodLink R_R 78 y_R_copy ∈ GW := gw_in 665 (by decide +kernel) (by decide +kernel)
theorem ws_R_copy : Cond.static y_R_copy ∈ GW := gw_in 666 (by decide +kernel) (by decide +kernel)
set_option maxRecDepth 100000 in
theorem wc_R_copy : Cond.code y_R_copy b_R_copy 3 none ∈ GW := gw_in 667 (rfl) (by decide +kernel)
theorem ml_L_102 : Cond.methodLink R_L 102 y_R_power ∈ GW := gw_in 668 (by decide +kernel) (by decide +kernel)
theorem wi_R_power : Cond.instanceMethod y_R_power ∈ GW := gw_in 669 (by decide +kernel) (by decide +kernel)
theorem wl_R_power : Cond.selects R_R y_R_power y_R_power ∈ GW := gw_in 670 (by decide +kernel) (by decide +kernel)
set_option maxRecDepth 100000 in
theorem wc_R_power : Cond.code y_R_power b_R_power 7 (some .boolean) ∈ GW := gw_in 671 (rfl) (by decide +kernel)
theorem ml_L_106 : Cond.methodLink R_L 106 y_R_divide ∈ GW := gw_in 672 (by decide +kernel) (by decide +kernel)
theorem wi_R_divide : Cond.instanceMethod y_R_divide ∈ GW := gw_in 673 (by decide +kernel) (by decide +kernel)
theorem wl_R_divide : Cond.selects R_R y_R_divide y_R_divide ∈ GW := gw_in 674 (by decide +kernel) (by decide +kernel)
set_option maxRecDepth 100000 in
theorem wc_R_divide : Cond.code y_R_divide b_R_divide 14 none ∈ GW := gw_in 675 (rfl) (by decide +kernel)
theorem ml_R_113 : Cond.methodLink R_R 113 y_R_isZero ∈ GW := gw_in 676 (by decide +kernel) (by decide +kernel)
theorem ws_R_isZero : Cond.static y_R_isZero ∈ GW := gw_in 677 (by decide +kernel) (by decide +kernel)
set_option maxRecDepth 100000 in
theorem wc_R_isZero : Cond.code y_R_isZero b_R_isZero 3 (some .boolean) ∈ GW := gw_in 678 (rfl) (by decide +kernel)
theorem ml_R_117 : Cond.methodLink R_R 117 y_R_inverse ∈ GW := gw_in 679 (by decide +kernel) (by decide +kernel)
theorem wi_R_inverse : Cond.instanceMethod y_R_inverse ∈ GW := gw_in 681 (by decide +kernel) (by decide +kernel)
set_option maxRecDepth 100000 in
theorem wc_R_inverse : Cond.code y_R_inverse b_R_inverse 5 (some .int) ∈ GW := gw_in 682 (rfl) (by decide +kernel)
theorem ml_L_110 : Cond.methodLink R_L 110 y_R_derive ∈ GW := gw_in 683 (by decide +kernel) (by decide +kernel)
theorem wi_R_derive : Cond.instanceMethod y_R_derive ∈ GW := gw_in 684 (by decide +kernel) (by decide +kernel)
theorem wl_R_derive : Cond.selects R_R y_R_derive y_R_derive ∈ GW := gw_in 685 (by decide +kernel) (by decide +kernel)
set_option maxRecDepth 100000 in
theorem wc_R_derive : Cond.code y_R_derive b_R_derive 7 none ∈ GW := gw_in 686 (rfl) (by decide +kernel)
theorem ml_L_114 : Cond.methodLink R_L 114 y_R_put ∈ GW := gw_in 687 (by decide +kernel) (by decide +kernel)
theorem wi_R_put : Cond.instanceMethod y_R_put ∈ GW := gw_in 688 (by decide +kernel) (by decide +kernel)
theorem wl_R_put : Cond.selects R_R y_R_put y_R_put ∈ GW := gw_in 689 (by decide +kernel) (by decide +kernel)
set_option maxRecDepth 100000 in
theorem wc_R_put : Cond.code y_R_put b_R_put 10 (some .boolean) ∈ GW := gw_in 690 (rfl) (by decide +kernel)
theorem ml_R_121 : Cond.methodLink R_R 121 y_R_part ∈ GW := gw_in 691 (by decide +kernel) (by decide +kernel)
theorem wi_R_part : Cond.instanceMethod y_R_part ∈ GW := gw_in 693 (by decide +kernel) (by decide +kernel)
set_option maxRecDepth 100000 in
theorem wc_R_part : Cond.code y_R_part b_R_part 5 none ∈ GW := gw_in 694 (rfl) (by decide +kernel)
theorem ml_L_117 : Cond.methodLink R_L 117 y_R_resultant ∈ GW := gw_in 695 (by decide +kernel) (by decide +kernel)
theorem wi_R_resultant : Cond.instanceMethod y_R_resultant ∈ GW := gw_in 696 (by decide +kernel) (by decide +kernel)
theorem wl_R_resultant : Cond.selects R_R y_R_resultant y_R_resultant ∈ GW := gw_in 697 (by decide +kernel) (by decide +kernel)
set_option maxRecDepth 100000 in
theorem wc_R_resultant : Cond.code y_R_resultant b_R_resultant 15 (some .boolean) ∈ GW := gw_in 698 (rfl) (by decide +kernel)
theorem ml_R_125 : Cond.methodLink R_R 125 y_R_entry ∈ GW := gw_in 699 (by decide +kernel) (by decide +kernel)
theorem wi_R_entry : Cond.instanceMethod y_R_entry ∈ GW := gw_in 701 (by decide +kernel) (by decide +kernel)
set_option maxRecDepth 100000 in
theorem wc_R_entry : Cond.code y_R_entry b_R_entry 6 none ∈ GW := gw_in 702 (rfl) (by decide +kernel)
theorem ml_R_129 : Cond.methodLink R_R 129 y_R_determinant ∈ GW := gw_in 703 (by decide +kernel) (by decide +kernel)
theorem wi_R_determinant : Cond.instanceMethod y_R_determinant ∈ GW := gw_in 705 (by decide +kernel) (by decide +kernel)
set_option maxRecDepth 100000 in
theorem wc_R_determinant : Cond.code y_R_determinant b_R_determinant 6 none ∈ GW := gw_in 706 (rfl) (by decide +kernel)
theorem ml_R_133 : Cond.methodLink R_R 133 y_R_bits ∈ GW := gw_in 707 (by decide +kernel) (by decide +kernel)
theorem ws_R_bits : Cond.static y_R_bits ∈ GW := gw_in 708 (by decide +kernel) (by decide +kernel)
set_option maxRecDepth 100000 in
theorem wc_R_bits : Cond.code y_R_bits b_R_bits 3 (some .int) ∈ GW := gw_in 709 (rfl) (by decide +kernel)
theorem ml_R_136 : Cond.methodLink R_R 136 y_R_cross ∈ GW := gw_in 710 (by decide +kernel) (by decide +kernel)
theorem wi_R_cross : Cond.instanceMethod y_R_cross ∈ GW := gw_in 712 (by decide +kernel) (by decide +kernel)
set_option maxRecDepth 100000 in
theorem wc_R_cross : Cond.code y_R_cross b_R_cross 10 none ∈ GW := gw_in 713 (rfl) (by decide +kernel)
theorem ml_L_120 : Cond.methodLink R_L 120 y_R_value ∈ GW := gw_in 714 (by decide +kernel) (by decide +kernel)
theorem wi_R_value : Cond.instanceMethod y_R_value ∈ GW := gw_in 715 (by decide +kernel) (by decide +kernel)
theorem wl_R_value : Cond.selects R_R y_R_value y_R_value ∈ GW := gw_in 716 (by decide +kernel) (by decide +kernel)
set_option maxRecDepth 100000 in
theorem wc_R_value : Cond.code y_R_value b_R_value 11 (some .int) ∈ GW := gw_in 717 (rfl) (by decide +kernel)
theorem ml_L_124 : Cond.methodLink R_L 124 y_R_terms ∈ GW := gw_in 718 (by decide +kernel) (by decide +kernel)
theorem wi_R_terms : Cond.instanceMethod y_R_terms ∈ GW := gw_in 719 (by decide +kernel) (by decide +kernel)
theorem wl_R_terms : Cond.selects R_R y_R_terms y_R_terms ∈ GW := gw_in 720 (by decide +kernel) (by decide +kernel)
set_option maxRecDepth 100000 in
theorem wc_R_terms : Cond.code y_R_terms b_R_terms 2 (some .int) ∈ GW := gw_in 721 (rfl) (by decide +kernel)
theorem ml_R_140 : Cond.methodLink R_R 140 y_R_counted ∈ GW := gw_in 722 (by decide +kernel) (by decide +kernel)
theorem wi_R_counted : Cond.instanceMethod y_R_counted ∈ GW := gw_in 724 (by decide +kernel) (by decide +kernel)
set_option maxRecDepth 100000 in
theorem wc_R_counted : Cond.code y_R_counted b_R_counted 4 (some .int) ∈ GW := gw_in 725 (rfl) (by decide +kernel)
theorem ml_L_127 : Cond.methodLink R_L 127 y_R_term ∈ GW := gw_in 726 (by decide +kernel) (by decide +kernel)
theorem wi_R_term : Cond.instanceMethod y_R_term ∈ GW := gw_in 727 (by decide +kernel) (by decide +kernel)
theorem wl_R_term : Cond.selects R_R y_R_term y_R_term ∈ GW := gw_in 728 (by decide +kernel) (by decide +kernel)
set_option maxRecDepth 100000 in
theorem wc_R_term : Cond.code y_R_term b_R_term 7 (some .int) ∈ GW := gw_in 729 (rfl) (by decide +kernel)
theorem ml_L_130 : Cond.methodLink R_L 130 y_R_coefficient ∈ GW := gw_in 730 (by decide +kernel) (by decide +kernel)
theorem wi_R_coefficient : Cond.instanceMethod y_R_coefficient ∈ GW := gw_in 731 (by decide +kernel) (by decide +kernel)
theorem wl_R_coefficient : Cond.selects R_R y_R_coefficient y_R_coefficient ∈ GW := gw_in 732 (by decide +kernel) (by decide +kernel)
set_option maxRecDepth 100000 in
theorem wc_R_coefficient : Cond.code y_R_coefficient b_R_coefficient 6 (some .int) ∈ GW := gw_in 733 (rfl) (by decide +kernel)
theorem kl_R_143 : Cond.constantLong R_R 143 36 ∈ GW := gw_in 734 (by decide +kernel) (by decide +kernel)
theorem ml_L_134 : Cond.methodLink R_L 134 y_R_degree ∈ GW := gw_in 735 (by decide +kernel) (by decide +kernel)
theorem wi_R_degree : Cond.instanceMethod y_R_degree ∈ GW := gw_in 736 (by decide +kernel) (by decide +kernel)
theorem wl_R_degree : Cond.selects R_R y_R_degree y_R_degree ∈ GW := gw_in 737 (by decide +kernel) (by decide +kernel)
set_option maxRecDepth 100000 in
theorem wc_R_degree : Cond.code y_R_degree b_R_degree 4 (some .int) ∈ GW := gw_in 738 (rfl) (by decide +kernel)
theorem ml_L_137 : Cond.methodLink R_L 137 y_R_isSame ∈ GW := gw_in 739 (by decide +kernel) (by decide +kernel)
theorem wi_R_isSame : Cond.instanceMethod y_R_isSame ∈ GW := gw_in 740 (by decide +kernel) (by decide +kernel)
theorem wl_R_isSame : Cond.selects R_R y_R_isSame y_R_isSame ∈ GW := gw_in 741 (by decide +kernel) (by decide +kernel)
set_option maxRecDepth 100000 in
theorem wc_R_isSame : Cond.code y_R_isSame b_R_isSame 5 (some .boolean) ∈ GW := gw_in 742 (rfl) (by decide +kernel)
theorem ml_L_141 : Cond.methodLink R_L 141 y_R_count ∈ GW := gw_in 743 (by decide +kernel) (by decide +kernel)
theorem wi_R_count : Cond.instanceMethod y_R_count ∈ GW := gw_in 744 (by decide +kernel) (by decide +kernel)
theorem wl_R_count : Cond.selects R_R y_R_count y_R_count ∈ GW := gw_in 745 (by decide +kernel) (by decide +kernel)
set_option maxRecDepth 100000 in
theorem wc_R_count : Cond.code y_R_count b_R_count 5 (some .int) ∈ GW := gw_in 746 (rfl) (by decide +kernel)
theorem ac_long : Cond.arrayClass .long ∈ GW := gw_in 747 (by decide +kernel) (by decide +kernel)
theorem in_F : ∀ w ∈ u_ws R_F T_F 1, w ∈ GW := by
  intro w hw
  have h1 : (u_ws R_F T_F 1).all (fun w => decide (w ∈ lw_tbl) && goodWord w) = true := by decide +kernel
  have h2 := List.all_eq_true.mp h1 w hw
  rw [Bool.and_eq_true, decide_eq_true_eq] at h2
  exact List.mem_filter.mpr h2
theorem in_P : ∀ w ∈ u_ws R_P T_P 3, w ∈ GW := by
  intro w hw
  have h1 : (u_ws R_P T_P 3).all (fun w => decide (w ∈ lw_tbl) && goodWord w) = true := by decide +kernel
  have h2 := List.all_eq_true.mp h1 w hw
  rw [Bool.and_eq_true, decide_eq_true_eq] at h2
  exact List.mem_filter.mpr h2
theorem in_T : ∀ w ∈ u_ws R_T T_T 2, w ∈ GW := by
  intro w hw
  have h1 : (u_ws R_T T_T 2).all (fun w => decide (w ∈ lw_tbl) && goodWord w) = true := by decide +kernel
  have h2 := List.all_eq_true.mp h1 w hw
  rw [Bool.and_eq_true, decide_eq_true_eq] at h2
  exact List.mem_filter.mpr h2
theorem in_S : ∀ w ∈ u_ws R_S T_S 5, w ∈ GW := by
  intro w hw
  have h1 : (u_ws R_S T_S 5).all (fun w => decide (w ∈ lw_tbl) && goodWord w) = true := by decide +kernel
  have h2 := List.all_eq_true.mp h1 w hw
  rw [Bool.and_eq_true, decide_eq_true_eq] at h2
  exact List.mem_filter.mpr h2
theorem in_H : ∀ w ∈ u_ws R_H T_H 7, w ∈ GW := by
  intro w hw
  have h1 : (u_ws R_H T_H 7).all (fun w => decide (w ∈ lw_tbl) && goodWord w) = true := by decide +kernel
  have h2 := List.all_eq_true.mp h1 w hw
  rw [Bool.and_eq_true, decide_eq_true_eq] at h2
  exact List.mem_filter.mpr h2
theorem in_R : ∀ w ∈ u_ws R_R T_R 14, w ∈ GW := by
  intro w hw
  have h1 : (u_ws R_R T_R 14).all (fun w => decide (w ∈ lw_tbl) && goodWord w) = true := by decide +kernel
  have h2 := List.all_eq_true.mp h1 w hw
  rw [Bool.and_eq_true, decide_eq_true_eq] at h2
  exact List.mem_filter.mpr h2
abbrev md (y2 : MethodName) (n : Nat) : Prop := y2.cls ≠ "java/lang/invoke/MethodHandle" ∧ y2.cls ≠ "java/lang/invoke/VarHandle" ∧ (parseMethodDescriptor y2.desc).map (fun d => d.parameters.length) = some n
theorem md_H_init : md y_H_init 1 := by decide +kernel
theorem md_Jo_init : md y_Jo_init 0 := by decide +kernel
theorem md_F_init : md y_F_init 1 := by decide +kernel
theorem md_F_leastPrime : md y_F_leastPrime 1 := by decide +kernel
theorem md_Jm_max : md y_Jm_max 2 := by decide +kernel
theorem md_F_isPrime : md y_F_isPrime 1 := by decide +kernel
theorem md_S_init : md y_S_init 1 := by decide +kernel
theorem md_Q_of : md y_Q_of 3 := by decide +kernel
theorem md_T_init : md y_T_init 1 := by decide +kernel
theorem md_P_init : md y_P_init 0 := by decide +kernel
theorem md_H_count : md y_H_count 1 := by decide +kernel
theorem md_H_allTerms : md y_H_allTerms 0 := by decide +kernel
theorem md_H_zeroRegisters : md y_H_zeroRegisters 0 := by decide +kernel
theorem md_P_isZero : md y_P_isZero 0 := by decide +kernel
theorem md_H_greatestDegree : md y_H_greatestDegree 0 := by decide +kernel
theorem md_P_degreeIn : md y_P_degreeIn 1 := by decide +kernel
theorem md_Q_exponent : md y_Q_exponent 2 := by decide +kernel
theorem md_L_cell : md y_L_cell 2 := by decide +kernel
theorem md_L_constant : md y_L_constant 3 := by decide +kernel
theorem md_H_constant : md y_H_constant 2 := by decide +kernel
theorem md_H_checkRegister : md y_H_checkRegister 1 := by decide +kernel
theorem md_F_reduced : md y_F_reduced 1 := by decide +kernel
theorem md_Jm_floorMod : md y_Jm_floorMod 2 := by decide +kernel
theorem md_P_becomeNumber : md y_P_becomeNumber 1 := by decide +kernel
theorem md_P_clear : md y_P_clear 0 := by decide +kernel
theorem md_P_append : md y_P_append 2 := by decide +kernel
theorem md_Ja_copyOf : md y_Ja_copyOf 2 := by decide +kernel
theorem md_Jm_min : md y_Jm_min 2 := by decide +kernel
theorem md_L_variable : md y_L_variable 3 := by decide +kernel
theorem md_H_variable : md y_H_variable 2 := by decide +kernel
theorem md_H_checkVariable : md y_H_checkVariable 1 := by decide +kernel
theorem md_Q_ofVariable : md y_Q_ofVariable 1 := by decide +kernel
theorem md_L_add : md y_L_add 5 := by decide +kernel
theorem md_H_add : md y_H_add 4 := by decide +kernel
theorem md_H_checkRegisters : md y_H_checkRegisters 3 := by decide +kernel
theorem md_S_addMultiple : md y_S_addMultiple 3 := by decide +kernel
theorem md_S_addTerm : md y_S_addTerm 3 := by decide +kernel
theorem md_S_rankOf : md y_S_rankOf 1 := by decide +kernel
theorem md_Q_sumAndFirst : md y_Q_sumAndFirst 1 := by decide +kernel
theorem md_F_sumWithProduct : md y_F_sumWithProduct 3 := by decide +kernel
theorem md_S_moveTo : md y_S_moveTo 1 := by decide +kernel
theorem md_S_clear : md y_S_clear 0 := by decide +kernel
theorem md_Ja_fill : md y_Ja_fill 4 := by decide +kernel
theorem md_Ja_rangeCheck : md y_Ja_rangeCheck 3 := by decide +kernel
theorem md_L_multiply : md y_L_multiply 5 := by decide +kernel
theorem md_H_multiply : md y_H_multiply 3 := by decide +kernel
theorem md_H_refuse : md y_H_refuse 0 := by decide +kernel
theorem md_S_addProduct : md y_S_addProduct 2 := by decide +kernel
theorem md_L_power : md y_L_power 5 := by decide +kernel
theorem md_H_power : md y_H_power 3 := by decide +kernel
theorem md_H_exchangeSpare : md y_H_exchangeSpare 1 := by decide +kernel
theorem md_L_divide : md y_L_divide 5 := by decide +kernel
theorem md_H_divide : md y_H_divide 4 := by decide +kernel
theorem md_S_divideBy : md y_S_divideBy 2 := by decide +kernel
theorem md_F_inverse : md y_F_inverse 1 := by decide +kernel
theorem md_F_product : md y_F_product 2 := by decide +kernel
theorem md_Q_isMultiple : md y_Q_isMultiple 2 := by decide +kernel
theorem md_F_negative : md y_F_negative 1 := by decide +kernel
theorem md_L_derive : md y_L_derive 4 := by decide +kernel
theorem md_H_derive : md y_H_derive 3 := by decide +kernel
theorem md_L_put : md y_L_put 6 := by decide +kernel
theorem md_H_put : md y_H_put 4 := by decide +kernel
theorem md_S_addCoefficientOf : md y_S_addCoefficientOf 3 := by decide +kernel
theorem md_Q_without : md y_Q_without 2 := by decide +kernel
theorem md_L_resultant : md y_L_resultant 6 := by decide +kernel
theorem md_H_resultant : md y_H_resultant 4 := by decide +kernel
theorem md_Ji_bitCount : md y_Ji_bitCount 1 := by decide +kernel
theorem md_H_addExpansion : md y_H_addExpansion 4 := by decide +kernel
theorem md_L_value : md y_L_value 6 := by decide +kernel
theorem md_H_value : md y_H_value 4 := by decide +kernel
theorem md_T_fillRow : md y_T_fillRow 2 := by decide +kernel
theorem md_T_at : md y_T_at 1 := by decide +kernel
theorem md_L_terms : md y_L_terms 3 := by decide +kernel
theorem md_H_terms : md y_H_terms 1 := by decide +kernel
theorem md_L_term : md y_L_term 5 := by decide +kernel
theorem md_H_term : md y_H_term 3 := by decide +kernel
theorem md_L_coefficient : md y_L_coefficient 6 := by decide +kernel
theorem md_H_coefficient : md y_H_coefficient 4 := by decide +kernel
theorem md_Q_exists : md y_Q_exists 3 := by decide +kernel
theorem md_P_coefficientOf : md y_P_coefficientOf 1 := by decide +kernel
theorem md_L_degree : md y_L_degree 4 := by decide +kernel
theorem md_H_degree : md y_H_degree 2 := by decide +kernel
theorem md_L_isSame : md y_L_isSame 4 := by decide +kernel
theorem md_H_isSame : md y_H_isSame 2 := by decide +kernel
theorem md_P_matches : md y_P_matches 1 := by decide +kernel
theorem md_R_init : md y_R_init 1 := by decide +kernel
theorem md_R_isPrime : md y_R_isPrime 1 := by decide +kernel
theorem md_R_thrown : md y_R_thrown 0 := by decide +kernel
theorem md_R_constant : md y_R_constant 2 := by decide +kernel
theorem md_R_isRegister : md y_R_isRegister 1 := by decide +kernel
theorem md_R_fails : md y_R_fails 2 := by decide +kernel
theorem md_R_clear : md y_R_clear 1 := by decide +kernel
theorem md_R_reduced : md y_R_reduced 1 := by decide +kernel
theorem md_R_keep : md y_R_keep 2 := by decide +kernel
theorem md_R_variable : md y_R_variable 2 := by decide +kernel
theorem md_R_isVariable : md y_R_isVariable 1 := by decide +kernel
theorem md_R_place : md y_R_place 3 := by decide +kernel
theorem md_R_add : md y_R_add 4 := by decide +kernel
theorem md_R_load : md y_R_load 2 := by decide +kernel
theorem md_R_multiply : md y_R_multiply 3 := by decide +kernel
theorem md_R_degreeOf : md y_R_degreeOf 2 := by decide +kernel
theorem md_R_exponent : md y_R_exponent 2 := by decide +kernel
theorem md_R_refuses : md y_R_refuses 1 := by decide +kernel
theorem md_R_times : md y_R_times 2 := by decide +kernel
theorem md_R_gather : md y_R_gather 7 := by decide +kernel
theorem md_R_copy : md y_R_copy 2 := by decide +kernel
theorem md_R_power : md y_R_power 3 := by decide +kernel
theorem md_R_divide : md y_R_divide 4 := by decide +kernel
theorem md_R_isZero : md y_R_isZero 1 := by decide +kernel
theorem md_R_inverse : md y_R_inverse 1 := by decide +kernel
theorem md_R_derive : md y_R_derive 3 := by decide +kernel
theorem md_R_put : md y_R_put 4 := by decide +kernel
theorem md_R_part : md y_R_part 3 := by decide +kernel
theorem md_R_resultant : md y_R_resultant 4 := by decide +kernel
theorem md_R_entry : md y_R_entry 4 := by decide +kernel
theorem md_R_determinant : md y_R_determinant 1 := by decide +kernel
theorem md_R_bits : md y_R_bits 1 := by decide +kernel
theorem md_R_cross : md y_R_cross 4 := by decide +kernel
theorem md_R_value : md y_R_value 4 := by decide +kernel
theorem md_R_terms : md y_R_terms 1 := by decide +kernel
theorem md_R_counted : md y_R_counted 1 := by decide +kernel
theorem md_R_term : md y_R_term 3 := by decide +kernel
theorem md_R_coefficient : md y_R_coefficient 4 := by decide +kernel
theorem md_R_degree : md y_R_degree 2 := by decide +kernel
theorem md_R_isSame : md y_R_isSame 2 := by decide +kernel
theorem md_R_count : md y_R_count 1 := by decide +kernel
theorem md_L_law : md y_L_law 1 := by decide +kernel
end
section
/-! Decode rows. -/
theorem dF_init_0 : decode b_F_init 0 = .ok (.aload_n 0, 1) := by decide +kernel
theorem dF_init_1 : decode b_F_init 1 = .ok (.invokespecial 1, 3) := by decide +kernel
theorem dF_init_4 : decode b_F_init 4 = .ok (.aload_n 0, 1) := by decide +kernel
theorem dF_init_5 : decode b_F_init 5 = .ok (.iload_n 1, 1) := by decide +kernel
theorem dF_init_6 : decode b_F_init 6 = .ok (.invokestatic 7, 3) := by decide +kernel
theorem dF_init_9 : decode b_F_init 9 = .ok (.putfield 13, 3) := by decide +kernel
theorem dF_init_12 : decode b_F_init 12 = .ok (.return_, 1) := by decide +kernel
theorem dF_leastPrime_0 : decode b_F_leastPrime 0 = .ok (.iload_n 0, 1) := by decide +kernel
theorem dF_leastPrime_1 : decode b_F_leastPrime 1 = .ok (.iconst 2, 1) := by decide +kernel
theorem dF_leastPrime_2 : decode b_F_leastPrime 2 = .ok (.invokestatic 17, 3) := by decide +kernel
theorem dF_leastPrime_5 : decode b_F_leastPrime 5 = .ok (.istore_n 1, 1) := by decide +kernel
theorem dF_leastPrime_6 : decode b_F_leastPrime 6 = .ok (.iload_n 1, 1) := by decide +kernel
theorem dF_leastPrime_7 : decode b_F_leastPrime 7 = .ok (.ldc 23, 2) := by decide +kernel
theorem dF_leastPrime_9 : decode b_F_leastPrime 9 = .ok (.if_icmp .ge 18, 3) := by decide +kernel
theorem dF_leastPrime_12 : decode b_F_leastPrime 12 = .ok (.iload_n 1, 1) := by decide +kernel
theorem dF_leastPrime_13 : decode b_F_leastPrime 13 = .ok (.invokestatic 24, 3) := by decide +kernel
theorem dF_leastPrime_16 : decode b_F_leastPrime 16 = .ok (.ifCond .eq 5, 3) := by decide +kernel
theorem dF_leastPrime_19 : decode b_F_leastPrime 19 = .ok (.iload_n 1, 1) := by decide +kernel
theorem dF_leastPrime_20 : decode b_F_leastPrime 20 = .ok (.ireturn, 1) := by decide +kernel
theorem dF_leastPrime_21 : decode b_F_leastPrime 21 = .ok (.iinc 1 1, 3) := by decide +kernel
theorem dF_leastPrime_24 : decode b_F_leastPrime 24 = .ok (.goto (-18), 3) := by decide +kernel
theorem dF_leastPrime_27 : decode b_F_leastPrime 27 = .ok (.ldc 23, 2) := by decide +kernel
theorem dF_leastPrime_29 : decode b_F_leastPrime 29 = .ok (.ireturn, 1) := by decide +kernel
theorem dJm_max_0 : decode b_Jm_max 0 = .ok (.iload_n 0, 1) := by decide +kernel
theorem dJm_max_1 : decode b_Jm_max 1 = .ok (.iload_n 1, 1) := by decide +kernel
theorem dJm_max_2 : decode b_Jm_max 2 = .ok (.if_icmp .lt 7, 3) := by decide +kernel
theorem dJm_max_5 : decode b_Jm_max 5 = .ok (.iload_n 0, 1) := by decide +kernel
theorem dJm_max_6 : decode b_Jm_max 6 = .ok (.goto 4, 3) := by decide +kernel
theorem dJm_max_9 : decode b_Jm_max 9 = .ok (.iload_n 1, 1) := by decide +kernel
theorem dJm_max_10 : decode b_Jm_max 10 = .ok (.ireturn, 1) := by decide +kernel
theorem dF_isPrime_0 : decode b_F_isPrime 0 = .ok (.iconst 2, 1) := by decide +kernel
theorem dF_isPrime_1 : decode b_F_isPrime 1 = .ok (.istore_n 1, 1) := by decide +kernel
theorem dF_isPrime_2 : decode b_F_isPrime 2 = .ok (.iload_n 1, 1) := by decide +kernel
theorem dF_isPrime_3 : decode b_F_isPrime 3 = .ok (.iload_n 1, 1) := by decide +kernel
theorem dF_isPrime_4 : decode b_F_isPrime 4 = .ok (.imul, 1) := by decide +kernel
theorem dF_isPrime_5 : decode b_F_isPrime 5 = .ok (.iload_n 0, 1) := by decide +kernel
theorem dF_isPrime_6 : decode b_F_isPrime 6 = .ok (.if_icmp .gt 17, 3) := by decide +kernel
theorem dF_isPrime_9 : decode b_F_isPrime 9 = .ok (.iload_n 0, 1) := by decide +kernel
theorem dF_isPrime_10 : decode b_F_isPrime 10 = .ok (.iload_n 1, 1) := by decide +kernel
theorem dF_isPrime_11 : decode b_F_isPrime 11 = .ok (.irem, 1) := by decide +kernel
theorem dF_isPrime_12 : decode b_F_isPrime 12 = .ok (.ifCond .ne 5, 3) := by decide +kernel
theorem dF_isPrime_15 : decode b_F_isPrime 15 = .ok (.iconst 0, 1) := by decide +kernel
theorem dF_isPrime_16 : decode b_F_isPrime 16 = .ok (.ireturn, 1) := by decide +kernel
theorem dF_isPrime_17 : decode b_F_isPrime 17 = .ok (.iinc 1 1, 3) := by decide +kernel
theorem dF_isPrime_20 : decode b_F_isPrime 20 = .ok (.goto (-18), 3) := by decide +kernel
theorem dF_isPrime_23 : decode b_F_isPrime 23 = .ok (.iconst 1, 1) := by decide +kernel
theorem dF_isPrime_24 : decode b_F_isPrime 24 = .ok (.ireturn, 1) := by decide +kernel
theorem dS_init_0 : decode b_S_init 0 = .ok (.aload_n 0, 1) := by decide +kernel
theorem dS_init_1 : decode b_S_init 1 = .ok (.invokespecial 1, 3) := by decide +kernel
theorem dS_init_4 : decode b_S_init 4 = .ok (.aload_n 0, 1) := by decide +kernel
theorem dS_init_5 : decode b_S_init 5 = .ok (.sipush 9139, 3) := by decide +kernel
theorem dS_init_8 : decode b_S_init 8 = .ok (.newarray .int, 2) := by decide +kernel
theorem dS_init_10 : decode b_S_init 10 = .ok (.putfield 9, 3) := by decide +kernel
theorem dS_init_13 : decode b_S_init 13 = .ok (.aload_n 0, 1) := by decide +kernel
theorem dS_init_14 : decode b_S_init 14 = .ok (.sipush 2368, 3) := by decide +kernel
theorem dS_init_17 : decode b_S_init 17 = .ok (.newarray .int, 2) := by decide +kernel
theorem dS_init_19 : decode b_S_init 19 = .ok (.putfield 15, 3) := by decide +kernel
theorem dS_init_22 : decode b_S_init 22 = .ok (.aload_n 0, 1) := by decide +kernel
theorem dS_init_23 : decode b_S_init 23 = .ok (.sipush 9139, 3) := by decide +kernel
theorem dS_init_26 : decode b_S_init 26 = .ok (.newarray .int, 2) := by decide +kernel
theorem dS_init_28 : decode b_S_init 28 = .ok (.putfield 18, 3) := by decide +kernel
theorem dS_init_31 : decode b_S_init 31 = .ok (.aload_n 0, 1) := by decide +kernel
theorem dS_init_32 : decode b_S_init 32 = .ok (.aload_n 1, 1) := by decide +kernel
theorem dS_init_33 : decode b_S_init 33 = .ok (.putfield 21, 3) := by decide +kernel
theorem dS_init_36 : decode b_S_init 36 = .ok (.iconst 0, 1) := by decide +kernel
theorem dS_init_37 : decode b_S_init 37 = .ok (.istore_n 2, 1) := by decide +kernel
theorem dS_init_38 : decode b_S_init 38 = .ok (.iconst 0, 1) := by decide +kernel
theorem dS_init_39 : decode b_S_init 39 = .ok (.istore_n 3, 1) := by decide +kernel
theorem dS_init_40 : decode b_S_init 40 = .ok (.iload_n 3, 1) := by decide +kernel
theorem dS_init_41 : decode b_S_init 41 = .ok (.bipush 36, 2) := by decide +kernel
theorem dS_init_43 : decode b_S_init 43 = .ok (.if_icmp .gt 78, 3) := by decide +kernel
theorem dS_init_46 : decode b_S_init 46 = .ok (.iconst 0, 1) := by decide +kernel
theorem dS_init_47 : decode b_S_init 47 = .ok (.istore 4, 2) := by decide +kernel
theorem dS_init_49 : decode b_S_init 49 = .ok (.iload 4, 2) := by decide +kernel
theorem dS_init_51 : decode b_S_init 51 = .ok (.iload_n 3, 1) := by decide +kernel
theorem dS_init_52 : decode b_S_init 52 = .ok (.if_icmp .gt 63, 3) := by decide +kernel
theorem dS_init_55 : decode b_S_init 55 = .ok (.aload_n 0, 1) := by decide +kernel
theorem dS_init_56 : decode b_S_init 56 = .ok (.getfield 15, 3) := by decide +kernel
theorem dS_init_59 : decode b_S_init 59 = .ok (.iload_n 3, 1) := by decide +kernel
theorem dS_init_60 : decode b_S_init 60 = .ok (.bipush 6, 2) := by decide +kernel
theorem dS_init_62 : decode b_S_init 62 = .ok (.ishl, 1) := by decide +kernel
theorem dS_init_63 : decode b_S_init 63 = .ok (.iload 4, 2) := by decide +kernel
theorem dS_init_65 : decode b_S_init 65 = .ok (.ior, 1) := by decide +kernel
theorem dS_init_66 : decode b_S_init 66 = .ok (.iload_n 2, 1) := by decide +kernel
theorem dS_init_67 : decode b_S_init 67 = .ok (.iastore, 1) := by decide +kernel
theorem dS_init_68 : decode b_S_init 68 = .ok (.iconst 0, 1) := by decide +kernel
theorem dS_init_69 : decode b_S_init 69 = .ok (.istore 5, 2) := by decide +kernel
theorem dS_init_71 : decode b_S_init 71 = .ok (.iload 5, 2) := by decide +kernel
theorem dS_init_73 : decode b_S_init 73 = .ok (.iload_n 3, 1) := by decide +kernel
theorem dS_init_74 : decode b_S_init 74 = .ok (.iload 4, 2) := by decide +kernel
theorem dS_init_76 : decode b_S_init 76 = .ok (.isub, 1) := by decide +kernel
theorem dS_init_77 : decode b_S_init 77 = .ok (.if_icmp .gt 32, 3) := by decide +kernel
theorem dS_init_80 : decode b_S_init 80 = .ok (.aload_n 0, 1) := by decide +kernel
theorem dS_init_81 : decode b_S_init 81 = .ok (.getfield 9, 3) := by decide +kernel
theorem dS_init_84 : decode b_S_init 84 = .ok (.iload_n 2, 1) := by decide +kernel
theorem dS_init_85 : decode b_S_init 85 = .ok (.iload 4, 2) := by decide +kernel
theorem dS_init_87 : decode b_S_init 87 = .ok (.iload 5, 2) := by decide +kernel
theorem dS_init_89 : decode b_S_init 89 = .ok (.iload_n 3, 1) := by decide +kernel
theorem dS_init_90 : decode b_S_init 90 = .ok (.iload 4, 2) := by decide +kernel
theorem dS_init_92 : decode b_S_init 92 = .ok (.isub, 1) := by decide +kernel
theorem dS_init_93 : decode b_S_init 93 = .ok (.iload 5, 2) := by decide +kernel
theorem dS_init_95 : decode b_S_init 95 = .ok (.isub, 1) := by decide +kernel
theorem dS_init_96 : decode b_S_init 96 = .ok (.invokestatic 25, 3) := by decide +kernel
theorem dS_init_99 : decode b_S_init 99 = .ok (.iastore, 1) := by decide +kernel
theorem dS_init_100 : decode b_S_init 100 = .ok (.iinc 2 1, 3) := by decide +kernel
theorem dS_init_103 : decode b_S_init 103 = .ok (.iinc 5 1, 3) := by decide +kernel
theorem dS_init_106 : decode b_S_init 106 = .ok (.goto (-35), 3) := by decide +kernel
theorem dS_init_109 : decode b_S_init 109 = .ok (.iinc 4 1, 3) := by decide +kernel
theorem dS_init_112 : decode b_S_init 112 = .ok (.goto (-63), 3) := by decide +kernel
theorem dS_init_115 : decode b_S_init 115 = .ok (.iinc 3 1, 3) := by decide +kernel
theorem dS_init_118 : decode b_S_init 118 = .ok (.goto (-78), 3) := by decide +kernel
theorem dS_init_121 : decode b_S_init 121 = .ok (.return_, 1) := by decide +kernel
theorem dQ_of_0 : decode b_Q_of 0 = .ok (.iload_n 0, 1) := by decide +kernel
theorem dQ_of_1 : decode b_Q_of 1 = .ok (.iload_n 1, 1) := by decide +kernel
theorem dQ_of_2 : decode b_Q_of 2 = .ok (.iadd, 1) := by decide +kernel
theorem dQ_of_3 : decode b_Q_of 3 = .ok (.iload_n 2, 1) := by decide +kernel
theorem dQ_of_4 : decode b_Q_of 4 = .ok (.iadd, 1) := by decide +kernel
theorem dQ_of_5 : decode b_Q_of 5 = .ok (.bipush 6, 2) := by decide +kernel
theorem dQ_of_7 : decode b_Q_of 7 = .ok (.ishl, 1) := by decide +kernel
theorem dQ_of_8 : decode b_Q_of 8 = .ok (.iload_n 0, 1) := by decide +kernel
theorem dQ_of_9 : decode b_Q_of 9 = .ok (.ior, 1) := by decide +kernel
theorem dQ_of_10 : decode b_Q_of 10 = .ok (.bipush 6, 2) := by decide +kernel
theorem dQ_of_12 : decode b_Q_of 12 = .ok (.ishl, 1) := by decide +kernel
theorem dQ_of_13 : decode b_Q_of 13 = .ok (.iload_n 1, 1) := by decide +kernel
theorem dQ_of_14 : decode b_Q_of 14 = .ok (.ior, 1) := by decide +kernel
theorem dQ_of_15 : decode b_Q_of 15 = .ok (.bipush 6, 2) := by decide +kernel
theorem dQ_of_17 : decode b_Q_of 17 = .ok (.ishl, 1) := by decide +kernel
theorem dQ_of_18 : decode b_Q_of 18 = .ok (.iload_n 2, 1) := by decide +kernel
theorem dQ_of_19 : decode b_Q_of 19 = .ok (.ior, 1) := by decide +kernel
theorem dQ_of_20 : decode b_Q_of 20 = .ok (.ireturn, 1) := by decide +kernel
theorem dT_init_0 : decode b_T_init 0 = .ok (.aload_n 0, 1) := by decide +kernel
theorem dT_init_1 : decode b_T_init 1 = .ok (.invokespecial 3, 3) := by decide +kernel
theorem dT_init_4 : decode b_T_init 4 = .ok (.aload_n 0, 1) := by decide +kernel
theorem dT_init_5 : decode b_T_init 5 = .ok (.iconst 3, 1) := by decide +kernel
theorem dT_init_6 : decode b_T_init 6 = .ok (.bipush 37, 2) := by decide +kernel
theorem dT_init_8 : decode b_T_init 8 = .ok (.multianewarray 11 2, 4) := by decide +kernel
theorem dT_init_12 : decode b_T_init 12 = .ok (.putfield 13, 3) := by decide +kernel
theorem dT_init_15 : decode b_T_init 15 = .ok (.aload_n 0, 1) := by decide +kernel
theorem dT_init_16 : decode b_T_init 16 = .ok (.aload_n 1, 1) := by decide +kernel
theorem dT_init_17 : decode b_T_init 17 = .ok (.putfield 18, 3) := by decide +kernel
theorem dT_init_20 : decode b_T_init 20 = .ok (.return_, 1) := by decide +kernel
theorem dP_init_0 : decode b_P_init 0 = .ok (.aload_n 0, 1) := by decide +kernel
theorem dP_init_1 : decode b_P_init 1 = .ok (.invokespecial 1, 3) := by decide +kernel
theorem dP_init_4 : decode b_P_init 4 = .ok (.aload_n 0, 1) := by decide +kernel
theorem dP_init_5 : decode b_P_init 5 = .ok (.bipush 16, 2) := by decide +kernel
theorem dP_init_7 : decode b_P_init 7 = .ok (.newarray .int, 2) := by decide +kernel
theorem dP_init_9 : decode b_P_init 9 = .ok (.putfield 9, 3) := by decide +kernel
theorem dP_init_12 : decode b_P_init 12 = .ok (.aload_n 0, 1) := by decide +kernel
theorem dP_init_13 : decode b_P_init 13 = .ok (.bipush 16, 2) := by decide +kernel
theorem dP_init_15 : decode b_P_init 15 = .ok (.newarray .int, 2) := by decide +kernel
theorem dP_init_17 : decode b_P_init 17 = .ok (.putfield 13, 3) := by decide +kernel
theorem dP_init_20 : decode b_P_init 20 = .ok (.return_, 1) := by decide +kernel
theorem dP_isZero_0 : decode b_P_isZero 0 = .ok (.aload_n 0, 1) := by decide +kernel
theorem dP_isZero_1 : decode b_P_isZero 1 = .ok (.getfield 16, 3) := by decide +kernel
theorem dP_isZero_4 : decode b_P_isZero 4 = .ok (.ifCond .ne 7, 3) := by decide +kernel
theorem dP_isZero_7 : decode b_P_isZero 7 = .ok (.iconst 1, 1) := by decide +kernel
theorem dP_isZero_8 : decode b_P_isZero 8 = .ok (.goto 4, 3) := by decide +kernel
theorem dP_isZero_11 : decode b_P_isZero 11 = .ok (.iconst 0, 1) := by decide +kernel
theorem dP_isZero_12 : decode b_P_isZero 12 = .ok (.ireturn, 1) := by decide +kernel
theorem dP_degreeIn_0 : decode b_P_degreeIn 0 = .ok (.iconst 0, 1) := by decide +kernel
theorem dP_degreeIn_1 : decode b_P_degreeIn 1 = .ok (.istore_n 2, 1) := by decide +kernel
theorem dP_degreeIn_2 : decode b_P_degreeIn 2 = .ok (.iconst 0, 1) := by decide +kernel
theorem dP_degreeIn_3 : decode b_P_degreeIn 3 = .ok (.istore_n 3, 1) := by decide +kernel
theorem dP_degreeIn_4 : decode b_P_degreeIn 4 = .ok (.iload_n 3, 1) := by decide +kernel
theorem dP_degreeIn_5 : decode b_P_degreeIn 5 = .ok (.aload_n 0, 1) := by decide +kernel
theorem dP_degreeIn_6 : decode b_P_degreeIn 6 = .ok (.getfield 16, 3) := by decide +kernel
theorem dP_degreeIn_9 : decode b_P_degreeIn 9 = .ok (.if_icmp .ge 24, 3) := by decide +kernel
theorem dP_degreeIn_12 : decode b_P_degreeIn 12 = .ok (.iload_n 2, 1) := by decide +kernel
theorem dP_degreeIn_13 : decode b_P_degreeIn 13 = .ok (.aload_n 0, 1) := by decide +kernel
theorem dP_degreeIn_14 : decode b_P_degreeIn 14 = .ok (.getfield 9, 3) := by decide +kernel
theorem dP_degreeIn_17 : decode b_P_degreeIn 17 = .ok (.iload_n 3, 1) := by decide +kernel
theorem dP_degreeIn_18 : decode b_P_degreeIn 18 = .ok (.iaload, 1) := by decide +kernel
theorem dP_degreeIn_19 : decode b_P_degreeIn 19 = .ok (.iload_n 1, 1) := by decide +kernel
theorem dP_degreeIn_20 : decode b_P_degreeIn 20 = .ok (.invokestatic 35, 3) := by decide +kernel
theorem dP_degreeIn_23 : decode b_P_degreeIn 23 = .ok (.invokestatic 39, 3) := by decide +kernel
theorem dP_degreeIn_26 : decode b_P_degreeIn 26 = .ok (.istore_n 2, 1) := by decide +kernel
theorem dP_degreeIn_27 : decode b_P_degreeIn 27 = .ok (.iinc 3 1, 3) := by decide +kernel
theorem dP_degreeIn_30 : decode b_P_degreeIn 30 = .ok (.goto (-26), 3) := by decide +kernel
theorem dP_degreeIn_33 : decode b_P_degreeIn 33 = .ok (.iload_n 2, 1) := by decide +kernel
theorem dP_degreeIn_34 : decode b_P_degreeIn 34 = .ok (.ireturn, 1) := by decide +kernel
theorem dQ_exponent_0 : decode b_Q_exponent 0 = .ok (.iload_n 0, 1) := by decide +kernel
theorem dQ_exponent_1 : decode b_Q_exponent 1 = .ok (.iconst 2, 1) := by decide +kernel
theorem dQ_exponent_2 : decode b_Q_exponent 2 = .ok (.iload_n 1, 1) := by decide +kernel
theorem dQ_exponent_3 : decode b_Q_exponent 3 = .ok (.isub, 1) := by decide +kernel
theorem dQ_exponent_4 : decode b_Q_exponent 4 = .ok (.bipush 6, 2) := by decide +kernel
theorem dQ_exponent_6 : decode b_Q_exponent 6 = .ok (.imul, 1) := by decide +kernel
theorem dQ_exponent_7 : decode b_Q_exponent 7 = .ok (.ishr, 1) := by decide +kernel
theorem dQ_exponent_8 : decode b_Q_exponent 8 = .ok (.bipush 63, 2) := by decide +kernel
theorem dQ_exponent_10 : decode b_Q_exponent 10 = .ok (.iand, 1) := by decide +kernel
theorem dQ_exponent_11 : decode b_Q_exponent 11 = .ok (.ireturn, 1) := by decide +kernel
theorem dF_reduced_0 : decode b_F_reduced 0 = .ok (.iload_n 1, 1) := by decide +kernel
theorem dF_reduced_1 : decode b_F_reduced 1 = .ok (.aload_n 0, 1) := by decide +kernel
theorem dF_reduced_2 : decode b_F_reduced 2 = .ok (.getfield 13, 3) := by decide +kernel
theorem dF_reduced_5 : decode b_F_reduced 5 = .ok (.invokestatic 28, 3) := by decide +kernel
theorem dF_reduced_8 : decode b_F_reduced 8 = .ok (.ireturn, 1) := by decide +kernel
theorem dJm_floorMod_0 : decode b_Jm_floorMod 0 = .ok (.iload_n 0, 1) := by decide +kernel
theorem dJm_floorMod_1 : decode b_Jm_floorMod 1 = .ok (.iload_n 1, 1) := by decide +kernel
theorem dJm_floorMod_2 : decode b_Jm_floorMod 2 = .ok (.irem, 1) := by decide +kernel
theorem dJm_floorMod_3 : decode b_Jm_floorMod 3 = .ok (.istore_n 2, 1) := by decide +kernel
theorem dJm_floorMod_4 : decode b_Jm_floorMod 4 = .ok (.iload_n 0, 1) := by decide +kernel
theorem dJm_floorMod_5 : decode b_Jm_floorMod 5 = .ok (.iload_n 1, 1) := by decide +kernel
theorem dJm_floorMod_6 : decode b_Jm_floorMod 6 = .ok (.ixor, 1) := by decide +kernel
theorem dJm_floorMod_7 : decode b_Jm_floorMod 7 = .ok (.ifCond .ge 11, 3) := by decide +kernel
theorem dJm_floorMod_10 : decode b_Jm_floorMod 10 = .ok (.iload_n 2, 1) := by decide +kernel
theorem dJm_floorMod_11 : decode b_Jm_floorMod 11 = .ok (.ifCond .eq 7, 3) := by decide +kernel
theorem dJm_floorMod_14 : decode b_Jm_floorMod 14 = .ok (.iload_n 2, 1) := by decide +kernel
theorem dJm_floorMod_15 : decode b_Jm_floorMod 15 = .ok (.iload_n 1, 1) := by decide +kernel
theorem dJm_floorMod_16 : decode b_Jm_floorMod 16 = .ok (.iadd, 1) := by decide +kernel
theorem dJm_floorMod_17 : decode b_Jm_floorMod 17 = .ok (.ireturn, 1) := by decide +kernel
theorem dJm_floorMod_18 : decode b_Jm_floorMod 18 = .ok (.iload_n 2, 1) := by decide +kernel
theorem dJm_floorMod_19 : decode b_Jm_floorMod 19 = .ok (.ireturn, 1) := by decide +kernel
theorem dP_becomeNumber_0 : decode b_P_becomeNumber 0 = .ok (.aload_n 0, 1) := by decide +kernel
theorem dP_becomeNumber_1 : decode b_P_becomeNumber 1 = .ok (.invokevirtual 26, 3) := by decide +kernel
theorem dP_becomeNumber_4 : decode b_P_becomeNumber 4 = .ok (.iload_n 1, 1) := by decide +kernel
theorem dP_becomeNumber_5 : decode b_P_becomeNumber 5 = .ok (.ifCond .eq 9, 3) := by decide +kernel
theorem dP_becomeNumber_8 : decode b_P_becomeNumber 8 = .ok (.aload_n 0, 1) := by decide +kernel
theorem dP_becomeNumber_9 : decode b_P_becomeNumber 9 = .ok (.iconst 0, 1) := by decide +kernel
theorem dP_becomeNumber_10 : decode b_P_becomeNumber 10 = .ok (.iload_n 1, 1) := by decide +kernel
theorem dP_becomeNumber_11 : decode b_P_becomeNumber 11 = .ok (.invokevirtual 31, 3) := by decide +kernel
theorem dP_becomeNumber_14 : decode b_P_becomeNumber 14 = .ok (.return_, 1) := by decide +kernel
theorem dP_clear_0 : decode b_P_clear 0 = .ok (.aload_n 0, 1) := by decide +kernel
theorem dP_clear_1 : decode b_P_clear 1 = .ok (.iconst 0, 1) := by decide +kernel
theorem dP_clear_2 : decode b_P_clear 2 = .ok (.putfield 16, 3) := by decide +kernel
theorem dP_clear_5 : decode b_P_clear 5 = .ok (.return_, 1) := by decide +kernel
theorem dP_append_0 : decode b_P_append 0 = .ok (.aload_n 0, 1) := by decide +kernel
theorem dP_append_1 : decode b_P_append 1 = .ok (.getfield 16, 3) := by decide +kernel
theorem dP_append_4 : decode b_P_append 4 = .ok (.aload_n 0, 1) := by decide +kernel
theorem dP_append_5 : decode b_P_append 5 = .ok (.getfield 9, 3) := by decide +kernel
theorem dP_append_8 : decode b_P_append 8 = .ok (.arraylength, 1) := by decide +kernel
theorem dP_append_9 : decode b_P_append 9 = .ok (.if_icmp .ne 37, 3) := by decide +kernel
theorem dP_append_12 : decode b_P_append 12 = .ok (.aload_n 0, 1) := by decide +kernel
theorem dP_append_13 : decode b_P_append 13 = .ok (.aload_n 0, 1) := by decide +kernel
theorem dP_append_14 : decode b_P_append 14 = .ok (.getfield 9, 3) := by decide +kernel
theorem dP_append_17 : decode b_P_append 17 = .ok (.iconst 2, 1) := by decide +kernel
theorem dP_append_18 : decode b_P_append 18 = .ok (.aload_n 0, 1) := by decide +kernel
theorem dP_append_19 : decode b_P_append 19 = .ok (.getfield 16, 3) := by decide +kernel
theorem dP_append_22 : decode b_P_append 22 = .ok (.imul, 1) := by decide +kernel
theorem dP_append_23 : decode b_P_append 23 = .ok (.invokestatic 20, 3) := by decide +kernel
theorem dP_append_26 : decode b_P_append 26 = .ok (.putfield 9, 3) := by decide +kernel
theorem dP_append_29 : decode b_P_append 29 = .ok (.aload_n 0, 1) := by decide +kernel
theorem dP_append_30 : decode b_P_append 30 = .ok (.aload_n 0, 1) := by decide +kernel
theorem dP_append_31 : decode b_P_append 31 = .ok (.getfield 13, 3) := by decide +kernel
theorem dP_append_34 : decode b_P_append 34 = .ok (.iconst 2, 1) := by decide +kernel
theorem dP_append_35 : decode b_P_append 35 = .ok (.aload_n 0, 1) := by decide +kernel
theorem dP_append_36 : decode b_P_append 36 = .ok (.getfield 16, 3) := by decide +kernel
theorem dP_append_39 : decode b_P_append 39 = .ok (.imul, 1) := by decide +kernel
theorem dP_append_40 : decode b_P_append 40 = .ok (.invokestatic 20, 3) := by decide +kernel
theorem dP_append_43 : decode b_P_append 43 = .ok (.putfield 13, 3) := by decide +kernel
theorem dP_append_46 : decode b_P_append 46 = .ok (.aload_n 0, 1) := by decide +kernel
theorem dP_append_47 : decode b_P_append 47 = .ok (.getfield 9, 3) := by decide +kernel
theorem dP_append_50 : decode b_P_append 50 = .ok (.aload_n 0, 1) := by decide +kernel
theorem dP_append_51 : decode b_P_append 51 = .ok (.getfield 16, 3) := by decide +kernel
theorem dP_append_54 : decode b_P_append 54 = .ok (.iload_n 1, 1) := by decide +kernel
theorem dP_append_55 : decode b_P_append 55 = .ok (.iastore, 1) := by decide +kernel
theorem dP_append_56 : decode b_P_append 56 = .ok (.aload_n 0, 1) := by decide +kernel
theorem dP_append_57 : decode b_P_append 57 = .ok (.getfield 13, 3) := by decide +kernel
theorem dP_append_60 : decode b_P_append 60 = .ok (.aload_n 0, 1) := by decide +kernel
theorem dP_append_61 : decode b_P_append 61 = .ok (.getfield 16, 3) := by decide +kernel
theorem dP_append_64 : decode b_P_append 64 = .ok (.iload_n 2, 1) := by decide +kernel
theorem dP_append_65 : decode b_P_append 65 = .ok (.iastore, 1) := by decide +kernel
theorem dP_append_66 : decode b_P_append 66 = .ok (.aload_n 0, 1) := by decide +kernel
theorem dP_append_67 : decode b_P_append 67 = .ok (.dup, 1) := by decide +kernel
theorem dP_append_68 : decode b_P_append 68 = .ok (.getfield 16, 3) := by decide +kernel
theorem dP_append_71 : decode b_P_append 71 = .ok (.iconst 1, 1) := by decide +kernel
theorem dP_append_72 : decode b_P_append 72 = .ok (.iadd, 1) := by decide +kernel
theorem dP_append_73 : decode b_P_append 73 = .ok (.putfield 16, 3) := by decide +kernel
theorem dP_append_76 : decode b_P_append 76 = .ok (.return_, 1) := by decide +kernel
theorem dJa_copyOf_0 : decode b_Ja_copyOf 0 = .ok (.iload_n 1, 1) := by decide +kernel
theorem dJa_copyOf_1 : decode b_Ja_copyOf 1 = .ok (.aload_n 0, 1) := by decide +kernel
theorem dJa_copyOf_2 : decode b_Ja_copyOf 2 = .ok (.arraylength, 1) := by decide +kernel
theorem dJa_copyOf_3 : decode b_Ja_copyOf 3 = .ok (.if_icmp .ne 11, 3) := by decide +kernel
theorem dJa_copyOf_6 : decode b_Ja_copyOf 6 = .ok (.aload_n 0, 1) := by decide +kernel
theorem dJa_copyOf_7 : decode b_Ja_copyOf 7 = .ok (.invokevirtual 316, 3) := by decide +kernel
theorem dJa_copyOf_10 : decode b_Ja_copyOf 10 = .ok (.checkcast 317, 3) := by decide +kernel
theorem dJa_copyOf_13 : decode b_Ja_copyOf 13 = .ok (.areturn, 1) := by decide +kernel
theorem dJa_copyOf_14 : decode b_Ja_copyOf 14 = .ok (.iload_n 1, 1) := by decide +kernel
theorem dJa_copyOf_15 : decode b_Ja_copyOf 15 = .ok (.newarray .int, 2) := by decide +kernel
theorem dJa_copyOf_17 : decode b_Ja_copyOf 17 = .ok (.astore_n 2, 1) := by decide +kernel
theorem dJa_copyOf_18 : decode b_Ja_copyOf 18 = .ok (.aload_n 0, 1) := by decide +kernel
theorem dJa_copyOf_19 : decode b_Ja_copyOf 19 = .ok (.iconst 0, 1) := by decide +kernel
theorem dJa_copyOf_20 : decode b_Ja_copyOf 20 = .ok (.aload_n 2, 1) := by decide +kernel
theorem dJa_copyOf_21 : decode b_Ja_copyOf 21 = .ok (.iconst 0, 1) := by decide +kernel
theorem dJa_copyOf_22 : decode b_Ja_copyOf 22 = .ok (.aload_n 0, 1) := by decide +kernel
theorem dJa_copyOf_23 : decode b_Ja_copyOf 23 = .ok (.arraylength, 1) := by decide +kernel
theorem dJa_copyOf_24 : decode b_Ja_copyOf 24 = .ok (.iload_n 1, 1) := by decide +kernel
theorem dJa_copyOf_25 : decode b_Ja_copyOf 25 = .ok (.invokestatic 304, 3) := by decide +kernel
theorem dJa_copyOf_28 : decode b_Ja_copyOf 28 = .ok (.invokestatic 150, 3) := by decide +kernel
theorem dJa_copyOf_31 : decode b_Ja_copyOf 31 = .ok (.aload_n 2, 1) := by decide +kernel
theorem dJa_copyOf_32 : decode b_Ja_copyOf 32 = .ok (.areturn, 1) := by decide +kernel
theorem dJm_min_0 : decode b_Jm_min 0 = .ok (.iload_n 0, 1) := by decide +kernel
theorem dJm_min_1 : decode b_Jm_min 1 = .ok (.iload_n 1, 1) := by decide +kernel
theorem dJm_min_2 : decode b_Jm_min 2 = .ok (.if_icmp .gt 7, 3) := by decide +kernel
theorem dJm_min_5 : decode b_Jm_min 5 = .ok (.iload_n 0, 1) := by decide +kernel
theorem dJm_min_6 : decode b_Jm_min 6 = .ok (.goto 4, 3) := by decide +kernel
theorem dJm_min_9 : decode b_Jm_min 9 = .ok (.iload_n 1, 1) := by decide +kernel
theorem dJm_min_10 : decode b_Jm_min 10 = .ok (.ireturn, 1) := by decide +kernel
theorem dQ_ofVariable_0 : decode b_Q_ofVariable 0 = .ok (.ldc 9, 2) := by decide +kernel
theorem dQ_ofVariable_2 : decode b_Q_ofVariable 2 = .ok (.iconst 1, 1) := by decide +kernel
theorem dQ_ofVariable_3 : decode b_Q_ofVariable 3 = .ok (.iconst 2, 1) := by decide +kernel
theorem dQ_ofVariable_4 : decode b_Q_ofVariable 4 = .ok (.iload_n 0, 1) := by decide +kernel
theorem dQ_ofVariable_5 : decode b_Q_ofVariable 5 = .ok (.isub, 1) := by decide +kernel
theorem dQ_ofVariable_6 : decode b_Q_ofVariable 6 = .ok (.bipush 6, 2) := by decide +kernel
theorem dQ_ofVariable_8 : decode b_Q_ofVariable 8 = .ok (.imul, 1) := by decide +kernel
theorem dQ_ofVariable_9 : decode b_Q_ofVariable 9 = .ok (.ishl, 1) := by decide +kernel
theorem dQ_ofVariable_10 : decode b_Q_ofVariable 10 = .ok (.ior, 1) := by decide +kernel
theorem dQ_ofVariable_11 : decode b_Q_ofVariable 11 = .ok (.ireturn, 1) := by decide +kernel
theorem dS_addMultiple_0 : decode b_S_addMultiple 0 = .ok (.iconst 0, 1) := by decide +kernel
theorem dS_addMultiple_1 : decode b_S_addMultiple 1 = .ok (.istore 4, 2) := by decide +kernel
theorem dS_addMultiple_3 : decode b_S_addMultiple 3 = .ok (.iload 4, 2) := by decide +kernel
theorem dS_addMultiple_5 : decode b_S_addMultiple 5 = .ok (.aload_n 1, 1) := by decide +kernel
theorem dS_addMultiple_6 : decode b_S_addMultiple 6 = .ok (.getfield 54, 3) := by decide +kernel
theorem dS_addMultiple_9 : decode b_S_addMultiple 9 = .ok (.if_icmp .ge 30, 3) := by decide +kernel
theorem dS_addMultiple_12 : decode b_S_addMultiple 12 = .ok (.aload_n 0, 1) := by decide +kernel
theorem dS_addMultiple_13 : decode b_S_addMultiple 13 = .ok (.aload_n 1, 1) := by decide +kernel
theorem dS_addMultiple_14 : decode b_S_addMultiple 14 = .ok (.getfield 59, 3) := by decide +kernel
theorem dS_addMultiple_17 : decode b_S_addMultiple 17 = .ok (.iload 4, 2) := by decide +kernel
theorem dS_addMultiple_19 : decode b_S_addMultiple 19 = .ok (.iaload, 1) := by decide +kernel
theorem dS_addMultiple_20 : decode b_S_addMultiple 20 = .ok (.iload_n 3, 1) := by decide +kernel
theorem dS_addMultiple_21 : decode b_S_addMultiple 21 = .ok (.iadd, 1) := by decide +kernel
theorem dS_addMultiple_22 : decode b_S_addMultiple 22 = .ok (.iload_n 2, 1) := by decide +kernel
theorem dS_addMultiple_23 : decode b_S_addMultiple 23 = .ok (.aload_n 1, 1) := by decide +kernel
theorem dS_addMultiple_24 : decode b_S_addMultiple 24 = .ok (.getfield 60, 3) := by decide +kernel
theorem dS_addMultiple_27 : decode b_S_addMultiple 27 = .ok (.iload 4, 2) := by decide +kernel
theorem dS_addMultiple_29 : decode b_S_addMultiple 29 = .ok (.iaload, 1) := by decide +kernel
theorem dS_addMultiple_30 : decode b_S_addMultiple 30 = .ok (.invokevirtual 63, 3) := by decide +kernel
theorem dS_addMultiple_33 : decode b_S_addMultiple 33 = .ok (.iinc 4 1, 3) := by decide +kernel
theorem dS_addMultiple_36 : decode b_S_addMultiple 36 = .ok (.goto (-33), 3) := by decide +kernel
theorem dS_addMultiple_39 : decode b_S_addMultiple 39 = .ok (.return_, 1) := by decide +kernel
theorem dS_addTerm_0 : decode b_S_addTerm 0 = .ok (.aload_n 0, 1) := by decide +kernel
theorem dS_addTerm_1 : decode b_S_addTerm 1 = .ok (.iload_n 1, 1) := by decide +kernel
theorem dS_addTerm_2 : decode b_S_addTerm 2 = .ok (.invokevirtual 37, 3) := by decide +kernel
theorem dS_addTerm_5 : decode b_S_addTerm 5 = .ok (.istore 4, 2) := by decide +kernel
theorem dS_addTerm_7 : decode b_S_addTerm 7 = .ok (.aload_n 0, 1) := by decide +kernel
theorem dS_addTerm_8 : decode b_S_addTerm 8 = .ok (.getfield 18, 3) := by decide +kernel
theorem dS_addTerm_11 : decode b_S_addTerm 11 = .ok (.iload 4, 2) := by decide +kernel
theorem dS_addTerm_13 : decode b_S_addTerm 13 = .ok (.aload_n 0, 1) := by decide +kernel
theorem dS_addTerm_14 : decode b_S_addTerm 14 = .ok (.getfield 21, 3) := by decide +kernel
theorem dS_addTerm_17 : decode b_S_addTerm 17 = .ok (.aload_n 0, 1) := by decide +kernel
theorem dS_addTerm_18 : decode b_S_addTerm 18 = .ok (.getfield 18, 3) := by decide +kernel
theorem dS_addTerm_21 : decode b_S_addTerm 21 = .ok (.iload 4, 2) := by decide +kernel
theorem dS_addTerm_23 : decode b_S_addTerm 23 = .ok (.iaload, 1) := by decide +kernel
theorem dS_addTerm_24 : decode b_S_addTerm 24 = .ok (.iload_n 2, 1) := by decide +kernel
theorem dS_addTerm_25 : decode b_S_addTerm 25 = .ok (.iload_n 3, 1) := by decide +kernel
theorem dS_addTerm_26 : decode b_S_addTerm 26 = .ok (.invokevirtual 40, 3) := by decide +kernel
theorem dS_addTerm_29 : decode b_S_addTerm 29 = .ok (.iastore, 1) := by decide +kernel
theorem dS_addTerm_30 : decode b_S_addTerm 30 = .ok (.aload_n 0, 1) := by decide +kernel
theorem dS_addTerm_31 : decode b_S_addTerm 31 = .ok (.aload_n 0, 1) := by decide +kernel
theorem dS_addTerm_32 : decode b_S_addTerm 32 = .ok (.getfield 45, 3) := by decide +kernel
theorem dS_addTerm_35 : decode b_S_addTerm 35 = .ok (.iload 4, 2) := by decide +kernel
theorem dS_addTerm_37 : decode b_S_addTerm 37 = .ok (.iconst 1, 1) := by decide +kernel
theorem dS_addTerm_38 : decode b_S_addTerm 38 = .ok (.iadd, 1) := by decide +kernel
theorem dS_addTerm_39 : decode b_S_addTerm 39 = .ok (.invokestatic 49, 3) := by decide +kernel
theorem dS_addTerm_42 : decode b_S_addTerm 42 = .ok (.putfield 45, 3) := by decide +kernel
theorem dS_addTerm_45 : decode b_S_addTerm 45 = .ok (.return_, 1) := by decide +kernel
theorem dS_rankOf_0 : decode b_S_rankOf 0 = .ok (.aload_n 0, 1) := by decide +kernel
theorem dS_rankOf_1 : decode b_S_rankOf 1 = .ok (.getfield 15, 3) := by decide +kernel
theorem dS_rankOf_4 : decode b_S_rankOf 4 = .ok (.iload_n 1, 1) := by decide +kernel
theorem dS_rankOf_5 : decode b_S_rankOf 5 = .ok (.invokestatic 29, 3) := by decide +kernel
theorem dS_rankOf_8 : decode b_S_rankOf 8 = .ok (.iaload, 1) := by decide +kernel
theorem dS_rankOf_9 : decode b_S_rankOf 9 = .ok (.iload_n 1, 1) := by decide +kernel
theorem dS_rankOf_10 : decode b_S_rankOf 10 = .ok (.iconst 1, 1) := by decide +kernel
theorem dS_rankOf_11 : decode b_S_rankOf 11 = .ok (.invokestatic 33, 3) := by decide +kernel
theorem dS_rankOf_14 : decode b_S_rankOf 14 = .ok (.iadd, 1) := by decide +kernel
theorem dS_rankOf_15 : decode b_S_rankOf 15 = .ok (.ireturn, 1) := by decide +kernel
theorem dQ_sumAndFirst_0 : decode b_Q_sumAndFirst 0 = .ok (.iload_n 0, 1) := by decide +kernel
theorem dQ_sumAndFirst_1 : decode b_Q_sumAndFirst 1 = .ok (.bipush 12, 2) := by decide +kernel
theorem dQ_sumAndFirst_3 : decode b_Q_sumAndFirst 3 = .ok (.ishr, 1) := by decide +kernel
theorem dQ_sumAndFirst_4 : decode b_Q_sumAndFirst 4 = .ok (.ireturn, 1) := by decide +kernel
theorem dF_sumWithProduct_0 : decode b_F_sumWithProduct 0 = .ok (.iload_n 1, 1) := by decide +kernel
theorem dF_sumWithProduct_1 : decode b_F_sumWithProduct 1 = .ok (.iload_n 2, 1) := by decide +kernel
theorem dF_sumWithProduct_2 : decode b_F_sumWithProduct 2 = .ok (.iload_n 3, 1) := by decide +kernel
theorem dF_sumWithProduct_3 : decode b_F_sumWithProduct 3 = .ok (.imul, 1) := by decide +kernel
theorem dF_sumWithProduct_4 : decode b_F_sumWithProduct 4 = .ok (.iadd, 1) := by decide +kernel
theorem dF_sumWithProduct_5 : decode b_F_sumWithProduct 5 = .ok (.aload_n 0, 1) := by decide +kernel
theorem dF_sumWithProduct_6 : decode b_F_sumWithProduct 6 = .ok (.getfield 13, 3) := by decide +kernel
theorem dF_sumWithProduct_9 : decode b_F_sumWithProduct 9 = .ok (.irem, 1) := by decide +kernel
theorem dF_sumWithProduct_10 : decode b_F_sumWithProduct 10 = .ok (.ireturn, 1) := by decide +kernel
theorem dS_moveTo_0 : decode b_S_moveTo 0 = .ok (.aload_n 1, 1) := by decide +kernel
theorem dS_moveTo_1 : decode b_S_moveTo 1 = .ok (.invokevirtual 74, 3) := by decide +kernel
theorem dS_moveTo_4 : decode b_S_moveTo 4 = .ok (.aload_n 0, 1) := by decide +kernel
theorem dS_moveTo_5 : decode b_S_moveTo 5 = .ok (.getfield 45, 3) := by decide +kernel
theorem dS_moveTo_8 : decode b_S_moveTo 8 = .ok (.iconst 1, 1) := by decide +kernel
theorem dS_moveTo_9 : decode b_S_moveTo 9 = .ok (.isub, 1) := by decide +kernel
theorem dS_moveTo_10 : decode b_S_moveTo 10 = .ok (.istore_n 2, 1) := by decide +kernel
theorem dS_moveTo_11 : decode b_S_moveTo 11 = .ok (.iload_n 2, 1) := by decide +kernel
theorem dS_moveTo_12 : decode b_S_moveTo 12 = .ok (.ifCond .lt 34, 3) := by decide +kernel
theorem dS_moveTo_15 : decode b_S_moveTo 15 = .ok (.aload_n 0, 1) := by decide +kernel
theorem dS_moveTo_16 : decode b_S_moveTo 16 = .ok (.getfield 18, 3) := by decide +kernel
theorem dS_moveTo_19 : decode b_S_moveTo 19 = .ok (.iload_n 2, 1) := by decide +kernel
theorem dS_moveTo_20 : decode b_S_moveTo 20 = .ok (.iaload, 1) := by decide +kernel
theorem dS_moveTo_21 : decode b_S_moveTo 21 = .ok (.ifCond .eq 19, 3) := by decide +kernel
theorem dS_moveTo_24 : decode b_S_moveTo 24 = .ok (.aload_n 1, 1) := by decide +kernel
theorem dS_moveTo_25 : decode b_S_moveTo 25 = .ok (.aload_n 0, 1) := by decide +kernel
theorem dS_moveTo_26 : decode b_S_moveTo 26 = .ok (.getfield 9, 3) := by decide +kernel
theorem dS_moveTo_29 : decode b_S_moveTo 29 = .ok (.iload_n 2, 1) := by decide +kernel
theorem dS_moveTo_30 : decode b_S_moveTo 30 = .ok (.iaload, 1) := by decide +kernel
theorem dS_moveTo_31 : decode b_S_moveTo 31 = .ok (.aload_n 0, 1) := by decide +kernel
theorem dS_moveTo_32 : decode b_S_moveTo 32 = .ok (.getfield 18, 3) := by decide +kernel
theorem dS_moveTo_35 : decode b_S_moveTo 35 = .ok (.iload_n 2, 1) := by decide +kernel
theorem dS_moveTo_36 : decode b_S_moveTo 36 = .ok (.iaload, 1) := by decide +kernel
theorem dS_moveTo_37 : decode b_S_moveTo 37 = .ok (.invokevirtual 87, 3) := by decide +kernel
theorem dS_moveTo_40 : decode b_S_moveTo 40 = .ok (.iinc 2 (-1), 3) := by decide +kernel
theorem dS_moveTo_43 : decode b_S_moveTo 43 = .ok (.goto (-32), 3) := by decide +kernel
theorem dS_moveTo_46 : decode b_S_moveTo 46 = .ok (.aload_n 0, 1) := by decide +kernel
theorem dS_moveTo_47 : decode b_S_moveTo 47 = .ok (.invokevirtual 94, 3) := by decide +kernel
theorem dS_moveTo_50 : decode b_S_moveTo 50 = .ok (.return_, 1) := by decide +kernel
theorem dS_clear_0 : decode b_S_clear 0 = .ok (.aload_n 0, 1) := by decide +kernel
theorem dS_clear_1 : decode b_S_clear 1 = .ok (.getfield 18, 3) := by decide +kernel
theorem dS_clear_4 : decode b_S_clear 4 = .ok (.iconst 0, 1) := by decide +kernel
theorem dS_clear_5 : decode b_S_clear 5 = .ok (.aload_n 0, 1) := by decide +kernel
theorem dS_clear_6 : decode b_S_clear 6 = .ok (.getfield 45, 3) := by decide +kernel
theorem dS_clear_9 : decode b_S_clear 9 = .ok (.iconst 0, 1) := by decide +kernel
theorem dS_clear_10 : decode b_S_clear 10 = .ok (.invokestatic 95, 3) := by decide +kernel
theorem dS_clear_13 : decode b_S_clear 13 = .ok (.aload_n 0, 1) := by decide +kernel
theorem dS_clear_14 : decode b_S_clear 14 = .ok (.iconst 0, 1) := by decide +kernel
theorem dS_clear_15 : decode b_S_clear 15 = .ok (.putfield 45, 3) := by decide +kernel
theorem dS_clear_18 : decode b_S_clear 18 = .ok (.return_, 1) := by decide +kernel
theorem dJa_fill_0 : decode b_Ja_fill 0 = .ok (.aload_n 0, 1) := by decide +kernel
theorem dJa_fill_1 : decode b_Ja_fill 1 = .ok (.arraylength, 1) := by decide +kernel
theorem dJa_fill_2 : decode b_Ja_fill 2 = .ok (.iload_n 1, 1) := by decide +kernel
theorem dJa_fill_3 : decode b_Ja_fill 3 = .ok (.iload_n 2, 1) := by decide +kernel
theorem dJa_fill_4 : decode b_Ja_fill 4 = .ok (.invokestatic 13, 3) := by decide +kernel
theorem dJa_fill_7 : decode b_Ja_fill 7 = .ok (.iload_n 1, 1) := by decide +kernel
theorem dJa_fill_8 : decode b_Ja_fill 8 = .ok (.istore 4, 2) := by decide +kernel
theorem dJa_fill_10 : decode b_Ja_fill 10 = .ok (.iload 4, 2) := by decide +kernel
theorem dJa_fill_12 : decode b_Ja_fill 12 = .ok (.iload_n 2, 1) := by decide +kernel
theorem dJa_fill_13 : decode b_Ja_fill 13 = .ok (.if_icmp .ge 14, 3) := by decide +kernel
theorem dJa_fill_16 : decode b_Ja_fill 16 = .ok (.aload_n 0, 1) := by decide +kernel
theorem dJa_fill_17 : decode b_Ja_fill 17 = .ok (.iload 4, 2) := by decide +kernel
theorem dJa_fill_19 : decode b_Ja_fill 19 = .ok (.iload_n 3, 1) := by decide +kernel
theorem dJa_fill_20 : decode b_Ja_fill 20 = .ok (.iastore, 1) := by decide +kernel
theorem dJa_fill_21 : decode b_Ja_fill 21 = .ok (.iinc 4 1, 3) := by decide +kernel
theorem dJa_fill_24 : decode b_Ja_fill 24 = .ok (.goto (-14), 3) := by decide +kernel
theorem dJa_fill_27 : decode b_Ja_fill 27 = .ok (.return_, 1) := by decide +kernel
theorem dJa_rangeCheck_0 : decode b_Ja_rangeCheck 0 = .ok (.iload_n 1, 1) := by decide +kernel
theorem dJa_rangeCheck_1 : decode b_Ja_rangeCheck 1 = .ok (.iload_n 2, 1) := by decide +kernel
theorem dJa_rangeCheck_2 : decode b_Ja_rangeCheck 2 = .ok (.if_icmp .le 44, 3) := by decide +kernel
theorem dJa_rangeCheck_5 : decode b_Ja_rangeCheck 5 = .ok (.new 43, 3) := by decide +kernel
theorem dJa_rangeCheck_8 : decode b_Ja_rangeCheck 8 = .ok (.dup, 1) := by decide +kernel
theorem dJa_rangeCheck_9 : decode b_Ja_rangeCheck 9 = .ok (.new 45, 3) := by decide +kernel
theorem dJa_rangeCheck_12 : decode b_Ja_rangeCheck 12 = .ok (.dup, 1) := by decide +kernel
theorem dJa_rangeCheck_13 : decode b_Ja_rangeCheck 13 = .ok (.invokespecial 47, 3) := by decide +kernel
theorem dJa_rangeCheck_16 : decode b_Ja_rangeCheck 16 = .ok (.ldc 48, 2) := by decide +kernel
theorem dJa_rangeCheck_18 : decode b_Ja_rangeCheck 18 = .ok (.invokevirtual 50, 3) := by decide +kernel
theorem dJa_rangeCheck_21 : decode b_Ja_rangeCheck 21 = .ok (.iload_n 1, 1) := by decide +kernel
theorem dJa_rangeCheck_22 : decode b_Ja_rangeCheck 22 = .ok (.invokevirtual 54, 3) := by decide +kernel
theorem dJa_rangeCheck_25 : decode b_Ja_rangeCheck 25 = .ok (.ldc 57, 2) := by decide +kernel
theorem dJa_rangeCheck_27 : decode b_Ja_rangeCheck 27 = .ok (.invokevirtual 50, 3) := by decide +kernel
theorem dJa_rangeCheck_30 : decode b_Ja_rangeCheck 30 = .ok (.iload_n 2, 1) := by decide +kernel
theorem dJa_rangeCheck_31 : decode b_Ja_rangeCheck 31 = .ok (.invokevirtual 54, 3) := by decide +kernel
theorem dJa_rangeCheck_34 : decode b_Ja_rangeCheck 34 = .ok (.ldc 59, 2) := by decide +kernel
theorem dJa_rangeCheck_36 : decode b_Ja_rangeCheck 36 = .ok (.invokevirtual 50, 3) := by decide +kernel
theorem dJa_rangeCheck_39 : decode b_Ja_rangeCheck 39 = .ok (.invokevirtual 61, 3) := by decide +kernel
theorem dJa_rangeCheck_42 : decode b_Ja_rangeCheck 42 = .ok (.invokespecial 65, 3) := by decide +kernel
theorem dJa_rangeCheck_45 : decode b_Ja_rangeCheck 45 = .ok (.athrow, 1) := by decide +kernel
theorem dJa_rangeCheck_46 : decode b_Ja_rangeCheck 46 = .ok (.iload_n 1, 1) := by decide +kernel
theorem dJa_rangeCheck_47 : decode b_Ja_rangeCheck 47 = .ok (.ifCond .ge 12, 3) := by decide +kernel
theorem dJa_rangeCheck_50 : decode b_Ja_rangeCheck 50 = .ok (.new 68, 3) := by decide +kernel
theorem dJa_rangeCheck_53 : decode b_Ja_rangeCheck 53 = .ok (.dup, 1) := by decide +kernel
theorem dJa_rangeCheck_54 : decode b_Ja_rangeCheck 54 = .ok (.iload_n 1, 1) := by decide +kernel
theorem dJa_rangeCheck_55 : decode b_Ja_rangeCheck 55 = .ok (.invokespecial 70, 3) := by decide +kernel
theorem dJa_rangeCheck_58 : decode b_Ja_rangeCheck 58 = .ok (.athrow, 1) := by decide +kernel
theorem dJa_rangeCheck_59 : decode b_Ja_rangeCheck 59 = .ok (.iload_n 2, 1) := by decide +kernel
theorem dJa_rangeCheck_60 : decode b_Ja_rangeCheck 60 = .ok (.iload_n 0, 1) := by decide +kernel
theorem dJa_rangeCheck_61 : decode b_Ja_rangeCheck 61 = .ok (.if_icmp .le 12, 3) := by decide +kernel
theorem dJa_rangeCheck_64 : decode b_Ja_rangeCheck 64 = .ok (.new 68, 3) := by decide +kernel
theorem dJa_rangeCheck_67 : decode b_Ja_rangeCheck 67 = .ok (.dup, 1) := by decide +kernel
theorem dJa_rangeCheck_68 : decode b_Ja_rangeCheck 68 = .ok (.iload_n 2, 1) := by decide +kernel
theorem dJa_rangeCheck_69 : decode b_Ja_rangeCheck 69 = .ok (.invokespecial 70, 3) := by decide +kernel
theorem dJa_rangeCheck_72 : decode b_Ja_rangeCheck 72 = .ok (.athrow, 1) := by decide +kernel
theorem dJa_rangeCheck_73 : decode b_Ja_rangeCheck 73 = .ok (.return_, 1) := by decide +kernel
theorem dS_addProduct_0 : decode b_S_addProduct 0 = .ok (.iconst 0, 1) := by decide +kernel
theorem dS_addProduct_1 : decode b_S_addProduct 1 = .ok (.istore_n 3, 1) := by decide +kernel
theorem dS_addProduct_2 : decode b_S_addProduct 2 = .ok (.iload_n 3, 1) := by decide +kernel
theorem dS_addProduct_3 : decode b_S_addProduct 3 = .ok (.aload_n 1, 1) := by decide +kernel
theorem dS_addProduct_4 : decode b_S_addProduct 4 = .ok (.getfield 54, 3) := by decide +kernel
theorem dS_addProduct_7 : decode b_S_addProduct 7 = .ok (.if_icmp .ge 26, 3) := by decide +kernel
theorem dS_addProduct_10 : decode b_S_addProduct 10 = .ok (.aload_n 0, 1) := by decide +kernel
theorem dS_addProduct_11 : decode b_S_addProduct 11 = .ok (.aload_n 2, 1) := by decide +kernel
theorem dS_addProduct_12 : decode b_S_addProduct 12 = .ok (.aload_n 1, 1) := by decide +kernel
theorem dS_addProduct_13 : decode b_S_addProduct 13 = .ok (.getfield 60, 3) := by decide +kernel
theorem dS_addProduct_16 : decode b_S_addProduct 16 = .ok (.iload_n 3, 1) := by decide +kernel
theorem dS_addProduct_17 : decode b_S_addProduct 17 = .ok (.iaload, 1) := by decide +kernel
theorem dS_addProduct_18 : decode b_S_addProduct 18 = .ok (.aload_n 1, 1) := by decide +kernel
theorem dS_addProduct_19 : decode b_S_addProduct 19 = .ok (.getfield 59, 3) := by decide +kernel
theorem dS_addProduct_22 : decode b_S_addProduct 22 = .ok (.iload_n 3, 1) := by decide +kernel
theorem dS_addProduct_23 : decode b_S_addProduct 23 = .ok (.iaload, 1) := by decide +kernel
theorem dS_addProduct_24 : decode b_S_addProduct 24 = .ok (.invokevirtual 67, 3) := by decide +kernel
theorem dS_addProduct_27 : decode b_S_addProduct 27 = .ok (.iinc 3 1, 3) := by decide +kernel
theorem dS_addProduct_30 : decode b_S_addProduct 30 = .ok (.goto (-28), 3) := by decide +kernel
theorem dS_addProduct_33 : decode b_S_addProduct 33 = .ok (.return_, 1) := by decide +kernel
theorem dS_divideBy_0 : decode b_S_divideBy 0 = .ok (.aload_n 2, 1) := by decide +kernel
theorem dS_divideBy_1 : decode b_S_divideBy 1 = .ok (.invokevirtual 74, 3) := by decide +kernel
theorem dS_divideBy_4 : decode b_S_divideBy 4 = .ok (.aload_n 1, 1) := by decide +kernel
theorem dS_divideBy_5 : decode b_S_divideBy 5 = .ok (.getfield 59, 3) := by decide +kernel
theorem dS_divideBy_8 : decode b_S_divideBy 8 = .ok (.iconst 0, 1) := by decide +kernel
theorem dS_divideBy_9 : decode b_S_divideBy 9 = .ok (.iaload, 1) := by decide +kernel
theorem dS_divideBy_10 : decode b_S_divideBy 10 = .ok (.istore_n 3, 1) := by decide +kernel
theorem dS_divideBy_11 : decode b_S_divideBy 11 = .ok (.aload_n 0, 1) := by decide +kernel
theorem dS_divideBy_12 : decode b_S_divideBy 12 = .ok (.getfield 21, 3) := by decide +kernel
theorem dS_divideBy_15 : decode b_S_divideBy 15 = .ok (.aload_n 1, 1) := by decide +kernel
theorem dS_divideBy_16 : decode b_S_divideBy 16 = .ok (.getfield 60, 3) := by decide +kernel
theorem dS_divideBy_19 : decode b_S_divideBy 19 = .ok (.iconst 0, 1) := by decide +kernel
theorem dS_divideBy_20 : decode b_S_divideBy 20 = .ok (.iaload, 1) := by decide +kernel
theorem dS_divideBy_21 : decode b_S_divideBy 21 = .ok (.invokevirtual 77, 3) := by decide +kernel
theorem dS_divideBy_24 : decode b_S_divideBy 24 = .ok (.istore 4, 2) := by decide +kernel
theorem dS_divideBy_26 : decode b_S_divideBy 26 = .ok (.aload_n 0, 1) := by decide +kernel
theorem dS_divideBy_27 : decode b_S_divideBy 27 = .ok (.getfield 45, 3) := by decide +kernel
theorem dS_divideBy_30 : decode b_S_divideBy 30 = .ok (.iconst 1, 1) := by decide +kernel
theorem dS_divideBy_31 : decode b_S_divideBy 31 = .ok (.isub, 1) := by decide +kernel
theorem dS_divideBy_32 : decode b_S_divideBy 32 = .ok (.istore 5, 2) := by decide +kernel
theorem dS_divideBy_34 : decode b_S_divideBy 34 = .ok (.iload 5, 2) := by decide +kernel
theorem dS_divideBy_36 : decode b_S_divideBy 36 = .ok (.ifCond .lt 86, 3) := by decide +kernel
theorem dS_divideBy_39 : decode b_S_divideBy 39 = .ok (.aload_n 0, 1) := by decide +kernel
theorem dS_divideBy_40 : decode b_S_divideBy 40 = .ok (.getfield 18, 3) := by decide +kernel
theorem dS_divideBy_43 : decode b_S_divideBy 43 = .ok (.iload 5, 2) := by decide +kernel
theorem dS_divideBy_45 : decode b_S_divideBy 45 = .ok (.iaload, 1) := by decide +kernel
theorem dS_divideBy_46 : decode b_S_divideBy 46 = .ok (.ifCond .eq 70, 3) := by decide +kernel
theorem dS_divideBy_49 : decode b_S_divideBy 49 = .ok (.aload_n 0, 1) := by decide +kernel
theorem dS_divideBy_50 : decode b_S_divideBy 50 = .ok (.getfield 9, 3) := by decide +kernel
theorem dS_divideBy_53 : decode b_S_divideBy 53 = .ok (.iload 5, 2) := by decide +kernel
theorem dS_divideBy_55 : decode b_S_divideBy 55 = .ok (.iaload, 1) := by decide +kernel
theorem dS_divideBy_56 : decode b_S_divideBy 56 = .ok (.iload_n 3, 1) := by decide +kernel
theorem dS_divideBy_57 : decode b_S_divideBy 57 = .ok (.invokestatic 80, 3) := by decide +kernel
theorem dS_divideBy_60 : decode b_S_divideBy 60 = .ok (.ifCond .eq 56, 3) := by decide +kernel
theorem dS_divideBy_63 : decode b_S_divideBy 63 = .ok (.aload_n 0, 1) := by decide +kernel
theorem dS_divideBy_64 : decode b_S_divideBy 64 = .ok (.getfield 9, 3) := by decide +kernel
theorem dS_divideBy_67 : decode b_S_divideBy 67 = .ok (.iload 5, 2) := by decide +kernel
theorem dS_divideBy_69 : decode b_S_divideBy 69 = .ok (.iaload, 1) := by decide +kernel
theorem dS_divideBy_70 : decode b_S_divideBy 70 = .ok (.iload_n 3, 1) := by decide +kernel
theorem dS_divideBy_71 : decode b_S_divideBy 71 = .ok (.isub, 1) := by decide +kernel
theorem dS_divideBy_72 : decode b_S_divideBy 72 = .ok (.istore 6, 2) := by decide +kernel
theorem dS_divideBy_74 : decode b_S_divideBy 74 = .ok (.aload_n 0, 1) := by decide +kernel
theorem dS_divideBy_75 : decode b_S_divideBy 75 = .ok (.getfield 21, 3) := by decide +kernel
theorem dS_divideBy_78 : decode b_S_divideBy 78 = .ok (.aload_n 0, 1) := by decide +kernel
theorem dS_divideBy_79 : decode b_S_divideBy 79 = .ok (.getfield 18, 3) := by decide +kernel
theorem dS_divideBy_82 : decode b_S_divideBy 82 = .ok (.iload 5, 2) := by decide +kernel
theorem dS_divideBy_84 : decode b_S_divideBy 84 = .ok (.iaload, 1) := by decide +kernel
theorem dS_divideBy_85 : decode b_S_divideBy 85 = .ok (.iload 4, 2) := by decide +kernel
theorem dS_divideBy_87 : decode b_S_divideBy 87 = .ok (.invokevirtual 84, 3) := by decide +kernel
theorem dS_divideBy_90 : decode b_S_divideBy 90 = .ok (.istore 7, 2) := by decide +kernel
theorem dS_divideBy_92 : decode b_S_divideBy 92 = .ok (.aload_n 2, 1) := by decide +kernel
theorem dS_divideBy_93 : decode b_S_divideBy 93 = .ok (.iload 6, 2) := by decide +kernel
theorem dS_divideBy_95 : decode b_S_divideBy 95 = .ok (.iload 7, 2) := by decide +kernel
theorem dS_divideBy_97 : decode b_S_divideBy 97 = .ok (.invokevirtual 87, 3) := by decide +kernel
theorem dS_divideBy_100 : decode b_S_divideBy 100 = .ok (.aload_n 0, 1) := by decide +kernel
theorem dS_divideBy_101 : decode b_S_divideBy 101 = .ok (.aload_n 1, 1) := by decide +kernel
theorem dS_divideBy_102 : decode b_S_divideBy 102 = .ok (.aload_n 0, 1) := by decide +kernel
theorem dS_divideBy_103 : decode b_S_divideBy 103 = .ok (.getfield 21, 3) := by decide +kernel
theorem dS_divideBy_106 : decode b_S_divideBy 106 = .ok (.iload 7, 2) := by decide +kernel
theorem dS_divideBy_108 : decode b_S_divideBy 108 = .ok (.invokevirtual 91, 3) := by decide +kernel
theorem dS_divideBy_111 : decode b_S_divideBy 111 = .ok (.iload 6, 2) := by decide +kernel
theorem dS_divideBy_113 : decode b_S_divideBy 113 = .ok (.invokevirtual 67, 3) := by decide +kernel
theorem dS_divideBy_116 : decode b_S_divideBy 116 = .ok (.iinc 5 (-1), 3) := by decide +kernel
theorem dS_divideBy_119 : decode b_S_divideBy 119 = .ok (.goto (-85), 3) := by decide +kernel
theorem dS_divideBy_122 : decode b_S_divideBy 122 = .ok (.return_, 1) := by decide +kernel
theorem dF_inverse_0 : decode b_F_inverse 0 = .ok (.iconst 1, 1) := by decide +kernel
theorem dF_inverse_1 : decode b_F_inverse 1 = .ok (.istore_n 2, 1) := by decide +kernel
theorem dF_inverse_2 : decode b_F_inverse 2 = .ok (.iload_n 1, 1) := by decide +kernel
theorem dF_inverse_3 : decode b_F_inverse 3 = .ok (.istore_n 3, 1) := by decide +kernel
theorem dF_inverse_4 : decode b_F_inverse 4 = .ok (.aload_n 0, 1) := by decide +kernel
theorem dF_inverse_5 : decode b_F_inverse 5 = .ok (.getfield 13, 3) := by decide +kernel
theorem dF_inverse_8 : decode b_F_inverse 8 = .ok (.iconst 2, 1) := by decide +kernel
theorem dF_inverse_9 : decode b_F_inverse 9 = .ok (.isub, 1) := by decide +kernel
theorem dF_inverse_10 : decode b_F_inverse 10 = .ok (.istore 4, 2) := by decide +kernel
theorem dF_inverse_12 : decode b_F_inverse 12 = .ok (.iload 4, 2) := by decide +kernel
theorem dF_inverse_14 : decode b_F_inverse 14 = .ok (.ifCond .le 33, 3) := by decide +kernel
theorem dF_inverse_17 : decode b_F_inverse 17 = .ok (.iload 4, 2) := by decide +kernel
theorem dF_inverse_19 : decode b_F_inverse 19 = .ok (.iconst 1, 1) := by decide +kernel
theorem dF_inverse_20 : decode b_F_inverse 20 = .ok (.iand, 1) := by decide +kernel
theorem dF_inverse_21 : decode b_F_inverse 21 = .ok (.ifCond .eq 10, 3) := by decide +kernel
theorem dF_inverse_24 : decode b_F_inverse 24 = .ok (.aload_n 0, 1) := by decide +kernel
theorem dF_inverse_25 : decode b_F_inverse 25 = .ok (.iload_n 2, 1) := by decide +kernel
theorem dF_inverse_26 : decode b_F_inverse 26 = .ok (.iload_n 3, 1) := by decide +kernel
theorem dF_inverse_27 : decode b_F_inverse 27 = .ok (.invokevirtual 31, 3) := by decide +kernel
theorem dF_inverse_30 : decode b_F_inverse 30 = .ok (.istore_n 2, 1) := by decide +kernel
theorem dF_inverse_31 : decode b_F_inverse 31 = .ok (.aload_n 0, 1) := by decide +kernel
theorem dF_inverse_32 : decode b_F_inverse 32 = .ok (.iload_n 3, 1) := by decide +kernel
theorem dF_inverse_33 : decode b_F_inverse 33 = .ok (.iload_n 3, 1) := by decide +kernel
theorem dF_inverse_34 : decode b_F_inverse 34 = .ok (.invokevirtual 31, 3) := by decide +kernel
theorem dF_inverse_37 : decode b_F_inverse 37 = .ok (.istore_n 3, 1) := by decide +kernel
theorem dF_inverse_38 : decode b_F_inverse 38 = .ok (.iload 4, 2) := by decide +kernel
theorem dF_inverse_40 : decode b_F_inverse 40 = .ok (.iconst 1, 1) := by decide +kernel
theorem dF_inverse_41 : decode b_F_inverse 41 = .ok (.ishr, 1) := by decide +kernel
theorem dF_inverse_42 : decode b_F_inverse 42 = .ok (.istore 4, 2) := by decide +kernel
theorem dF_inverse_44 : decode b_F_inverse 44 = .ok (.goto (-32), 3) := by decide +kernel
theorem dF_inverse_47 : decode b_F_inverse 47 = .ok (.iload_n 2, 1) := by decide +kernel
theorem dF_inverse_48 : decode b_F_inverse 48 = .ok (.ireturn, 1) := by decide +kernel
theorem dF_product_0 : decode b_F_product 0 = .ok (.iload_n 1, 1) := by decide +kernel
theorem dF_product_1 : decode b_F_product 1 = .ok (.iload_n 2, 1) := by decide +kernel
theorem dF_product_2 : decode b_F_product 2 = .ok (.imul, 1) := by decide +kernel
theorem dF_product_3 : decode b_F_product 3 = .ok (.aload_n 0, 1) := by decide +kernel
theorem dF_product_4 : decode b_F_product 4 = .ok (.getfield 13, 3) := by decide +kernel
theorem dF_product_7 : decode b_F_product 7 = .ok (.irem, 1) := by decide +kernel
theorem dF_product_8 : decode b_F_product 8 = .ok (.ireturn, 1) := by decide +kernel
theorem dQ_isMultiple_0 : decode b_Q_isMultiple 0 = .ok (.iload_n 0, 1) := by decide +kernel
theorem dQ_isMultiple_1 : decode b_Q_isMultiple 1 = .ok (.iconst 0, 1) := by decide +kernel
theorem dQ_isMultiple_2 : decode b_Q_isMultiple 2 = .ok (.invokestatic 10, 3) := by decide +kernel
theorem dQ_isMultiple_5 : decode b_Q_isMultiple 5 = .ok (.iload_n 1, 1) := by decide +kernel
theorem dQ_isMultiple_6 : decode b_Q_isMultiple 6 = .ok (.iconst 0, 1) := by decide +kernel
theorem dQ_isMultiple_7 : decode b_Q_isMultiple 7 = .ok (.invokestatic 10, 3) := by decide +kernel
theorem dQ_isMultiple_10 : decode b_Q_isMultiple 10 = .ok (.if_icmp .lt 33, 3) := by decide +kernel
theorem dQ_isMultiple_13 : decode b_Q_isMultiple 13 = .ok (.iload_n 0, 1) := by decide +kernel
theorem dQ_isMultiple_14 : decode b_Q_isMultiple 14 = .ok (.iconst 1, 1) := by decide +kernel
theorem dQ_isMultiple_15 : decode b_Q_isMultiple 15 = .ok (.invokestatic 10, 3) := by decide +kernel
theorem dQ_isMultiple_18 : decode b_Q_isMultiple 18 = .ok (.iload_n 1, 1) := by decide +kernel
theorem dQ_isMultiple_19 : decode b_Q_isMultiple 19 = .ok (.iconst 1, 1) := by decide +kernel
theorem dQ_isMultiple_20 : decode b_Q_isMultiple 20 = .ok (.invokestatic 10, 3) := by decide +kernel
theorem dQ_isMultiple_23 : decode b_Q_isMultiple 23 = .ok (.if_icmp .lt 20, 3) := by decide +kernel
theorem dQ_isMultiple_26 : decode b_Q_isMultiple 26 = .ok (.iload_n 0, 1) := by decide +kernel
theorem dQ_isMultiple_27 : decode b_Q_isMultiple 27 = .ok (.iconst 2, 1) := by decide +kernel
theorem dQ_isMultiple_28 : decode b_Q_isMultiple 28 = .ok (.invokestatic 10, 3) := by decide +kernel
theorem dQ_isMultiple_31 : decode b_Q_isMultiple 31 = .ok (.iload_n 1, 1) := by decide +kernel
theorem dQ_isMultiple_32 : decode b_Q_isMultiple 32 = .ok (.iconst 2, 1) := by decide +kernel
theorem dQ_isMultiple_33 : decode b_Q_isMultiple 33 = .ok (.invokestatic 10, 3) := by decide +kernel
theorem dQ_isMultiple_36 : decode b_Q_isMultiple 36 = .ok (.if_icmp .lt 7, 3) := by decide +kernel
theorem dQ_isMultiple_39 : decode b_Q_isMultiple 39 = .ok (.iconst 1, 1) := by decide +kernel
theorem dQ_isMultiple_40 : decode b_Q_isMultiple 40 = .ok (.goto 4, 3) := by decide +kernel
theorem dQ_isMultiple_43 : decode b_Q_isMultiple 43 = .ok (.iconst 0, 1) := by decide +kernel
theorem dQ_isMultiple_44 : decode b_Q_isMultiple 44 = .ok (.ireturn, 1) := by decide +kernel
theorem dF_negative_0 : decode b_F_negative 0 = .ok (.iload_n 1, 1) := by decide +kernel
theorem dF_negative_1 : decode b_F_negative 1 = .ok (.ifCond .ne 7, 3) := by decide +kernel
theorem dF_negative_4 : decode b_F_negative 4 = .ok (.iconst 0, 1) := by decide +kernel
theorem dF_negative_5 : decode b_F_negative 5 = .ok (.goto 9, 3) := by decide +kernel
theorem dF_negative_8 : decode b_F_negative 8 = .ok (.aload_n 0, 1) := by decide +kernel
theorem dF_negative_9 : decode b_F_negative 9 = .ok (.getfield 13, 3) := by decide +kernel
theorem dF_negative_12 : decode b_F_negative 12 = .ok (.iload_n 1, 1) := by decide +kernel
theorem dF_negative_13 : decode b_F_negative 13 = .ok (.isub, 1) := by decide +kernel
theorem dF_negative_14 : decode b_F_negative 14 = .ok (.ireturn, 1) := by decide +kernel
theorem dS_addCoefficientOf_0 : decode b_S_addCoefficientOf 0 = .ok (.iconst 0, 1) := by decide +kernel
theorem dS_addCoefficientOf_1 : decode b_S_addCoefficientOf 1 = .ok (.istore 4, 2) := by decide +kernel
theorem dS_addCoefficientOf_3 : decode b_S_addCoefficientOf 3 = .ok (.iload 4, 2) := by decide +kernel
theorem dS_addCoefficientOf_5 : decode b_S_addCoefficientOf 5 = .ok (.aload_n 1, 1) := by decide +kernel
theorem dS_addCoefficientOf_6 : decode b_S_addCoefficientOf 6 = .ok (.getfield 54, 3) := by decide +kernel
theorem dS_addCoefficientOf_9 : decode b_S_addCoefficientOf 9 = .ok (.if_icmp .ge 46, 3) := by decide +kernel
theorem dS_addCoefficientOf_12 : decode b_S_addCoefficientOf 12 = .ok (.aload_n 1, 1) := by decide +kernel
theorem dS_addCoefficientOf_13 : decode b_S_addCoefficientOf 13 = .ok (.getfield 59, 3) := by decide +kernel
theorem dS_addCoefficientOf_16 : decode b_S_addCoefficientOf 16 = .ok (.iload 4, 2) := by decide +kernel
theorem dS_addCoefficientOf_18 : decode b_S_addCoefficientOf 18 = .ok (.iaload, 1) := by decide +kernel
theorem dS_addCoefficientOf_19 : decode b_S_addCoefficientOf 19 = .ok (.istore 5, 2) := by decide +kernel
theorem dS_addCoefficientOf_21 : decode b_S_addCoefficientOf 21 = .ok (.iload 5, 2) := by decide +kernel
theorem dS_addCoefficientOf_23 : decode b_S_addCoefficientOf 23 = .ok (.iload_n 2, 1) := by decide +kernel
theorem dS_addCoefficientOf_24 : decode b_S_addCoefficientOf 24 = .ok (.invokestatic 33, 3) := by decide +kernel
theorem dS_addCoefficientOf_27 : decode b_S_addCoefficientOf 27 = .ok (.iload_n 3, 1) := by decide +kernel
theorem dS_addCoefficientOf_28 : decode b_S_addCoefficientOf 28 = .ok (.if_icmp .ne 21, 3) := by decide +kernel
theorem dS_addCoefficientOf_31 : decode b_S_addCoefficientOf 31 = .ok (.aload_n 0, 1) := by decide +kernel
theorem dS_addCoefficientOf_32 : decode b_S_addCoefficientOf 32 = .ok (.iload 5, 2) := by decide +kernel
theorem dS_addCoefficientOf_34 : decode b_S_addCoefficientOf 34 = .ok (.iload_n 2, 1) := by decide +kernel
theorem dS_addCoefficientOf_35 : decode b_S_addCoefficientOf 35 = .ok (.invokestatic 71, 3) := by decide +kernel
theorem dS_addCoefficientOf_38 : decode b_S_addCoefficientOf 38 = .ok (.iconst 1, 1) := by decide +kernel
theorem dS_addCoefficientOf_39 : decode b_S_addCoefficientOf 39 = .ok (.aload_n 1, 1) := by decide +kernel
theorem dS_addCoefficientOf_40 : decode b_S_addCoefficientOf 40 = .ok (.getfield 60, 3) := by decide +kernel
theorem dS_addCoefficientOf_43 : decode b_S_addCoefficientOf 43 = .ok (.iload 4, 2) := by decide +kernel
theorem dS_addCoefficientOf_45 : decode b_S_addCoefficientOf 45 = .ok (.iaload, 1) := by decide +kernel
theorem dS_addCoefficientOf_46 : decode b_S_addCoefficientOf 46 = .ok (.invokevirtual 63, 3) := by decide +kernel
theorem dS_addCoefficientOf_49 : decode b_S_addCoefficientOf 49 = .ok (.iinc 4 1, 3) := by decide +kernel
theorem dS_addCoefficientOf_52 : decode b_S_addCoefficientOf 52 = .ok (.goto (-49), 3) := by decide +kernel
theorem dS_addCoefficientOf_55 : decode b_S_addCoefficientOf 55 = .ok (.return_, 1) := by decide +kernel
theorem dQ_without_0 : decode b_Q_without 0 = .ok (.iload_n 0, 1) := by decide +kernel
theorem dQ_without_1 : decode b_Q_without 1 = .ok (.iload_n 0, 1) := by decide +kernel
theorem dQ_without_2 : decode b_Q_without 2 = .ok (.iload_n 1, 1) := by decide +kernel
theorem dQ_without_3 : decode b_Q_without 3 = .ok (.invokestatic 10, 3) := by decide +kernel
theorem dQ_without_6 : decode b_Q_without 6 = .ok (.iload_n 1, 1) := by decide +kernel
theorem dQ_without_7 : decode b_Q_without 7 = .ok (.invokestatic 14, 3) := by decide +kernel
theorem dQ_without_10 : decode b_Q_without 10 = .ok (.imul, 1) := by decide +kernel
theorem dQ_without_11 : decode b_Q_without 11 = .ok (.isub, 1) := by decide +kernel
theorem dQ_without_12 : decode b_Q_without 12 = .ok (.ireturn, 1) := by decide +kernel
theorem dJi_bitCount_0 : decode b_Ji_bitCount 0 = .ok (.iload_n 0, 1) := by decide +kernel
theorem dJi_bitCount_1 : decode b_Ji_bitCount 1 = .ok (.iload_n 0, 1) := by decide +kernel
theorem dJi_bitCount_2 : decode b_Ji_bitCount 2 = .ok (.iconst 1, 1) := by decide +kernel
theorem dJi_bitCount_3 : decode b_Ji_bitCount 3 = .ok (.iushr, 1) := by decide +kernel
theorem dJi_bitCount_4 : decode b_Ji_bitCount 4 = .ok (.ldc_w 265, 3) := by decide +kernel
theorem dJi_bitCount_7 : decode b_Ji_bitCount 7 = .ok (.iand, 1) := by decide +kernel
theorem dJi_bitCount_8 : decode b_Ji_bitCount 8 = .ok (.isub, 1) := by decide +kernel
theorem dJi_bitCount_9 : decode b_Ji_bitCount 9 = .ok (.istore_n 0, 1) := by decide +kernel
theorem dJi_bitCount_10 : decode b_Ji_bitCount 10 = .ok (.iload_n 0, 1) := by decide +kernel
theorem dJi_bitCount_11 : decode b_Ji_bitCount 11 = .ok (.ldc_w 266, 3) := by decide +kernel
theorem dJi_bitCount_14 : decode b_Ji_bitCount 14 = .ok (.iand, 1) := by decide +kernel
theorem dJi_bitCount_15 : decode b_Ji_bitCount 15 = .ok (.iload_n 0, 1) := by decide +kernel
theorem dJi_bitCount_16 : decode b_Ji_bitCount 16 = .ok (.iconst 2, 1) := by decide +kernel
theorem dJi_bitCount_17 : decode b_Ji_bitCount 17 = .ok (.iushr, 1) := by decide +kernel
theorem dJi_bitCount_18 : decode b_Ji_bitCount 18 = .ok (.ldc_w 266, 3) := by decide +kernel
theorem dJi_bitCount_21 : decode b_Ji_bitCount 21 = .ok (.iand, 1) := by decide +kernel
theorem dJi_bitCount_22 : decode b_Ji_bitCount 22 = .ok (.iadd, 1) := by decide +kernel
theorem dJi_bitCount_23 : decode b_Ji_bitCount 23 = .ok (.istore_n 0, 1) := by decide +kernel
theorem dJi_bitCount_24 : decode b_Ji_bitCount 24 = .ok (.iload_n 0, 1) := by decide +kernel
theorem dJi_bitCount_25 : decode b_Ji_bitCount 25 = .ok (.iload_n 0, 1) := by decide +kernel
theorem dJi_bitCount_26 : decode b_Ji_bitCount 26 = .ok (.iconst 4, 1) := by decide +kernel
theorem dJi_bitCount_27 : decode b_Ji_bitCount 27 = .ok (.iushr, 1) := by decide +kernel
theorem dJi_bitCount_28 : decode b_Ji_bitCount 28 = .ok (.iadd, 1) := by decide +kernel
theorem dJi_bitCount_29 : decode b_Ji_bitCount 29 = .ok (.ldc_w 267, 3) := by decide +kernel
theorem dJi_bitCount_32 : decode b_Ji_bitCount 32 = .ok (.iand, 1) := by decide +kernel
theorem dJi_bitCount_33 : decode b_Ji_bitCount 33 = .ok (.istore_n 0, 1) := by decide +kernel
theorem dJi_bitCount_34 : decode b_Ji_bitCount 34 = .ok (.iload_n 0, 1) := by decide +kernel
theorem dJi_bitCount_35 : decode b_Ji_bitCount 35 = .ok (.iload_n 0, 1) := by decide +kernel
theorem dJi_bitCount_36 : decode b_Ji_bitCount 36 = .ok (.bipush 8, 2) := by decide +kernel
theorem dJi_bitCount_38 : decode b_Ji_bitCount 38 = .ok (.iushr, 1) := by decide +kernel
theorem dJi_bitCount_39 : decode b_Ji_bitCount 39 = .ok (.iadd, 1) := by decide +kernel
theorem dJi_bitCount_40 : decode b_Ji_bitCount 40 = .ok (.istore_n 0, 1) := by decide +kernel
theorem dJi_bitCount_41 : decode b_Ji_bitCount 41 = .ok (.iload_n 0, 1) := by decide +kernel
theorem dJi_bitCount_42 : decode b_Ji_bitCount 42 = .ok (.iload_n 0, 1) := by decide +kernel
theorem dJi_bitCount_43 : decode b_Ji_bitCount 43 = .ok (.bipush 16, 2) := by decide +kernel
theorem dJi_bitCount_45 : decode b_Ji_bitCount 45 = .ok (.iushr, 1) := by decide +kernel
theorem dJi_bitCount_46 : decode b_Ji_bitCount 46 = .ok (.iadd, 1) := by decide +kernel
theorem dJi_bitCount_47 : decode b_Ji_bitCount 47 = .ok (.istore_n 0, 1) := by decide +kernel
theorem dJi_bitCount_48 : decode b_Ji_bitCount 48 = .ok (.iload_n 0, 1) := by decide +kernel
theorem dJi_bitCount_49 : decode b_Ji_bitCount 49 = .ok (.bipush 63, 2) := by decide +kernel
theorem dJi_bitCount_51 : decode b_Ji_bitCount 51 = .ok (.iand, 1) := by decide +kernel
theorem dJi_bitCount_52 : decode b_Ji_bitCount 52 = .ok (.ireturn, 1) := by decide +kernel
theorem dT_fillRow_0 : decode b_T_fillRow 0 = .ok (.aload_n 0, 1) := by decide +kernel
theorem dT_fillRow_1 : decode b_T_fillRow 1 = .ok (.getfield 13, 3) := by decide +kernel
theorem dT_fillRow_4 : decode b_T_fillRow 4 = .ok (.iload_n 1, 1) := by decide +kernel
theorem dT_fillRow_5 : decode b_T_fillRow 5 = .ok (.aaload, 1) := by decide +kernel
theorem dT_fillRow_6 : decode b_T_fillRow 6 = .ok (.iconst 0, 1) := by decide +kernel
theorem dT_fillRow_7 : decode b_T_fillRow 7 = .ok (.iconst 1, 1) := by decide +kernel
theorem dT_fillRow_8 : decode b_T_fillRow 8 = .ok (.iastore, 1) := by decide +kernel
theorem dT_fillRow_9 : decode b_T_fillRow 9 = .ok (.iconst 1, 1) := by decide +kernel
theorem dT_fillRow_10 : decode b_T_fillRow 10 = .ok (.istore_n 3, 1) := by decide +kernel
theorem dT_fillRow_11 : decode b_T_fillRow 11 = .ok (.iload_n 3, 1) := by decide +kernel
theorem dT_fillRow_12 : decode b_T_fillRow 12 = .ok (.bipush 36, 2) := by decide +kernel
theorem dT_fillRow_14 : decode b_T_fillRow 14 = .ok (.if_icmp .gt 35, 3) := by decide +kernel
theorem dT_fillRow_17 : decode b_T_fillRow 17 = .ok (.aload_n 0, 1) := by decide +kernel
theorem dT_fillRow_18 : decode b_T_fillRow 18 = .ok (.getfield 13, 3) := by decide +kernel
theorem dT_fillRow_21 : decode b_T_fillRow 21 = .ok (.iload_n 1, 1) := by decide +kernel
theorem dT_fillRow_22 : decode b_T_fillRow 22 = .ok (.aaload, 1) := by decide +kernel
theorem dT_fillRow_23 : decode b_T_fillRow 23 = .ok (.iload_n 3, 1) := by decide +kernel
theorem dT_fillRow_24 : decode b_T_fillRow 24 = .ok (.aload_n 0, 1) := by decide +kernel
theorem dT_fillRow_25 : decode b_T_fillRow 25 = .ok (.getfield 18, 3) := by decide +kernel
theorem dT_fillRow_28 : decode b_T_fillRow 28 = .ok (.aload_n 0, 1) := by decide +kernel
theorem dT_fillRow_29 : decode b_T_fillRow 29 = .ok (.getfield 13, 3) := by decide +kernel
theorem dT_fillRow_32 : decode b_T_fillRow 32 = .ok (.iload_n 1, 1) := by decide +kernel
theorem dT_fillRow_33 : decode b_T_fillRow 33 = .ok (.aaload, 1) := by decide +kernel
theorem dT_fillRow_34 : decode b_T_fillRow 34 = .ok (.iload_n 3, 1) := by decide +kernel
theorem dT_fillRow_35 : decode b_T_fillRow 35 = .ok (.iconst 1, 1) := by decide +kernel
theorem dT_fillRow_36 : decode b_T_fillRow 36 = .ok (.isub, 1) := by decide +kernel
theorem dT_fillRow_37 : decode b_T_fillRow 37 = .ok (.iaload, 1) := by decide +kernel
theorem dT_fillRow_38 : decode b_T_fillRow 38 = .ok (.iload_n 2, 1) := by decide +kernel
theorem dT_fillRow_39 : decode b_T_fillRow 39 = .ok (.invokevirtual 22, 3) := by decide +kernel
theorem dT_fillRow_42 : decode b_T_fillRow 42 = .ok (.iastore, 1) := by decide +kernel
theorem dT_fillRow_43 : decode b_T_fillRow 43 = .ok (.iinc 3 1, 3) := by decide +kernel
theorem dT_fillRow_46 : decode b_T_fillRow 46 = .ok (.goto (-35), 3) := by decide +kernel
theorem dT_fillRow_49 : decode b_T_fillRow 49 = .ok (.return_, 1) := by decide +kernel
theorem dT_at_0 : decode b_T_at 0 = .ok (.iconst 1, 1) := by decide +kernel
theorem dT_at_1 : decode b_T_at 1 = .ok (.istore_n 2, 1) := by decide +kernel
theorem dT_at_2 : decode b_T_at 2 = .ok (.iconst 0, 1) := by decide +kernel
theorem dT_at_3 : decode b_T_at 3 = .ok (.istore_n 3, 1) := by decide +kernel
theorem dT_at_4 : decode b_T_at 4 = .ok (.iload_n 3, 1) := by decide +kernel
theorem dT_at_5 : decode b_T_at 5 = .ok (.iconst 3, 1) := by decide +kernel
theorem dT_at_6 : decode b_T_at 6 = .ok (.if_icmp .ge 30, 3) := by decide +kernel
theorem dT_at_9 : decode b_T_at 9 = .ok (.aload_n 0, 1) := by decide +kernel
theorem dT_at_10 : decode b_T_at 10 = .ok (.getfield 18, 3) := by decide +kernel
theorem dT_at_13 : decode b_T_at 13 = .ok (.iload_n 2, 1) := by decide +kernel
theorem dT_at_14 : decode b_T_at 14 = .ok (.aload_n 0, 1) := by decide +kernel
theorem dT_at_15 : decode b_T_at 15 = .ok (.getfield 13, 3) := by decide +kernel
theorem dT_at_18 : decode b_T_at 18 = .ok (.iload_n 3, 1) := by decide +kernel
theorem dT_at_19 : decode b_T_at 19 = .ok (.aaload, 1) := by decide +kernel
theorem dT_at_20 : decode b_T_at 20 = .ok (.iload_n 1, 1) := by decide +kernel
theorem dT_at_21 : decode b_T_at 21 = .ok (.iload_n 3, 1) := by decide +kernel
theorem dT_at_22 : decode b_T_at 22 = .ok (.invokestatic 28, 3) := by decide +kernel
theorem dT_at_25 : decode b_T_at 25 = .ok (.iaload, 1) := by decide +kernel
theorem dT_at_26 : decode b_T_at 26 = .ok (.invokevirtual 22, 3) := by decide +kernel
theorem dT_at_29 : decode b_T_at 29 = .ok (.istore_n 2, 1) := by decide +kernel
theorem dT_at_30 : decode b_T_at 30 = .ok (.iinc 3 1, 3) := by decide +kernel
theorem dT_at_33 : decode b_T_at 33 = .ok (.goto (-29), 3) := by decide +kernel
theorem dT_at_36 : decode b_T_at 36 = .ok (.iload_n 2, 1) := by decide +kernel
theorem dT_at_37 : decode b_T_at 37 = .ok (.ireturn, 1) := by decide +kernel
theorem dQ_exists_0 : decode b_Q_exists 0 = .ok (.iload_n 0, 1) := by decide +kernel
theorem dQ_exists_1 : decode b_Q_exists 1 = .ok (.bipush 36, 2) := by decide +kernel
theorem dQ_exists_3 : decode b_Q_exists 3 = .ok (.if_icmp .gt 29, 3) := by decide +kernel
theorem dQ_exists_6 : decode b_Q_exists 6 = .ok (.iload_n 1, 1) := by decide +kernel
theorem dQ_exists_7 : decode b_Q_exists 7 = .ok (.bipush 36, 2) := by decide +kernel
theorem dQ_exists_9 : decode b_Q_exists 9 = .ok (.if_icmp .gt 23, 3) := by decide +kernel
theorem dQ_exists_12 : decode b_Q_exists 12 = .ok (.iload_n 2, 1) := by decide +kernel
theorem dQ_exists_13 : decode b_Q_exists 13 = .ok (.bipush 36, 2) := by decide +kernel
theorem dQ_exists_15 : decode b_Q_exists 15 = .ok (.if_icmp .gt 17, 3) := by decide +kernel
theorem dQ_exists_18 : decode b_Q_exists 18 = .ok (.iload_n 0, 1) := by decide +kernel
theorem dQ_exists_19 : decode b_Q_exists 19 = .ok (.iload_n 1, 1) := by decide +kernel
theorem dQ_exists_20 : decode b_Q_exists 20 = .ok (.iadd, 1) := by decide +kernel
theorem dQ_exists_21 : decode b_Q_exists 21 = .ok (.iload_n 2, 1) := by decide +kernel
theorem dQ_exists_22 : decode b_Q_exists 22 = .ok (.iadd, 1) := by decide +kernel
theorem dQ_exists_23 : decode b_Q_exists 23 = .ok (.bipush 36, 2) := by decide +kernel
theorem dQ_exists_25 : decode b_Q_exists 25 = .ok (.if_icmp .gt 7, 3) := by decide +kernel
theorem dQ_exists_28 : decode b_Q_exists 28 = .ok (.iconst 1, 1) := by decide +kernel
theorem dQ_exists_29 : decode b_Q_exists 29 = .ok (.goto 4, 3) := by decide +kernel
theorem dQ_exists_32 : decode b_Q_exists 32 = .ok (.iconst 0, 1) := by decide +kernel
theorem dQ_exists_33 : decode b_Q_exists 33 = .ok (.ireturn, 1) := by decide +kernel
theorem dP_coefficientOf_0 : decode b_P_coefficientOf 0 = .ok (.iconst 0, 1) := by decide +kernel
theorem dP_coefficientOf_1 : decode b_P_coefficientOf 1 = .ok (.istore_n 2, 1) := by decide +kernel
theorem dP_coefficientOf_2 : decode b_P_coefficientOf 2 = .ok (.iload_n 2, 1) := by decide +kernel
theorem dP_coefficientOf_3 : decode b_P_coefficientOf 3 = .ok (.aload_n 0, 1) := by decide +kernel
theorem dP_coefficientOf_4 : decode b_P_coefficientOf 4 = .ok (.getfield 16, 3) := by decide +kernel
theorem dP_coefficientOf_7 : decode b_P_coefficientOf 7 = .ok (.if_icmp .ge 26, 3) := by decide +kernel
theorem dP_coefficientOf_10 : decode b_P_coefficientOf 10 = .ok (.aload_n 0, 1) := by decide +kernel
theorem dP_coefficientOf_11 : decode b_P_coefficientOf 11 = .ok (.getfield 9, 3) := by decide +kernel
theorem dP_coefficientOf_14 : decode b_P_coefficientOf 14 = .ok (.iload_n 2, 1) := by decide +kernel
theorem dP_coefficientOf_15 : decode b_P_coefficientOf 15 = .ok (.iaload, 1) := by decide +kernel
theorem dP_coefficientOf_16 : decode b_P_coefficientOf 16 = .ok (.iload_n 1, 1) := by decide +kernel
theorem dP_coefficientOf_17 : decode b_P_coefficientOf 17 = .ok (.if_icmp .ne 10, 3) := by decide +kernel
theorem dP_coefficientOf_20 : decode b_P_coefficientOf 20 = .ok (.aload_n 0, 1) := by decide +kernel
theorem dP_coefficientOf_21 : decode b_P_coefficientOf 21 = .ok (.getfield 13, 3) := by decide +kernel
theorem dP_coefficientOf_24 : decode b_P_coefficientOf 24 = .ok (.iload_n 2, 1) := by decide +kernel
theorem dP_coefficientOf_25 : decode b_P_coefficientOf 25 = .ok (.iaload, 1) := by decide +kernel
theorem dP_coefficientOf_26 : decode b_P_coefficientOf 26 = .ok (.ireturn, 1) := by decide +kernel
theorem dP_coefficientOf_27 : decode b_P_coefficientOf 27 = .ok (.iinc 2 1, 3) := by decide +kernel
theorem dP_coefficientOf_30 : decode b_P_coefficientOf 30 = .ok (.goto (-28), 3) := by decide +kernel
theorem dP_coefficientOf_33 : decode b_P_coefficientOf 33 = .ok (.iconst 0, 1) := by decide +kernel
theorem dP_coefficientOf_34 : decode b_P_coefficientOf 34 = .ok (.ireturn, 1) := by decide +kernel
theorem dP_matches_0 : decode b_P_matches 0 = .ok (.aload_n 0, 1) := by decide +kernel
theorem dP_matches_1 : decode b_P_matches 1 = .ok (.getfield 16, 3) := by decide +kernel
theorem dP_matches_4 : decode b_P_matches 4 = .ok (.aload_n 1, 1) := by decide +kernel
theorem dP_matches_5 : decode b_P_matches 5 = .ok (.getfield 16, 3) := by decide +kernel
theorem dP_matches_8 : decode b_P_matches 8 = .ok (.if_icmp .eq 5, 3) := by decide +kernel
theorem dP_matches_11 : decode b_P_matches 11 = .ok (.iconst 0, 1) := by decide +kernel
theorem dP_matches_12 : decode b_P_matches 12 = .ok (.ireturn, 1) := by decide +kernel
theorem dP_matches_13 : decode b_P_matches 13 = .ok (.iconst 0, 1) := by decide +kernel
theorem dP_matches_14 : decode b_P_matches 14 = .ok (.istore_n 2, 1) := by decide +kernel
theorem dP_matches_15 : decode b_P_matches 15 = .ok (.iload_n 2, 1) := by decide +kernel
theorem dP_matches_16 : decode b_P_matches 16 = .ok (.aload_n 0, 1) := by decide +kernel
theorem dP_matches_17 : decode b_P_matches 17 = .ok (.getfield 16, 3) := by decide +kernel
theorem dP_matches_20 : decode b_P_matches 20 = .ok (.if_icmp .ge 41, 3) := by decide +kernel
theorem dP_matches_23 : decode b_P_matches 23 = .ok (.aload_n 0, 1) := by decide +kernel
theorem dP_matches_24 : decode b_P_matches 24 = .ok (.getfield 9, 3) := by decide +kernel
theorem dP_matches_27 : decode b_P_matches 27 = .ok (.iload_n 2, 1) := by decide +kernel
theorem dP_matches_28 : decode b_P_matches 28 = .ok (.iaload, 1) := by decide +kernel
theorem dP_matches_29 : decode b_P_matches 29 = .ok (.aload_n 1, 1) := by decide +kernel
theorem dP_matches_30 : decode b_P_matches 30 = .ok (.getfield 9, 3) := by decide +kernel
theorem dP_matches_33 : decode b_P_matches 33 = .ok (.iload_n 2, 1) := by decide +kernel
theorem dP_matches_34 : decode b_P_matches 34 = .ok (.iaload, 1) := by decide +kernel
theorem dP_matches_35 : decode b_P_matches 35 = .ok (.if_icmp .ne 18, 3) := by decide +kernel
theorem dP_matches_38 : decode b_P_matches 38 = .ok (.aload_n 0, 1) := by decide +kernel
theorem dP_matches_39 : decode b_P_matches 39 = .ok (.getfield 13, 3) := by decide +kernel
theorem dP_matches_42 : decode b_P_matches 42 = .ok (.iload_n 2, 1) := by decide +kernel
theorem dP_matches_43 : decode b_P_matches 43 = .ok (.iaload, 1) := by decide +kernel
theorem dP_matches_44 : decode b_P_matches 44 = .ok (.aload_n 1, 1) := by decide +kernel
theorem dP_matches_45 : decode b_P_matches 45 = .ok (.getfield 13, 3) := by decide +kernel
theorem dP_matches_48 : decode b_P_matches 48 = .ok (.iload_n 2, 1) := by decide +kernel
theorem dP_matches_49 : decode b_P_matches 49 = .ok (.iaload, 1) := by decide +kernel
theorem dP_matches_50 : decode b_P_matches 50 = .ok (.if_icmp .eq 5, 3) := by decide +kernel
theorem dP_matches_53 : decode b_P_matches 53 = .ok (.iconst 0, 1) := by decide +kernel
theorem dP_matches_54 : decode b_P_matches 54 = .ok (.ireturn, 1) := by decide +kernel
theorem dP_matches_55 : decode b_P_matches 55 = .ok (.iinc 2 1, 3) := by decide +kernel
theorem dP_matches_58 : decode b_P_matches 58 = .ok (.goto (-43), 3) := by decide +kernel
theorem dP_matches_61 : decode b_P_matches 61 = .ok (.iconst 1, 1) := by decide +kernel
theorem dP_matches_62 : decode b_P_matches 62 = .ok (.ireturn, 1) := by decide +kernel
end
section
/-! Decode rows. -/
theorem dH_init_0 : decode b_H_init 0 = .ok (.aload_n 0, 1) := by decide +kernel
theorem dH_init_1 : decode b_H_init 1 = .ok (.invokespecial 1, 3) := by decide +kernel
theorem dH_init_4 : decode b_H_init 4 = .ok (.aload_n 0, 1) := by decide +kernel
theorem dH_init_5 : decode b_H_init 5 = .ok (.bipush 12, 2) := by decide +kernel
theorem dH_init_7 : decode b_H_init 7 = .ok (.anewarray 9, 3) := by decide +kernel
theorem dH_init_10 : decode b_H_init 10 = .ok (.putfield 11, 3) := by decide +kernel
theorem dH_init_13 : decode b_H_init 13 = .ok (.aload_n 0, 1) := by decide +kernel
theorem dH_init_14 : decode b_H_init 14 = .ok (.sipush 256, 3) := by decide +kernel
theorem dH_init_17 : decode b_H_init 17 = .ok (.anewarray 9, 3) := by decide +kernel
theorem dH_init_20 : decode b_H_init 20 = .ok (.putfield 15, 3) := by decide +kernel
theorem dH_init_23 : decode b_H_init 23 = .ok (.aload_n 0, 1) := by decide +kernel
theorem dH_init_24 : decode b_H_init 24 = .ok (.new 18, 3) := by decide +kernel
theorem dH_init_27 : decode b_H_init 27 = .ok (.dup, 1) := by decide +kernel
theorem dH_init_28 : decode b_H_init 28 = .ok (.iload_n 1, 1) := by decide +kernel
theorem dH_init_29 : decode b_H_init 29 = .ok (.invokespecial 20, 3) := by decide +kernel
theorem dH_init_32 : decode b_H_init 32 = .ok (.putfield 23, 3) := by decide +kernel
theorem dH_init_35 : decode b_H_init 35 = .ok (.aload_n 0, 1) := by decide +kernel
theorem dH_init_36 : decode b_H_init 36 = .ok (.new 27, 3) := by decide +kernel
theorem dH_init_39 : decode b_H_init 39 = .ok (.dup, 1) := by decide +kernel
theorem dH_init_40 : decode b_H_init 40 = .ok (.aload_n 0, 1) := by decide +kernel
theorem dH_init_41 : decode b_H_init 41 = .ok (.getfield 23, 3) := by decide +kernel
theorem dH_init_44 : decode b_H_init 44 = .ok (.invokespecial 29, 3) := by decide +kernel
theorem dH_init_47 : decode b_H_init 47 = .ok (.putfield 32, 3) := by decide +kernel
theorem dH_init_50 : decode b_H_init 50 = .ok (.aload_n 0, 1) := by decide +kernel
theorem dH_init_51 : decode b_H_init 51 = .ok (.new 36, 3) := by decide +kernel
theorem dH_init_54 : decode b_H_init 54 = .ok (.dup, 1) := by decide +kernel
theorem dH_init_55 : decode b_H_init 55 = .ok (.aload_n 0, 1) := by decide +kernel
theorem dH_init_56 : decode b_H_init 56 = .ok (.getfield 23, 3) := by decide +kernel
theorem dH_init_59 : decode b_H_init 59 = .ok (.invokespecial 38, 3) := by decide +kernel
theorem dH_init_62 : decode b_H_init 62 = .ok (.putfield 39, 3) := by decide +kernel
theorem dH_init_65 : decode b_H_init 65 = .ok (.iconst 0, 1) := by decide +kernel
theorem dH_init_66 : decode b_H_init 66 = .ok (.istore_n 2, 1) := by decide +kernel
theorem dH_init_67 : decode b_H_init 67 = .ok (.iload_n 2, 1) := by decide +kernel
theorem dH_init_68 : decode b_H_init 68 = .ok (.aload_n 0, 1) := by decide +kernel
theorem dH_init_69 : decode b_H_init 69 = .ok (.getfield 11, 3) := by decide +kernel
theorem dH_init_72 : decode b_H_init 72 = .ok (.arraylength, 1) := by decide +kernel
theorem dH_init_73 : decode b_H_init 73 = .ok (.if_icmp .ge 22, 3) := by decide +kernel
theorem dH_init_76 : decode b_H_init 76 = .ok (.aload_n 0, 1) := by decide +kernel
theorem dH_init_77 : decode b_H_init 77 = .ok (.getfield 11, 3) := by decide +kernel
theorem dH_init_80 : decode b_H_init 80 = .ok (.iload_n 2, 1) := by decide +kernel
theorem dH_init_81 : decode b_H_init 81 = .ok (.new 9, 3) := by decide +kernel
theorem dH_init_84 : decode b_H_init 84 = .ok (.dup, 1) := by decide +kernel
theorem dH_init_85 : decode b_H_init 85 = .ok (.invokespecial 43, 3) := by decide +kernel
theorem dH_init_88 : decode b_H_init 88 = .ok (.aastore, 1) := by decide +kernel
theorem dH_init_89 : decode b_H_init 89 = .ok (.iinc 2 1, 3) := by decide +kernel
theorem dH_init_92 : decode b_H_init 92 = .ok (.goto (-25), 3) := by decide +kernel
theorem dH_init_95 : decode b_H_init 95 = .ok (.iconst 0, 1) := by decide +kernel
theorem dH_init_96 : decode b_H_init 96 = .ok (.istore_n 2, 1) := by decide +kernel
theorem dH_init_97 : decode b_H_init 97 = .ok (.iload_n 2, 1) := by decide +kernel
theorem dH_init_98 : decode b_H_init 98 = .ok (.aload_n 0, 1) := by decide +kernel
theorem dH_init_99 : decode b_H_init 99 = .ok (.getfield 15, 3) := by decide +kernel
theorem dH_init_102 : decode b_H_init 102 = .ok (.arraylength, 1) := by decide +kernel
theorem dH_init_103 : decode b_H_init 103 = .ok (.if_icmp .ge 22, 3) := by decide +kernel
theorem dH_init_106 : decode b_H_init 106 = .ok (.aload_n 0, 1) := by decide +kernel
theorem dH_init_107 : decode b_H_init 107 = .ok (.getfield 15, 3) := by decide +kernel
theorem dH_init_110 : decode b_H_init 110 = .ok (.iload_n 2, 1) := by decide +kernel
theorem dH_init_111 : decode b_H_init 111 = .ok (.new 9, 3) := by decide +kernel
theorem dH_init_114 : decode b_H_init 114 = .ok (.dup, 1) := by decide +kernel
theorem dH_init_115 : decode b_H_init 115 = .ok (.invokespecial 43, 3) := by decide +kernel
theorem dH_init_118 : decode b_H_init 118 = .ok (.aastore, 1) := by decide +kernel
theorem dH_init_119 : decode b_H_init 119 = .ok (.iinc 2 1, 3) := by decide +kernel
theorem dH_init_122 : decode b_H_init 122 = .ok (.goto (-25), 3) := by decide +kernel
theorem dH_init_125 : decode b_H_init 125 = .ok (.aload_n 0, 1) := by decide +kernel
theorem dH_init_126 : decode b_H_init 126 = .ok (.new 9, 3) := by decide +kernel
theorem dH_init_129 : decode b_H_init 129 = .ok (.dup, 1) := by decide +kernel
theorem dH_init_130 : decode b_H_init 130 = .ok (.invokespecial 43, 3) := by decide +kernel
theorem dH_init_133 : decode b_H_init 133 = .ok (.putfield 44, 3) := by decide +kernel
theorem dH_init_136 : decode b_H_init 136 = .ok (.return_, 1) := by decide +kernel
theorem dH_count_0 : decode b_H_count 0 = .ok (.iload_n 1, 1) := by decide +kernel
theorem dH_count_1 : decode b_H_count 1 = .ok (.tableswitch 63 0 4 #[35, 43, 48, 53, 58], 35) := by decide +kernel
theorem dH_count_36 : decode b_H_count 36 = .ok (.aload_n 0, 1) := by decide +kernel
theorem dH_count_37 : decode b_H_count 37 = .ok (.getfield 23, 3) := by decide +kernel
theorem dH_count_40 : decode b_H_count 40 = .ok (.getfield 166, 3) := by decide +kernel
theorem dH_count_43 : decode b_H_count 43 = .ok (.ireturn, 1) := by decide +kernel
theorem dH_count_44 : decode b_H_count 44 = .ok (.aload_n 0, 1) := by decide +kernel
theorem dH_count_45 : decode b_H_count 45 = .ok (.invokevirtual 169, 3) := by decide +kernel
theorem dH_count_48 : decode b_H_count 48 = .ok (.ireturn, 1) := by decide +kernel
theorem dH_count_49 : decode b_H_count 49 = .ok (.aload_n 0, 1) := by decide +kernel
theorem dH_count_50 : decode b_H_count 50 = .ok (.invokevirtual 173, 3) := by decide +kernel
theorem dH_count_53 : decode b_H_count 53 = .ok (.ireturn, 1) := by decide +kernel
theorem dH_count_54 : decode b_H_count 54 = .ok (.aload_n 0, 1) := by decide +kernel
theorem dH_count_55 : decode b_H_count 55 = .ok (.invokevirtual 176, 3) := by decide +kernel
theorem dH_count_58 : decode b_H_count 58 = .ok (.ireturn, 1) := by decide +kernel
theorem dH_count_59 : decode b_H_count 59 = .ok (.aload_n 0, 1) := by decide +kernel
theorem dH_count_60 : decode b_H_count 60 = .ok (.getfield 179, 3) := by decide +kernel
theorem dH_count_63 : decode b_H_count 63 = .ok (.ireturn, 1) := by decide +kernel
theorem dH_count_64 : decode b_H_count 64 = .ok (.iconst (-1), 1) := by decide +kernel
theorem dH_count_65 : decode b_H_count 65 = .ok (.ireturn, 1) := by decide +kernel
theorem dH_allTerms_0 : decode b_H_allTerms 0 = .ok (.iconst 0, 1) := by decide +kernel
theorem dH_allTerms_1 : decode b_H_allTerms 1 = .ok (.istore_n 1, 1) := by decide +kernel
theorem dH_allTerms_2 : decode b_H_allTerms 2 = .ok (.iconst 0, 1) := by decide +kernel
theorem dH_allTerms_3 : decode b_H_allTerms 3 = .ok (.istore_n 2, 1) := by decide +kernel
theorem dH_allTerms_4 : decode b_H_allTerms 4 = .ok (.iload_n 2, 1) := by decide +kernel
theorem dH_allTerms_5 : decode b_H_allTerms 5 = .ok (.bipush 12, 2) := by decide +kernel
theorem dH_allTerms_7 : decode b_H_allTerms 7 = .ok (.if_icmp .ge 21, 3) := by decide +kernel
theorem dH_allTerms_10 : decode b_H_allTerms 10 = .ok (.iload_n 1, 1) := by decide +kernel
theorem dH_allTerms_11 : decode b_H_allTerms 11 = .ok (.aload_n 0, 1) := by decide +kernel
theorem dH_allTerms_12 : decode b_H_allTerms 12 = .ok (.getfield 11, 3) := by decide +kernel
theorem dH_allTerms_15 : decode b_H_allTerms 15 = .ok (.iload_n 2, 1) := by decide +kernel
theorem dH_allTerms_16 : decode b_H_allTerms 16 = .ok (.aaload, 1) := by decide +kernel
theorem dH_allTerms_17 : decode b_H_allTerms 17 = .ok (.getfield 109, 3) := by decide +kernel
theorem dH_allTerms_20 : decode b_H_allTerms 20 = .ok (.iadd, 1) := by decide +kernel
theorem dH_allTerms_21 : decode b_H_allTerms 21 = .ok (.istore_n 1, 1) := by decide +kernel
theorem dH_allTerms_22 : decode b_H_allTerms 22 = .ok (.iinc 2 1, 3) := by decide +kernel
theorem dH_allTerms_25 : decode b_H_allTerms 25 = .ok (.goto (-21), 3) := by decide +kernel
theorem dH_allTerms_28 : decode b_H_allTerms 28 = .ok (.iload_n 1, 1) := by decide +kernel
theorem dH_allTerms_29 : decode b_H_allTerms 29 = .ok (.ireturn, 1) := by decide +kernel
theorem dH_zeroRegisters_0 : decode b_H_zeroRegisters 0 = .ok (.iconst 0, 1) := by decide +kernel
theorem dH_zeroRegisters_1 : decode b_H_zeroRegisters 1 = .ok (.istore_n 1, 1) := by decide +kernel
theorem dH_zeroRegisters_2 : decode b_H_zeroRegisters 2 = .ok (.iconst 0, 1) := by decide +kernel
theorem dH_zeroRegisters_3 : decode b_H_zeroRegisters 3 = .ok (.istore_n 2, 1) := by decide +kernel
theorem dH_zeroRegisters_4 : decode b_H_zeroRegisters 4 = .ok (.iload_n 2, 1) := by decide +kernel
theorem dH_zeroRegisters_5 : decode b_H_zeroRegisters 5 = .ok (.bipush 12, 2) := by decide +kernel
theorem dH_zeroRegisters_7 : decode b_H_zeroRegisters 7 = .ok (.if_icmp .ge 24, 3) := by decide +kernel
theorem dH_zeroRegisters_10 : decode b_H_zeroRegisters 10 = .ok (.aload_n 0, 1) := by decide +kernel
theorem dH_zeroRegisters_11 : decode b_H_zeroRegisters 11 = .ok (.getfield 11, 3) := by decide +kernel
theorem dH_zeroRegisters_14 : decode b_H_zeroRegisters 14 = .ok (.iload_n 2, 1) := by decide +kernel
theorem dH_zeroRegisters_15 : decode b_H_zeroRegisters 15 = .ok (.aaload, 1) := by decide +kernel
theorem dH_zeroRegisters_16 : decode b_H_zeroRegisters 16 = .ok (.invokevirtual 102, 3) := by decide +kernel
theorem dH_zeroRegisters_19 : decode b_H_zeroRegisters 19 = .ok (.ifCond .eq 6, 3) := by decide +kernel
theorem dH_zeroRegisters_22 : decode b_H_zeroRegisters 22 = .ok (.iinc 1 1, 3) := by decide +kernel
theorem dH_zeroRegisters_25 : decode b_H_zeroRegisters 25 = .ok (.iinc 2 1, 3) := by decide +kernel
theorem dH_zeroRegisters_28 : decode b_H_zeroRegisters 28 = .ok (.goto (-24), 3) := by decide +kernel
theorem dH_zeroRegisters_31 : decode b_H_zeroRegisters 31 = .ok (.iload_n 1, 1) := by decide +kernel
theorem dH_zeroRegisters_32 : decode b_H_zeroRegisters 32 = .ok (.ireturn, 1) := by decide +kernel
theorem dH_greatestDegree_0 : decode b_H_greatestDegree 0 = .ok (.iconst 0, 1) := by decide +kernel
theorem dH_greatestDegree_1 : decode b_H_greatestDegree 1 = .ok (.istore_n 1, 1) := by decide +kernel
theorem dH_greatestDegree_2 : decode b_H_greatestDegree 2 = .ok (.iconst 0, 1) := by decide +kernel
theorem dH_greatestDegree_3 : decode b_H_greatestDegree 3 = .ok (.istore_n 2, 1) := by decide +kernel
theorem dH_greatestDegree_4 : decode b_H_greatestDegree 4 = .ok (.iload_n 2, 1) := by decide +kernel
theorem dH_greatestDegree_5 : decode b_H_greatestDegree 5 = .ok (.bipush 12, 2) := by decide +kernel
theorem dH_greatestDegree_7 : decode b_H_greatestDegree 7 = .ok (.if_icmp .ge 37, 3) := by decide +kernel
theorem dH_greatestDegree_10 : decode b_H_greatestDegree 10 = .ok (.iconst 0, 1) := by decide +kernel
theorem dH_greatestDegree_11 : decode b_H_greatestDegree 11 = .ok (.istore_n 3, 1) := by decide +kernel
theorem dH_greatestDegree_12 : decode b_H_greatestDegree 12 = .ok (.iload_n 3, 1) := by decide +kernel
theorem dH_greatestDegree_13 : decode b_H_greatestDegree 13 = .ok (.iconst 3, 1) := by decide +kernel
theorem dH_greatestDegree_14 : decode b_H_greatestDegree 14 = .ok (.if_icmp .ge 24, 3) := by decide +kernel
theorem dH_greatestDegree_17 : decode b_H_greatestDegree 17 = .ok (.iload_n 1, 1) := by decide +kernel
theorem dH_greatestDegree_18 : decode b_H_greatestDegree 18 = .ok (.aload_n 0, 1) := by decide +kernel
theorem dH_greatestDegree_19 : decode b_H_greatestDegree 19 = .ok (.getfield 11, 3) := by decide +kernel
theorem dH_greatestDegree_22 : decode b_H_greatestDegree 22 = .ok (.iload_n 2, 1) := by decide +kernel
theorem dH_greatestDegree_23 : decode b_H_greatestDegree 23 = .ok (.aaload, 1) := by decide +kernel
theorem dH_greatestDegree_24 : decode b_H_greatestDegree 24 = .ok (.iload_n 3, 1) := by decide +kernel
theorem dH_greatestDegree_25 : decode b_H_greatestDegree 25 = .ok (.invokevirtual 85, 3) := by decide +kernel
theorem dH_greatestDegree_28 : decode b_H_greatestDegree 28 = .ok (.invokestatic 188, 3) := by decide +kernel
theorem dH_greatestDegree_31 : decode b_H_greatestDegree 31 = .ok (.istore_n 1, 1) := by decide +kernel
theorem dH_greatestDegree_32 : decode b_H_greatestDegree 32 = .ok (.iinc 3 1, 3) := by decide +kernel
theorem dH_greatestDegree_35 : decode b_H_greatestDegree 35 = .ok (.goto (-23), 3) := by decide +kernel
theorem dH_greatestDegree_38 : decode b_H_greatestDegree 38 = .ok (.iinc 2 1, 3) := by decide +kernel
theorem dH_greatestDegree_41 : decode b_H_greatestDegree 41 = .ok (.goto (-37), 3) := by decide +kernel
theorem dH_greatestDegree_44 : decode b_H_greatestDegree 44 = .ok (.iload_n 1, 1) := by decide +kernel
theorem dH_greatestDegree_45 : decode b_H_greatestDegree 45 = .ok (.ireturn, 1) := by decide +kernel
theorem dH_constant_0 : decode b_H_constant 0 = .ok (.iload_n 1, 1) := by decide +kernel
theorem dH_constant_1 : decode b_H_constant 1 = .ok (.invokestatic 48, 3) := by decide +kernel
theorem dH_constant_4 : decode b_H_constant 4 = .ok (.aload_n 0, 1) := by decide +kernel
theorem dH_constant_5 : decode b_H_constant 5 = .ok (.getfield 11, 3) := by decide +kernel
theorem dH_constant_8 : decode b_H_constant 8 = .ok (.iload_n 1, 1) := by decide +kernel
theorem dH_constant_9 : decode b_H_constant 9 = .ok (.aaload, 1) := by decide +kernel
theorem dH_constant_10 : decode b_H_constant 10 = .ok (.aload_n 0, 1) := by decide +kernel
theorem dH_constant_11 : decode b_H_constant 11 = .ok (.getfield 23, 3) := by decide +kernel
theorem dH_constant_14 : decode b_H_constant 14 = .ok (.iload_n 2, 1) := by decide +kernel
theorem dH_constant_15 : decode b_H_constant 15 = .ok (.invokevirtual 51, 3) := by decide +kernel
theorem dH_constant_18 : decode b_H_constant 18 = .ok (.invokevirtual 55, 3) := by decide +kernel
theorem dH_constant_21 : decode b_H_constant 21 = .ok (.return_, 1) := by decide +kernel
theorem dH_checkRegister_0 : decode b_H_checkRegister 0 = .ok (.iload_n 0, 1) := by decide +kernel
theorem dH_checkRegister_1 : decode b_H_checkRegister 1 = .ok (.ifCond .lt 9, 3) := by decide +kernel
theorem dH_checkRegister_4 : decode b_H_checkRegister 4 = .ok (.iload_n 0, 1) := by decide +kernel
theorem dH_checkRegister_5 : decode b_H_checkRegister 5 = .ok (.bipush 12, 2) := by decide +kernel
theorem dH_checkRegister_7 : decode b_H_checkRegister 7 = .ok (.if_icmp .lt 11, 3) := by decide +kernel
theorem dH_checkRegister_10 : decode b_H_checkRegister 10 = .ok (.new 149, 3) := by decide +kernel
theorem dH_checkRegister_13 : decode b_H_checkRegister 13 = .ok (.dup, 1) := by decide +kernel
theorem dH_checkRegister_14 : decode b_H_checkRegister 14 = .ok (.invokespecial 151, 3) := by decide +kernel
theorem dH_checkRegister_17 : decode b_H_checkRegister 17 = .ok (.athrow, 1) := by decide +kernel
theorem dH_checkRegister_18 : decode b_H_checkRegister 18 = .ok (.return_, 1) := by decide +kernel
theorem dH_variable_0 : decode b_H_variable 0 = .ok (.iload_n 1, 1) := by decide +kernel
theorem dH_variable_1 : decode b_H_variable 1 = .ok (.invokestatic 48, 3) := by decide +kernel
theorem dH_variable_4 : decode b_H_variable 4 = .ok (.iload_n 2, 1) := by decide +kernel
theorem dH_variable_5 : decode b_H_variable 5 = .ok (.invokestatic 58, 3) := by decide +kernel
theorem dH_variable_8 : decode b_H_variable 8 = .ok (.aload_n 0, 1) := by decide +kernel
theorem dH_variable_9 : decode b_H_variable 9 = .ok (.getfield 11, 3) := by decide +kernel
theorem dH_variable_12 : decode b_H_variable 12 = .ok (.iload_n 1, 1) := by decide +kernel
theorem dH_variable_13 : decode b_H_variable 13 = .ok (.aaload, 1) := by decide +kernel
theorem dH_variable_14 : decode b_H_variable 14 = .ok (.invokevirtual 61, 3) := by decide +kernel
theorem dH_variable_17 : decode b_H_variable 17 = .ok (.aload_n 0, 1) := by decide +kernel
theorem dH_variable_18 : decode b_H_variable 18 = .ok (.getfield 11, 3) := by decide +kernel
theorem dH_variable_21 : decode b_H_variable 21 = .ok (.iload_n 1, 1) := by decide +kernel
theorem dH_variable_22 : decode b_H_variable 22 = .ok (.aaload, 1) := by decide +kernel
theorem dH_variable_23 : decode b_H_variable 23 = .ok (.iload_n 2, 1) := by decide +kernel
theorem dH_variable_24 : decode b_H_variable 24 = .ok (.invokestatic 64, 3) := by decide +kernel
theorem dH_variable_27 : decode b_H_variable 27 = .ok (.iconst 1, 1) := by decide +kernel
theorem dH_variable_28 : decode b_H_variable 28 = .ok (.invokevirtual 69, 3) := by decide +kernel
theorem dH_variable_31 : decode b_H_variable 31 = .ok (.return_, 1) := by decide +kernel
theorem dH_checkVariable_0 : decode b_H_checkVariable 0 = .ok (.iload_n 0, 1) := by decide +kernel
theorem dH_checkVariable_1 : decode b_H_checkVariable 1 = .ok (.ifCond .lt 8, 3) := by decide +kernel
theorem dH_checkVariable_4 : decode b_H_checkVariable 4 = .ok (.iload_n 0, 1) := by decide +kernel
theorem dH_checkVariable_5 : decode b_H_checkVariable 5 = .ok (.iconst 3, 1) := by decide +kernel
theorem dH_checkVariable_6 : decode b_H_checkVariable 6 = .ok (.if_icmp .lt 11, 3) := by decide +kernel
theorem dH_checkVariable_9 : decode b_H_checkVariable 9 = .ok (.new 96, 3) := by decide +kernel
theorem dH_checkVariable_12 : decode b_H_checkVariable 12 = .ok (.dup, 1) := by decide +kernel
theorem dH_checkVariable_13 : decode b_H_checkVariable 13 = .ok (.invokespecial 98, 3) := by decide +kernel
theorem dH_checkVariable_16 : decode b_H_checkVariable 16 = .ok (.athrow, 1) := by decide +kernel
theorem dH_checkVariable_17 : decode b_H_checkVariable 17 = .ok (.return_, 1) := by decide +kernel
theorem dH_add_0 : decode b_H_add 0 = .ok (.iload_n 1, 1) := by decide +kernel
theorem dH_add_1 : decode b_H_add 1 = .ok (.iload_n 2, 1) := by decide +kernel
theorem dH_add_2 : decode b_H_add 2 = .ok (.iload_n 3, 1) := by decide +kernel
theorem dH_add_3 : decode b_H_add 3 = .ok (.invokestatic 73, 3) := by decide +kernel
theorem dH_add_6 : decode b_H_add 6 = .ok (.aload_n 0, 1) := by decide +kernel
theorem dH_add_7 : decode b_H_add 7 = .ok (.getfield 32, 3) := by decide +kernel
theorem dH_add_10 : decode b_H_add 10 = .ok (.aload_n 0, 1) := by decide +kernel
theorem dH_add_11 : decode b_H_add 11 = .ok (.getfield 11, 3) := by decide +kernel
theorem dH_add_14 : decode b_H_add 14 = .ok (.iload_n 2, 1) := by decide +kernel
theorem dH_add_15 : decode b_H_add 15 = .ok (.aaload, 1) := by decide +kernel
theorem dH_add_16 : decode b_H_add 16 = .ok (.iconst 1, 1) := by decide +kernel
theorem dH_add_17 : decode b_H_add 17 = .ok (.iconst 0, 1) := by decide +kernel
theorem dH_add_18 : decode b_H_add 18 = .ok (.invokevirtual 77, 3) := by decide +kernel
theorem dH_add_21 : decode b_H_add 21 = .ok (.aload_n 0, 1) := by decide +kernel
theorem dH_add_22 : decode b_H_add 22 = .ok (.getfield 32, 3) := by decide +kernel
theorem dH_add_25 : decode b_H_add 25 = .ok (.aload_n 0, 1) := by decide +kernel
theorem dH_add_26 : decode b_H_add 26 = .ok (.getfield 11, 3) := by decide +kernel
theorem dH_add_29 : decode b_H_add 29 = .ok (.iload_n 3, 1) := by decide +kernel
theorem dH_add_30 : decode b_H_add 30 = .ok (.aaload, 1) := by decide +kernel
theorem dH_add_31 : decode b_H_add 31 = .ok (.aload_n 0, 1) := by decide +kernel
theorem dH_add_32 : decode b_H_add 32 = .ok (.getfield 23, 3) := by decide +kernel
theorem dH_add_35 : decode b_H_add 35 = .ok (.iload 4, 2) := by decide +kernel
theorem dH_add_37 : decode b_H_add 37 = .ok (.invokevirtual 51, 3) := by decide +kernel
theorem dH_add_40 : decode b_H_add 40 = .ok (.iconst 0, 1) := by decide +kernel
theorem dH_add_41 : decode b_H_add 41 = .ok (.invokevirtual 77, 3) := by decide +kernel
theorem dH_add_44 : decode b_H_add 44 = .ok (.aload_n 0, 1) := by decide +kernel
theorem dH_add_45 : decode b_H_add 45 = .ok (.getfield 32, 3) := by decide +kernel
theorem dH_add_48 : decode b_H_add 48 = .ok (.aload_n 0, 1) := by decide +kernel
theorem dH_add_49 : decode b_H_add 49 = .ok (.getfield 11, 3) := by decide +kernel
theorem dH_add_52 : decode b_H_add 52 = .ok (.iload_n 1, 1) := by decide +kernel
theorem dH_add_53 : decode b_H_add 53 = .ok (.aaload, 1) := by decide +kernel
theorem dH_add_54 : decode b_H_add 54 = .ok (.invokevirtual 81, 3) := by decide +kernel
theorem dH_add_57 : decode b_H_add 57 = .ok (.return_, 1) := by decide +kernel
theorem dH_checkRegisters_0 : decode b_H_checkRegisters 0 = .ok (.iload_n 0, 1) := by decide +kernel
theorem dH_checkRegisters_1 : decode b_H_checkRegisters 1 = .ok (.invokestatic 48, 3) := by decide +kernel
theorem dH_checkRegisters_4 : decode b_H_checkRegisters 4 = .ok (.iload_n 1, 1) := by decide +kernel
theorem dH_checkRegisters_5 : decode b_H_checkRegisters 5 = .ok (.invokestatic 48, 3) := by decide +kernel
theorem dH_checkRegisters_8 : decode b_H_checkRegisters 8 = .ok (.iload_n 2, 1) := by decide +kernel
theorem dH_checkRegisters_9 : decode b_H_checkRegisters 9 = .ok (.invokestatic 48, 3) := by decide +kernel
theorem dH_checkRegisters_12 : decode b_H_checkRegisters 12 = .ok (.return_, 1) := by decide +kernel
theorem dH_multiply_0 : decode b_H_multiply 0 = .ok (.iload_n 1, 1) := by decide +kernel
theorem dH_multiply_1 : decode b_H_multiply 1 = .ok (.iload_n 2, 1) := by decide +kernel
theorem dH_multiply_2 : decode b_H_multiply 2 = .ok (.iload_n 3, 1) := by decide +kernel
theorem dH_multiply_3 : decode b_H_multiply 3 = .ok (.invokestatic 73, 3) := by decide +kernel
theorem dH_multiply_6 : decode b_H_multiply 6 = .ok (.aload_n 0, 1) := by decide +kernel
theorem dH_multiply_7 : decode b_H_multiply 7 = .ok (.getfield 11, 3) := by decide +kernel
theorem dH_multiply_10 : decode b_H_multiply 10 = .ok (.iload_n 2, 1) := by decide +kernel
theorem dH_multiply_11 : decode b_H_multiply 11 = .ok (.aaload, 1) := by decide +kernel
theorem dH_multiply_12 : decode b_H_multiply 12 = .ok (.astore 4, 2) := by decide +kernel
theorem dH_multiply_14 : decode b_H_multiply 14 = .ok (.aload_n 0, 1) := by decide +kernel
theorem dH_multiply_15 : decode b_H_multiply 15 = .ok (.getfield 11, 3) := by decide +kernel
theorem dH_multiply_18 : decode b_H_multiply 18 = .ok (.iload_n 3, 1) := by decide +kernel
theorem dH_multiply_19 : decode b_H_multiply 19 = .ok (.aaload, 1) := by decide +kernel
theorem dH_multiply_20 : decode b_H_multiply 20 = .ok (.astore 5, 2) := by decide +kernel
theorem dH_multiply_22 : decode b_H_multiply 22 = .ok (.iconst 0, 1) := by decide +kernel
theorem dH_multiply_23 : decode b_H_multiply 23 = .ok (.istore 6, 2) := by decide +kernel
theorem dH_multiply_25 : decode b_H_multiply 25 = .ok (.iload 6, 2) := by decide +kernel
theorem dH_multiply_27 : decode b_H_multiply 27 = .ok (.iconst 3, 1) := by decide +kernel
theorem dH_multiply_28 : decode b_H_multiply 28 = .ok (.if_icmp .ge 34, 3) := by decide +kernel
theorem dH_multiply_31 : decode b_H_multiply 31 = .ok (.aload 4, 2) := by decide +kernel
theorem dH_multiply_33 : decode b_H_multiply 33 = .ok (.iload 6, 2) := by decide +kernel
theorem dH_multiply_35 : decode b_H_multiply 35 = .ok (.invokevirtual 85, 3) := by decide +kernel
theorem dH_multiply_38 : decode b_H_multiply 38 = .ok (.aload 5, 2) := by decide +kernel
theorem dH_multiply_40 : decode b_H_multiply 40 = .ok (.iload 6, 2) := by decide +kernel
theorem dH_multiply_42 : decode b_H_multiply 42 = .ok (.invokevirtual 85, 3) := by decide +kernel
theorem dH_multiply_45 : decode b_H_multiply 45 = .ok (.iadd, 1) := by decide +kernel
theorem dH_multiply_46 : decode b_H_multiply 46 = .ok (.bipush 12, 2) := by decide +kernel
theorem dH_multiply_48 : decode b_H_multiply 48 = .ok (.if_icmp .le 8, 3) := by decide +kernel
theorem dH_multiply_51 : decode b_H_multiply 51 = .ok (.aload_n 0, 1) := by decide +kernel
theorem dH_multiply_52 : decode b_H_multiply 52 = .ok (.invokevirtual 88, 3) := by decide +kernel
theorem dH_multiply_55 : decode b_H_multiply 55 = .ok (.ireturn, 1) := by decide +kernel
theorem dH_multiply_56 : decode b_H_multiply 56 = .ok (.iinc 6 1, 3) := by decide +kernel
theorem dH_multiply_59 : decode b_H_multiply 59 = .ok (.goto (-34), 3) := by decide +kernel
theorem dH_multiply_62 : decode b_H_multiply 62 = .ok (.aload_n 0, 1) := by decide +kernel
theorem dH_multiply_63 : decode b_H_multiply 63 = .ok (.getfield 32, 3) := by decide +kernel
theorem dH_multiply_66 : decode b_H_multiply 66 = .ok (.aload 4, 2) := by decide +kernel
theorem dH_multiply_68 : decode b_H_multiply 68 = .ok (.aload 5, 2) := by decide +kernel
theorem dH_multiply_70 : decode b_H_multiply 70 = .ok (.invokevirtual 92, 3) := by decide +kernel
theorem dH_multiply_73 : decode b_H_multiply 73 = .ok (.aload_n 0, 1) := by decide +kernel
theorem dH_multiply_74 : decode b_H_multiply 74 = .ok (.getfield 32, 3) := by decide +kernel
theorem dH_multiply_77 : decode b_H_multiply 77 = .ok (.aload_n 0, 1) := by decide +kernel
theorem dH_multiply_78 : decode b_H_multiply 78 = .ok (.getfield 11, 3) := by decide +kernel
theorem dH_multiply_81 : decode b_H_multiply 81 = .ok (.iload_n 1, 1) := by decide +kernel
theorem dH_multiply_82 : decode b_H_multiply 82 = .ok (.aaload, 1) := by decide +kernel
theorem dH_multiply_83 : decode b_H_multiply 83 = .ok (.invokevirtual 81, 3) := by decide +kernel
theorem dH_multiply_86 : decode b_H_multiply 86 = .ok (.iconst 1, 1) := by decide +kernel
theorem dH_multiply_87 : decode b_H_multiply 87 = .ok (.ireturn, 1) := by decide +kernel
theorem dH_refuse_0 : decode b_H_refuse 0 = .ok (.aload_n 0, 1) := by decide +kernel
theorem dH_refuse_1 : decode b_H_refuse 1 = .ok (.dup, 1) := by decide +kernel
theorem dH_refuse_2 : decode b_H_refuse 2 = .ok (.getfield 179, 3) := by decide +kernel
theorem dH_refuse_5 : decode b_H_refuse 5 = .ok (.iconst 1, 1) := by decide +kernel
theorem dH_refuse_6 : decode b_H_refuse 6 = .ok (.iadd, 1) := by decide +kernel
theorem dH_refuse_7 : decode b_H_refuse 7 = .ok (.putfield 179, 3) := by decide +kernel
theorem dH_refuse_10 : decode b_H_refuse 10 = .ok (.iconst 0, 1) := by decide +kernel
theorem dH_refuse_11 : decode b_H_refuse 11 = .ok (.ireturn, 1) := by decide +kernel
theorem dH_power_0 : decode b_H_power 0 = .ok (.iload_n 1, 1) := by decide +kernel
theorem dH_power_1 : decode b_H_power 1 = .ok (.invokestatic 48, 3) := by decide +kernel
theorem dH_power_4 : decode b_H_power 4 = .ok (.iload_n 2, 1) := by decide +kernel
theorem dH_power_5 : decode b_H_power 5 = .ok (.invokestatic 48, 3) := by decide +kernel
theorem dH_power_8 : decode b_H_power 8 = .ok (.iload_n 3, 1) := by decide +kernel
theorem dH_power_9 : decode b_H_power 9 = .ok (.ifCond .lt 9, 3) := by decide +kernel
theorem dH_power_12 : decode b_H_power 12 = .ok (.iload_n 3, 1) := by decide +kernel
theorem dH_power_13 : decode b_H_power 13 = .ok (.bipush 100, 2) := by decide +kernel
theorem dH_power_15 : decode b_H_power 15 = .ok (.if_icmp .le 11, 3) := by decide +kernel
theorem dH_power_18 : decode b_H_power 18 = .ok (.new 96, 3) := by decide +kernel
theorem dH_power_21 : decode b_H_power 21 = .ok (.dup, 1) := by decide +kernel
theorem dH_power_22 : decode b_H_power 22 = .ok (.invokespecial 98, 3) := by decide +kernel
theorem dH_power_25 : decode b_H_power 25 = .ok (.athrow, 1) := by decide +kernel
theorem dH_power_26 : decode b_H_power 26 = .ok (.aload_n 0, 1) := by decide +kernel
theorem dH_power_27 : decode b_H_power 27 = .ok (.getfield 11, 3) := by decide +kernel
theorem dH_power_30 : decode b_H_power 30 = .ok (.iload_n 2, 1) := by decide +kernel
theorem dH_power_31 : decode b_H_power 31 = .ok (.aaload, 1) := by decide +kernel
theorem dH_power_32 : decode b_H_power 32 = .ok (.astore 4, 2) := by decide +kernel
theorem dH_power_34 : decode b_H_power 34 = .ok (.iconst 0, 1) := by decide +kernel
theorem dH_power_35 : decode b_H_power 35 = .ok (.istore 5, 2) := by decide +kernel
theorem dH_power_37 : decode b_H_power 37 = .ok (.iload 5, 2) := by decide +kernel
theorem dH_power_39 : decode b_H_power 39 = .ok (.iconst 3, 1) := by decide +kernel
theorem dH_power_40 : decode b_H_power 40 = .ok (.if_icmp .ge 28, 3) := by decide +kernel
theorem dH_power_43 : decode b_H_power 43 = .ok (.iload_n 3, 1) := by decide +kernel
theorem dH_power_44 : decode b_H_power 44 = .ok (.aload 4, 2) := by decide +kernel
theorem dH_power_46 : decode b_H_power 46 = .ok (.iload 5, 2) := by decide +kernel
theorem dH_power_48 : decode b_H_power 48 = .ok (.invokevirtual 85, 3) := by decide +kernel
theorem dH_power_51 : decode b_H_power 51 = .ok (.imul, 1) := by decide +kernel
theorem dH_power_52 : decode b_H_power 52 = .ok (.bipush 12, 2) := by decide +kernel
theorem dH_power_54 : decode b_H_power 54 = .ok (.if_icmp .le 8, 3) := by decide +kernel
theorem dH_power_57 : decode b_H_power 57 = .ok (.aload_n 0, 1) := by decide +kernel
theorem dH_power_58 : decode b_H_power 58 = .ok (.invokevirtual 88, 3) := by decide +kernel
theorem dH_power_61 : decode b_H_power 61 = .ok (.ireturn, 1) := by decide +kernel
theorem dH_power_62 : decode b_H_power 62 = .ok (.iinc 5 1, 3) := by decide +kernel
theorem dH_power_65 : decode b_H_power 65 = .ok (.goto (-28), 3) := by decide +kernel
theorem dH_power_68 : decode b_H_power 68 = .ok (.aload_n 0, 1) := by decide +kernel
theorem dH_power_69 : decode b_H_power 69 = .ok (.getfield 44, 3) := by decide +kernel
theorem dH_power_72 : decode b_H_power 72 = .ok (.iconst 1, 1) := by decide +kernel
theorem dH_power_73 : decode b_H_power 73 = .ok (.invokevirtual 55, 3) := by decide +kernel
theorem dH_power_76 : decode b_H_power 76 = .ok (.iconst 0, 1) := by decide +kernel
theorem dH_power_77 : decode b_H_power 77 = .ok (.istore 5, 2) := by decide +kernel
theorem dH_power_79 : decode b_H_power 79 = .ok (.iload 5, 2) := by decide +kernel
theorem dH_power_81 : decode b_H_power 81 = .ok (.iload_n 3, 1) := by decide +kernel
theorem dH_power_82 : decode b_H_power 82 = .ok (.if_icmp .ge 33, 3) := by decide +kernel
theorem dH_power_85 : decode b_H_power 85 = .ok (.aload_n 0, 1) := by decide +kernel
theorem dH_power_86 : decode b_H_power 86 = .ok (.getfield 32, 3) := by decide +kernel
theorem dH_power_89 : decode b_H_power 89 = .ok (.aload_n 0, 1) := by decide +kernel
theorem dH_power_90 : decode b_H_power 90 = .ok (.getfield 44, 3) := by decide +kernel
theorem dH_power_93 : decode b_H_power 93 = .ok (.aload 4, 2) := by decide +kernel
theorem dH_power_95 : decode b_H_power 95 = .ok (.invokevirtual 92, 3) := by decide +kernel
theorem dH_power_98 : decode b_H_power 98 = .ok (.aload_n 0, 1) := by decide +kernel
theorem dH_power_99 : decode b_H_power 99 = .ok (.getfield 32, 3) := by decide +kernel
theorem dH_power_102 : decode b_H_power 102 = .ok (.aload_n 0, 1) := by decide +kernel
theorem dH_power_103 : decode b_H_power 103 = .ok (.getfield 44, 3) := by decide +kernel
theorem dH_power_106 : decode b_H_power 106 = .ok (.invokevirtual 81, 3) := by decide +kernel
theorem dH_power_109 : decode b_H_power 109 = .ok (.iinc 5 1, 3) := by decide +kernel
theorem dH_power_112 : decode b_H_power 112 = .ok (.goto (-33), 3) := by decide +kernel
theorem dH_power_115 : decode b_H_power 115 = .ok (.aload_n 0, 1) := by decide +kernel
theorem dH_power_116 : decode b_H_power 116 = .ok (.iload_n 1, 1) := by decide +kernel
theorem dH_power_117 : decode b_H_power 117 = .ok (.invokevirtual 99, 3) := by decide +kernel
theorem dH_power_120 : decode b_H_power 120 = .ok (.iconst 1, 1) := by decide +kernel
theorem dH_power_121 : decode b_H_power 121 = .ok (.ireturn, 1) := by decide +kernel
theorem dH_exchangeSpare_0 : decode b_H_exchangeSpare 0 = .ok (.aload_n 0, 1) := by decide +kernel
theorem dH_exchangeSpare_1 : decode b_H_exchangeSpare 1 = .ok (.getfield 11, 3) := by decide +kernel
theorem dH_exchangeSpare_4 : decode b_H_exchangeSpare 4 = .ok (.iload_n 1, 1) := by decide +kernel
theorem dH_exchangeSpare_5 : decode b_H_exchangeSpare 5 = .ok (.aaload, 1) := by decide +kernel
theorem dH_exchangeSpare_6 : decode b_H_exchangeSpare 6 = .ok (.astore_n 2, 1) := by decide +kernel
theorem dH_exchangeSpare_7 : decode b_H_exchangeSpare 7 = .ok (.aload_n 0, 1) := by decide +kernel
theorem dH_exchangeSpare_8 : decode b_H_exchangeSpare 8 = .ok (.getfield 11, 3) := by decide +kernel
theorem dH_exchangeSpare_11 : decode b_H_exchangeSpare 11 = .ok (.iload_n 1, 1) := by decide +kernel
theorem dH_exchangeSpare_12 : decode b_H_exchangeSpare 12 = .ok (.aload_n 0, 1) := by decide +kernel
theorem dH_exchangeSpare_13 : decode b_H_exchangeSpare 13 = .ok (.getfield 44, 3) := by decide +kernel
theorem dH_exchangeSpare_16 : decode b_H_exchangeSpare 16 = .ok (.aastore, 1) := by decide +kernel
theorem dH_exchangeSpare_17 : decode b_H_exchangeSpare 17 = .ok (.aload_n 0, 1) := by decide +kernel
theorem dH_exchangeSpare_18 : decode b_H_exchangeSpare 18 = .ok (.aload_n 2, 1) := by decide +kernel
theorem dH_exchangeSpare_19 : decode b_H_exchangeSpare 19 = .ok (.putfield 44, 3) := by decide +kernel
theorem dH_exchangeSpare_22 : decode b_H_exchangeSpare 22 = .ok (.return_, 1) := by decide +kernel
theorem dH_divide_0 : decode b_H_divide 0 = .ok (.iload_n 1, 1) := by decide +kernel
theorem dH_divide_1 : decode b_H_divide 1 = .ok (.iload_n 2, 1) := by decide +kernel
theorem dH_divide_2 : decode b_H_divide 2 = .ok (.iload_n 3, 1) := by decide +kernel
theorem dH_divide_3 : decode b_H_divide 3 = .ok (.invokestatic 73, 3) := by decide +kernel
theorem dH_divide_6 : decode b_H_divide 6 = .ok (.aload_n 0, 1) := by decide +kernel
theorem dH_divide_7 : decode b_H_divide 7 = .ok (.getfield 11, 3) := by decide +kernel
theorem dH_divide_10 : decode b_H_divide 10 = .ok (.iload_n 3, 1) := by decide +kernel
theorem dH_divide_11 : decode b_H_divide 11 = .ok (.aaload, 1) := by decide +kernel
theorem dH_divide_12 : decode b_H_divide 12 = .ok (.astore 5, 2) := by decide +kernel
theorem dH_divide_14 : decode b_H_divide 14 = .ok (.aload 5, 2) := by decide +kernel
theorem dH_divide_16 : decode b_H_divide 16 = .ok (.invokevirtual 102, 3) := by decide +kernel
theorem dH_divide_19 : decode b_H_divide 19 = .ok (.ifCond .eq 11, 3) := by decide +kernel
theorem dH_divide_22 : decode b_H_divide 22 = .ok (.new 96, 3) := by decide +kernel
theorem dH_divide_25 : decode b_H_divide 25 = .ok (.dup, 1) := by decide +kernel
theorem dH_divide_26 : decode b_H_divide 26 = .ok (.invokespecial 98, 3) := by decide +kernel
theorem dH_divide_29 : decode b_H_divide 29 = .ok (.athrow, 1) := by decide +kernel
theorem dH_divide_30 : decode b_H_divide 30 = .ok (.aload_n 0, 1) := by decide +kernel
theorem dH_divide_31 : decode b_H_divide 31 = .ok (.getfield 32, 3) := by decide +kernel
theorem dH_divide_34 : decode b_H_divide 34 = .ok (.aload_n 0, 1) := by decide +kernel
theorem dH_divide_35 : decode b_H_divide 35 = .ok (.getfield 11, 3) := by decide +kernel
theorem dH_divide_38 : decode b_H_divide 38 = .ok (.iload_n 2, 1) := by decide +kernel
theorem dH_divide_39 : decode b_H_divide 39 = .ok (.aaload, 1) := by decide +kernel
theorem dH_divide_40 : decode b_H_divide 40 = .ok (.iconst 1, 1) := by decide +kernel
theorem dH_divide_41 : decode b_H_divide 41 = .ok (.iconst 0, 1) := by decide +kernel
theorem dH_divide_42 : decode b_H_divide 42 = .ok (.invokevirtual 77, 3) := by decide +kernel
theorem dH_divide_45 : decode b_H_divide 45 = .ok (.aload_n 0, 1) := by decide +kernel
theorem dH_divide_46 : decode b_H_divide 46 = .ok (.getfield 32, 3) := by decide +kernel
theorem dH_divide_49 : decode b_H_divide 49 = .ok (.aload 5, 2) := by decide +kernel
theorem dH_divide_51 : decode b_H_divide 51 = .ok (.aload_n 0, 1) := by decide +kernel
theorem dH_divide_52 : decode b_H_divide 52 = .ok (.getfield 44, 3) := by decide +kernel
theorem dH_divide_55 : decode b_H_divide 55 = .ok (.invokevirtual 105, 3) := by decide +kernel
theorem dH_divide_58 : decode b_H_divide 58 = .ok (.iload 4, 2) := by decide +kernel
theorem dH_divide_60 : decode b_H_divide 60 = .ok (.ifCond .eq 18, 3) := by decide +kernel
theorem dH_divide_63 : decode b_H_divide 63 = .ok (.aload_n 0, 1) := by decide +kernel
theorem dH_divide_64 : decode b_H_divide 64 = .ok (.getfield 32, 3) := by decide +kernel
theorem dH_divide_67 : decode b_H_divide 67 = .ok (.invokevirtual 108, 3) := by decide +kernel
theorem dH_divide_70 : decode b_H_divide 70 = .ok (.aload_n 0, 1) := by decide +kernel
theorem dH_divide_71 : decode b_H_divide 71 = .ok (.iload_n 1, 1) := by decide +kernel
theorem dH_divide_72 : decode b_H_divide 72 = .ok (.invokevirtual 99, 3) := by decide +kernel
theorem dH_divide_75 : decode b_H_divide 75 = .ok (.goto 16, 3) := by decide +kernel
theorem dH_divide_78 : decode b_H_divide 78 = .ok (.aload_n 0, 1) := by decide +kernel
theorem dH_divide_79 : decode b_H_divide 79 = .ok (.getfield 32, 3) := by decide +kernel
theorem dH_divide_82 : decode b_H_divide 82 = .ok (.aload_n 0, 1) := by decide +kernel
theorem dH_divide_83 : decode b_H_divide 83 = .ok (.getfield 11, 3) := by decide +kernel
theorem dH_divide_86 : decode b_H_divide 86 = .ok (.iload_n 1, 1) := by decide +kernel
theorem dH_divide_87 : decode b_H_divide 87 = .ok (.aaload, 1) := by decide +kernel
theorem dH_divide_88 : decode b_H_divide 88 = .ok (.invokevirtual 81, 3) := by decide +kernel
theorem dH_divide_91 : decode b_H_divide 91 = .ok (.return_, 1) := by decide +kernel
theorem dH_derive_0 : decode b_H_derive 0 = .ok (.iload_n 1, 1) := by decide +kernel
theorem dH_derive_1 : decode b_H_derive 1 = .ok (.invokestatic 48, 3) := by decide +kernel
theorem dH_derive_4 : decode b_H_derive 4 = .ok (.iload_n 2, 1) := by decide +kernel
theorem dH_derive_5 : decode b_H_derive 5 = .ok (.invokestatic 48, 3) := by decide +kernel
theorem dH_derive_8 : decode b_H_derive 8 = .ok (.iload_n 3, 1) := by decide +kernel
theorem dH_derive_9 : decode b_H_derive 9 = .ok (.invokestatic 58, 3) := by decide +kernel
theorem dH_derive_12 : decode b_H_derive 12 = .ok (.aload_n 0, 1) := by decide +kernel
theorem dH_derive_13 : decode b_H_derive 13 = .ok (.getfield 11, 3) := by decide +kernel
theorem dH_derive_16 : decode b_H_derive 16 = .ok (.iload_n 2, 1) := by decide +kernel
theorem dH_derive_17 : decode b_H_derive 17 = .ok (.aaload, 1) := by decide +kernel
theorem dH_derive_18 : decode b_H_derive 18 = .ok (.astore 4, 2) := by decide +kernel
theorem dH_derive_20 : decode b_H_derive 20 = .ok (.aload_n 0, 1) := by decide +kernel
theorem dH_derive_21 : decode b_H_derive 21 = .ok (.getfield 44, 3) := by decide +kernel
theorem dH_derive_24 : decode b_H_derive 24 = .ok (.invokevirtual 61, 3) := by decide +kernel
theorem dH_derive_27 : decode b_H_derive 27 = .ok (.iconst 0, 1) := by decide +kernel
theorem dH_derive_28 : decode b_H_derive 28 = .ok (.istore 5, 2) := by decide +kernel
theorem dH_derive_30 : decode b_H_derive 30 = .ok (.iload 5, 2) := by decide +kernel
theorem dH_derive_32 : decode b_H_derive 32 = .ok (.aload 4, 2) := by decide +kernel
theorem dH_derive_34 : decode b_H_derive 34 = .ok (.getfield 109, 3) := by decide +kernel
theorem dH_derive_37 : decode b_H_derive 37 = .ok (.if_icmp .ge 70, 3) := by decide +kernel
theorem dH_derive_40 : decode b_H_derive 40 = .ok (.aload 4, 2) := by decide +kernel
theorem dH_derive_42 : decode b_H_derive 42 = .ok (.getfield 113, 3) := by decide +kernel
theorem dH_derive_45 : decode b_H_derive 45 = .ok (.iload 5, 2) := by decide +kernel
theorem dH_derive_47 : decode b_H_derive 47 = .ok (.iaload, 1) := by decide +kernel
theorem dH_derive_48 : decode b_H_derive 48 = .ok (.istore 6, 2) := by decide +kernel
theorem dH_derive_50 : decode b_H_derive 50 = .ok (.aload_n 0, 1) := by decide +kernel
theorem dH_derive_51 : decode b_H_derive 51 = .ok (.getfield 23, 3) := by decide +kernel
theorem dH_derive_54 : decode b_H_derive 54 = .ok (.iload 6, 2) := by decide +kernel
theorem dH_derive_56 : decode b_H_derive 56 = .ok (.iload_n 3, 1) := by decide +kernel
theorem dH_derive_57 : decode b_H_derive 57 = .ok (.invokestatic 117, 3) := by decide +kernel
theorem dH_derive_60 : decode b_H_derive 60 = .ok (.invokevirtual 51, 3) := by decide +kernel
theorem dH_derive_63 : decode b_H_derive 63 = .ok (.istore 7, 2) := by decide +kernel
theorem dH_derive_65 : decode b_H_derive 65 = .ok (.iload 7, 2) := by decide +kernel
theorem dH_derive_67 : decode b_H_derive 67 = .ok (.ifCond .eq 34, 3) := by decide +kernel
theorem dH_derive_70 : decode b_H_derive 70 = .ok (.aload_n 0, 1) := by decide +kernel
theorem dH_derive_71 : decode b_H_derive 71 = .ok (.getfield 44, 3) := by decide +kernel
theorem dH_derive_74 : decode b_H_derive 74 = .ok (.iload 6, 2) := by decide +kernel
theorem dH_derive_76 : decode b_H_derive 76 = .ok (.iload_n 3, 1) := by decide +kernel
theorem dH_derive_77 : decode b_H_derive 77 = .ok (.invokestatic 64, 3) := by decide +kernel
theorem dH_derive_80 : decode b_H_derive 80 = .ok (.isub, 1) := by decide +kernel
theorem dH_derive_81 : decode b_H_derive 81 = .ok (.aload_n 0, 1) := by decide +kernel
theorem dH_derive_82 : decode b_H_derive 82 = .ok (.getfield 23, 3) := by decide +kernel
theorem dH_derive_85 : decode b_H_derive 85 = .ok (.iload 7, 2) := by decide +kernel
theorem dH_derive_87 : decode b_H_derive 87 = .ok (.aload 4, 2) := by decide +kernel
theorem dH_derive_89 : decode b_H_derive 89 = .ok (.getfield 121, 3) := by decide +kernel
theorem dH_derive_92 : decode b_H_derive 92 = .ok (.iload 5, 2) := by decide +kernel
theorem dH_derive_94 : decode b_H_derive 94 = .ok (.iaload, 1) := by decide +kernel
theorem dH_derive_95 : decode b_H_derive 95 = .ok (.invokevirtual 124, 3) := by decide +kernel
theorem dH_derive_98 : decode b_H_derive 98 = .ok (.invokevirtual 69, 3) := by decide +kernel
theorem dH_derive_101 : decode b_H_derive 101 = .ok (.iinc 5 1, 3) := by decide +kernel
theorem dH_derive_104 : decode b_H_derive 104 = .ok (.goto (-74), 3) := by decide +kernel
theorem dH_derive_107 : decode b_H_derive 107 = .ok (.aload_n 0, 1) := by decide +kernel
theorem dH_derive_108 : decode b_H_derive 108 = .ok (.iload_n 1, 1) := by decide +kernel
theorem dH_derive_109 : decode b_H_derive 109 = .ok (.invokevirtual 99, 3) := by decide +kernel
theorem dH_derive_112 : decode b_H_derive 112 = .ok (.return_, 1) := by decide +kernel
theorem dH_put_0 : decode b_H_put 0 = .ok (.iload_n 1, 1) := by decide +kernel
theorem dH_put_1 : decode b_H_put 1 = .ok (.iload_n 2, 1) := by decide +kernel
theorem dH_put_2 : decode b_H_put 2 = .ok (.iload 4, 2) := by decide +kernel
theorem dH_put_4 : decode b_H_put 4 = .ok (.invokestatic 73, 3) := by decide +kernel
theorem dH_put_7 : decode b_H_put 7 = .ok (.iload_n 3, 1) := by decide +kernel
theorem dH_put_8 : decode b_H_put 8 = .ok (.invokestatic 58, 3) := by decide +kernel
theorem dH_put_11 : decode b_H_put 11 = .ok (.aload_n 0, 1) := by decide +kernel
theorem dH_put_12 : decode b_H_put 12 = .ok (.getfield 11, 3) := by decide +kernel
theorem dH_put_15 : decode b_H_put 15 = .ok (.iload_n 2, 1) := by decide +kernel
theorem dH_put_16 : decode b_H_put 16 = .ok (.aaload, 1) := by decide +kernel
theorem dH_put_17 : decode b_H_put 17 = .ok (.astore 5, 2) := by decide +kernel
theorem dH_put_19 : decode b_H_put 19 = .ok (.aload_n 0, 1) := by decide +kernel
theorem dH_put_20 : decode b_H_put 20 = .ok (.getfield 11, 3) := by decide +kernel
theorem dH_put_23 : decode b_H_put 23 = .ok (.iload 4, 2) := by decide +kernel
theorem dH_put_25 : decode b_H_put 25 = .ok (.aaload, 1) := by decide +kernel
theorem dH_put_26 : decode b_H_put 26 = .ok (.astore 6, 2) := by decide +kernel
theorem dH_put_28 : decode b_H_put 28 = .ok (.aload 5, 2) := by decide +kernel
theorem dH_put_30 : decode b_H_put 30 = .ok (.iload_n 3, 1) := by decide +kernel
theorem dH_put_31 : decode b_H_put 31 = .ok (.invokevirtual 85, 3) := by decide +kernel
theorem dH_put_34 : decode b_H_put 34 = .ok (.istore 7, 2) := by decide +kernel
theorem dH_put_36 : decode b_H_put 36 = .ok (.iconst 0, 1) := by decide +kernel
theorem dH_put_37 : decode b_H_put 37 = .ok (.istore 8, 2) := by decide +kernel
theorem dH_put_39 : decode b_H_put 39 = .ok (.iload 8, 2) := by decide +kernel
theorem dH_put_41 : decode b_H_put 41 = .ok (.iconst 3, 1) := by decide +kernel
theorem dH_put_42 : decode b_H_put 42 = .ok (.if_icmp .ge 51, 3) := by decide +kernel
theorem dH_put_45 : decode b_H_put 45 = .ok (.iload 8, 2) := by decide +kernel
theorem dH_put_47 : decode b_H_put 47 = .ok (.iload_n 3, 1) := by decide +kernel
theorem dH_put_48 : decode b_H_put 48 = .ok (.if_icmp .ne 7, 3) := by decide +kernel
theorem dH_put_51 : decode b_H_put 51 = .ok (.iconst 0, 1) := by decide +kernel
theorem dH_put_52 : decode b_H_put 52 = .ok (.goto 10, 3) := by decide +kernel
theorem dH_put_55 : decode b_H_put 55 = .ok (.aload 5, 2) := by decide +kernel
theorem dH_put_57 : decode b_H_put 57 = .ok (.iload 8, 2) := by decide +kernel
theorem dH_put_59 : decode b_H_put 59 = .ok (.invokevirtual 85, 3) := by decide +kernel
theorem dH_put_62 : decode b_H_put 62 = .ok (.istore 9, 2) := by decide +kernel
theorem dH_put_64 : decode b_H_put 64 = .ok (.iload 9, 2) := by decide +kernel
theorem dH_put_66 : decode b_H_put 66 = .ok (.iload 7, 2) := by decide +kernel
theorem dH_put_68 : decode b_H_put 68 = .ok (.aload 6, 2) := by decide +kernel
theorem dH_put_70 : decode b_H_put 70 = .ok (.iload 8, 2) := by decide +kernel
theorem dH_put_72 : decode b_H_put 72 = .ok (.invokevirtual 85, 3) := by decide +kernel
theorem dH_put_75 : decode b_H_put 75 = .ok (.imul, 1) := by decide +kernel
theorem dH_put_76 : decode b_H_put 76 = .ok (.iadd, 1) := by decide +kernel
theorem dH_put_77 : decode b_H_put 77 = .ok (.bipush 12, 2) := by decide +kernel
theorem dH_put_79 : decode b_H_put 79 = .ok (.if_icmp .le 8, 3) := by decide +kernel
theorem dH_put_82 : decode b_H_put 82 = .ok (.aload_n 0, 1) := by decide +kernel
theorem dH_put_83 : decode b_H_put 83 = .ok (.invokevirtual 88, 3) := by decide +kernel
theorem dH_put_86 : decode b_H_put 86 = .ok (.ireturn, 1) := by decide +kernel
theorem dH_put_87 : decode b_H_put 87 = .ok (.iinc 8 1, 3) := by decide +kernel
theorem dH_put_90 : decode b_H_put 90 = .ok (.goto (-51), 3) := by decide +kernel
theorem dH_put_93 : decode b_H_put 93 = .ok (.aload_n 0, 1) := by decide +kernel
theorem dH_put_94 : decode b_H_put 94 = .ok (.getfield 44, 3) := by decide +kernel
theorem dH_put_97 : decode b_H_put 97 = .ok (.invokevirtual 61, 3) := by decide +kernel
theorem dH_put_100 : decode b_H_put 100 = .ok (.iload 7, 2) := by decide +kernel
theorem dH_put_102 : decode b_H_put 102 = .ok (.istore 8, 2) := by decide +kernel
theorem dH_put_104 : decode b_H_put 104 = .ok (.iload 8, 2) := by decide +kernel
theorem dH_put_106 : decode b_H_put 106 = .ok (.ifCond .lt 45, 3) := by decide +kernel
theorem dH_put_109 : decode b_H_put 109 = .ok (.aload_n 0, 1) := by decide +kernel
theorem dH_put_110 : decode b_H_put 110 = .ok (.getfield 32, 3) := by decide +kernel
theorem dH_put_113 : decode b_H_put 113 = .ok (.aload_n 0, 1) := by decide +kernel
theorem dH_put_114 : decode b_H_put 114 = .ok (.getfield 44, 3) := by decide +kernel
theorem dH_put_117 : decode b_H_put 117 = .ok (.aload 6, 2) := by decide +kernel
theorem dH_put_119 : decode b_H_put 119 = .ok (.invokevirtual 92, 3) := by decide +kernel
theorem dH_put_122 : decode b_H_put 122 = .ok (.aload_n 0, 1) := by decide +kernel
theorem dH_put_123 : decode b_H_put 123 = .ok (.getfield 32, 3) := by decide +kernel
theorem dH_put_126 : decode b_H_put 126 = .ok (.aload 5, 2) := by decide +kernel
theorem dH_put_128 : decode b_H_put 128 = .ok (.iload_n 3, 1) := by decide +kernel
theorem dH_put_129 : decode b_H_put 129 = .ok (.iload 8, 2) := by decide +kernel
theorem dH_put_131 : decode b_H_put 131 = .ok (.invokevirtual 127, 3) := by decide +kernel
theorem dH_put_134 : decode b_H_put 134 = .ok (.aload_n 0, 1) := by decide +kernel
theorem dH_put_135 : decode b_H_put 135 = .ok (.getfield 32, 3) := by decide +kernel
theorem dH_put_138 : decode b_H_put 138 = .ok (.aload_n 0, 1) := by decide +kernel
theorem dH_put_139 : decode b_H_put 139 = .ok (.getfield 44, 3) := by decide +kernel
theorem dH_put_142 : decode b_H_put 142 = .ok (.invokevirtual 81, 3) := by decide +kernel
theorem dH_put_145 : decode b_H_put 145 = .ok (.iinc 8 (-1), 3) := by decide +kernel
theorem dH_put_148 : decode b_H_put 148 = .ok (.goto (-44), 3) := by decide +kernel
theorem dH_put_151 : decode b_H_put 151 = .ok (.aload_n 0, 1) := by decide +kernel
theorem dH_put_152 : decode b_H_put 152 = .ok (.iload_n 1, 1) := by decide +kernel
theorem dH_put_153 : decode b_H_put 153 = .ok (.invokevirtual 99, 3) := by decide +kernel
theorem dH_put_156 : decode b_H_put 156 = .ok (.iconst 1, 1) := by decide +kernel
theorem dH_put_157 : decode b_H_put 157 = .ok (.ireturn, 1) := by decide +kernel
theorem dH_resultant_0 : decode b_H_resultant 0 = .ok (.iload_n 1, 1) := by decide +kernel
theorem dH_resultant_1 : decode b_H_resultant 1 = .ok (.iload_n 2, 1) := by decide +kernel
theorem dH_resultant_2 : decode b_H_resultant 2 = .ok (.iload_n 3, 1) := by decide +kernel
theorem dH_resultant_3 : decode b_H_resultant 3 = .ok (.invokestatic 73, 3) := by decide +kernel
theorem dH_resultant_6 : decode b_H_resultant 6 = .ok (.iload 4, 2) := by decide +kernel
theorem dH_resultant_8 : decode b_H_resultant 8 = .ok (.invokestatic 58, 3) := by decide +kernel
theorem dH_resultant_11 : decode b_H_resultant 11 = .ok (.aload_n 0, 1) := by decide +kernel
theorem dH_resultant_12 : decode b_H_resultant 12 = .ok (.getfield 11, 3) := by decide +kernel
theorem dH_resultant_15 : decode b_H_resultant 15 = .ok (.iload_n 2, 1) := by decide +kernel
theorem dH_resultant_16 : decode b_H_resultant 16 = .ok (.aaload, 1) := by decide +kernel
theorem dH_resultant_17 : decode b_H_resultant 17 = .ok (.astore 5, 2) := by decide +kernel
theorem dH_resultant_19 : decode b_H_resultant 19 = .ok (.aload_n 0, 1) := by decide +kernel
theorem dH_resultant_20 : decode b_H_resultant 20 = .ok (.getfield 11, 3) := by decide +kernel
theorem dH_resultant_23 : decode b_H_resultant 23 = .ok (.iload_n 3, 1) := by decide +kernel
theorem dH_resultant_24 : decode b_H_resultant 24 = .ok (.aaload, 1) := by decide +kernel
theorem dH_resultant_25 : decode b_H_resultant 25 = .ok (.astore 6, 2) := by decide +kernel
theorem dH_resultant_27 : decode b_H_resultant 27 = .ok (.aload 5, 2) := by decide +kernel
theorem dH_resultant_29 : decode b_H_resultant 29 = .ok (.iload 4, 2) := by decide +kernel
theorem dH_resultant_31 : decode b_H_resultant 31 = .ok (.invokevirtual 85, 3) := by decide +kernel
theorem dH_resultant_34 : decode b_H_resultant 34 = .ok (.istore 7, 2) := by decide +kernel
theorem dH_resultant_36 : decode b_H_resultant 36 = .ok (.aload 6, 2) := by decide +kernel
theorem dH_resultant_38 : decode b_H_resultant 38 = .ok (.iload 4, 2) := by decide +kernel
theorem dH_resultant_40 : decode b_H_resultant 40 = .ok (.invokevirtual 85, 3) := by decide +kernel
theorem dH_resultant_43 : decode b_H_resultant 43 = .ok (.istore 8, 2) := by decide +kernel
theorem dH_resultant_45 : decode b_H_resultant 45 = .ok (.aload 5, 2) := by decide +kernel
theorem dH_resultant_47 : decode b_H_resultant 47 = .ok (.invokevirtual 102, 3) := by decide +kernel
theorem dH_resultant_50 : decode b_H_resultant 50 = .ok (.ifCond .ne 21, 3) := by decide +kernel
theorem dH_resultant_53 : decode b_H_resultant 53 = .ok (.aload 6, 2) := by decide +kernel
theorem dH_resultant_55 : decode b_H_resultant 55 = .ok (.invokevirtual 102, 3) := by decide +kernel
theorem dH_resultant_58 : decode b_H_resultant 58 = .ok (.ifCond .ne 13, 3) := by decide +kernel
theorem dH_resultant_61 : decode b_H_resultant 61 = .ok (.iload 7, 2) := by decide +kernel
theorem dH_resultant_63 : decode b_H_resultant 63 = .ok (.iload 8, 2) := by decide +kernel
theorem dH_resultant_65 : decode b_H_resultant 65 = .ok (.iadd, 1) := by decide +kernel
theorem dH_resultant_66 : decode b_H_resultant 66 = .ok (.bipush 8, 2) := by decide +kernel
theorem dH_resultant_68 : decode b_H_resultant 68 = .ok (.if_icmp .le 11, 3) := by decide +kernel
theorem dH_resultant_71 : decode b_H_resultant 71 = .ok (.new 96, 3) := by decide +kernel
theorem dH_resultant_74 : decode b_H_resultant 74 = .ok (.dup, 1) := by decide +kernel
theorem dH_resultant_75 : decode b_H_resultant 75 = .ok (.invokespecial 98, 3) := by decide +kernel
theorem dH_resultant_78 : decode b_H_resultant 78 = .ok (.athrow, 1) := by decide +kernel
theorem dH_resultant_79 : decode b_H_resultant 79 = .ok (.iconst 0, 1) := by decide +kernel
theorem dH_resultant_80 : decode b_H_resultant 80 = .ok (.istore 9, 2) := by decide +kernel
theorem dH_resultant_82 : decode b_H_resultant 82 = .ok (.iload 9, 2) := by decide +kernel
theorem dH_resultant_84 : decode b_H_resultant 84 = .ok (.iconst 3, 1) := by decide +kernel
theorem dH_resultant_85 : decode b_H_resultant 85 = .ok (.if_icmp .ge 47, 3) := by decide +kernel
theorem dH_resultant_88 : decode b_H_resultant 88 = .ok (.iload 9, 2) := by decide +kernel
theorem dH_resultant_90 : decode b_H_resultant 90 = .ok (.iload 4, 2) := by decide +kernel
theorem dH_resultant_92 : decode b_H_resultant 92 = .ok (.if_icmp .eq 34, 3) := by decide +kernel
theorem dH_resultant_95 : decode b_H_resultant 95 = .ok (.iload 8, 2) := by decide +kernel
theorem dH_resultant_97 : decode b_H_resultant 97 = .ok (.aload 5, 2) := by decide +kernel
theorem dH_resultant_99 : decode b_H_resultant 99 = .ok (.iload 9, 2) := by decide +kernel
theorem dH_resultant_101 : decode b_H_resultant 101 = .ok (.invokevirtual 85, 3) := by decide +kernel
theorem dH_resultant_104 : decode b_H_resultant 104 = .ok (.imul, 1) := by decide +kernel
theorem dH_resultant_105 : decode b_H_resultant 105 = .ok (.iload 7, 2) := by decide +kernel
theorem dH_resultant_107 : decode b_H_resultant 107 = .ok (.aload 6, 2) := by decide +kernel
theorem dH_resultant_109 : decode b_H_resultant 109 = .ok (.iload 9, 2) := by decide +kernel
theorem dH_resultant_111 : decode b_H_resultant 111 = .ok (.invokevirtual 85, 3) := by decide +kernel
theorem dH_resultant_114 : decode b_H_resultant 114 = .ok (.imul, 1) := by decide +kernel
theorem dH_resultant_115 : decode b_H_resultant 115 = .ok (.iadd, 1) := by decide +kernel
theorem dH_resultant_116 : decode b_H_resultant 116 = .ok (.bipush 12, 2) := by decide +kernel
theorem dH_resultant_118 : decode b_H_resultant 118 = .ok (.if_icmp .le 8, 3) := by decide +kernel
theorem dH_resultant_121 : decode b_H_resultant 121 = .ok (.aload_n 0, 1) := by decide +kernel
theorem dH_resultant_122 : decode b_H_resultant 122 = .ok (.invokevirtual 88, 3) := by decide +kernel
theorem dH_resultant_125 : decode b_H_resultant 125 = .ok (.ireturn, 1) := by decide +kernel
theorem dH_resultant_126 : decode b_H_resultant 126 = .ok (.iinc 9 1, 3) := by decide +kernel
theorem dH_resultant_129 : decode b_H_resultant 129 = .ok (.goto (-47), 3) := by decide +kernel
theorem dH_resultant_132 : decode b_H_resultant 132 = .ok (.iconst 1, 1) := by decide +kernel
theorem dH_resultant_133 : decode b_H_resultant 133 = .ok (.iload 7, 2) := by decide +kernel
theorem dH_resultant_135 : decode b_H_resultant 135 = .ok (.iload 8, 2) := by decide +kernel
theorem dH_resultant_137 : decode b_H_resultant 137 = .ok (.iadd, 1) := by decide +kernel
theorem dH_resultant_138 : decode b_H_resultant 138 = .ok (.ishl, 1) := by decide +kernel
theorem dH_resultant_139 : decode b_H_resultant 139 = .ok (.iconst 1, 1) := by decide +kernel
theorem dH_resultant_140 : decode b_H_resultant 140 = .ok (.isub, 1) := by decide +kernel
theorem dH_resultant_141 : decode b_H_resultant 141 = .ok (.istore 9, 2) := by decide +kernel
theorem dH_resultant_143 : decode b_H_resultant 143 = .ok (.aload_n 0, 1) := by decide +kernel
theorem dH_resultant_144 : decode b_H_resultant 144 = .ok (.getfield 15, 3) := by decide +kernel
theorem dH_resultant_147 : decode b_H_resultant 147 = .ok (.iconst 0, 1) := by decide +kernel
theorem dH_resultant_148 : decode b_H_resultant 148 = .ok (.aaload, 1) := by decide +kernel
theorem dH_resultant_149 : decode b_H_resultant 149 = .ok (.iconst 1, 1) := by decide +kernel
theorem dH_resultant_150 : decode b_H_resultant 150 = .ok (.invokevirtual 55, 3) := by decide +kernel
theorem dH_resultant_153 : decode b_H_resultant 153 = .ok (.iconst 1, 1) := by decide +kernel
theorem dH_resultant_154 : decode b_H_resultant 154 = .ok (.istore 10, 2) := by decide +kernel
theorem dH_resultant_156 : decode b_H_resultant 156 = .ok (.iload 10, 2) := by decide +kernel
theorem dH_resultant_158 : decode b_H_resultant 158 = .ok (.iload 9, 2) := by decide +kernel
theorem dH_resultant_160 : decode b_H_resultant 160 = .ok (.if_icmp .gt 69, 3) := by decide +kernel
theorem dH_resultant_163 : decode b_H_resultant 163 = .ok (.iload 10, 2) := by decide +kernel
theorem dH_resultant_165 : decode b_H_resultant 165 = .ok (.invokestatic 130, 3) := by decide +kernel
theorem dH_resultant_168 : decode b_H_resultant 168 = .ok (.iconst 1, 1) := by decide +kernel
theorem dH_resultant_169 : decode b_H_resultant 169 = .ok (.isub, 1) := by decide +kernel
theorem dH_resultant_170 : decode b_H_resultant 170 = .ok (.istore 11, 2) := by decide +kernel
theorem dH_resultant_172 : decode b_H_resultant 172 = .ok (.iload 11, 2) := by decide +kernel
theorem dH_resultant_174 : decode b_H_resultant 174 = .ok (.iload 8, 2) := by decide +kernel
theorem dH_resultant_176 : decode b_H_resultant 176 = .ok (.if_icmp .ge 21, 3) := by decide +kernel
theorem dH_resultant_179 : decode b_H_resultant 179 = .ok (.aload_n 0, 1) := by decide +kernel
theorem dH_resultant_180 : decode b_H_resultant 180 = .ok (.iload 10, 2) := by decide +kernel
theorem dH_resultant_182 : decode b_H_resultant 182 = .ok (.aload 5, 2) := by decide +kernel
theorem dH_resultant_184 : decode b_H_resultant 184 = .ok (.iload 11, 2) := by decide +kernel
theorem dH_resultant_186 : decode b_H_resultant 186 = .ok (.iload 7, 2) := by decide +kernel
theorem dH_resultant_188 : decode b_H_resultant 188 = .ok (.iadd, 1) := by decide +kernel
theorem dH_resultant_189 : decode b_H_resultant 189 = .ok (.iload 4, 2) := by decide +kernel
theorem dH_resultant_191 : decode b_H_resultant 191 = .ok (.invokevirtual 135, 3) := by decide +kernel
theorem dH_resultant_194 : decode b_H_resultant 194 = .ok (.goto 15, 3) := by decide +kernel
theorem dH_resultant_197 : decode b_H_resultant 197 = .ok (.aload_n 0, 1) := by decide +kernel
theorem dH_resultant_198 : decode b_H_resultant 198 = .ok (.iload 10, 2) := by decide +kernel
theorem dH_resultant_200 : decode b_H_resultant 200 = .ok (.aload 6, 2) := by decide +kernel
theorem dH_resultant_202 : decode b_H_resultant 202 = .ok (.iload 11, 2) := by decide +kernel
theorem dH_resultant_204 : decode b_H_resultant 204 = .ok (.iload 4, 2) := by decide +kernel
theorem dH_resultant_206 : decode b_H_resultant 206 = .ok (.invokevirtual 135, 3) := by decide +kernel
theorem dH_resultant_209 : decode b_H_resultant 209 = .ok (.aload_n 0, 1) := by decide +kernel
theorem dH_resultant_210 : decode b_H_resultant 210 = .ok (.getfield 32, 3) := by decide +kernel
theorem dH_resultant_213 : decode b_H_resultant 213 = .ok (.aload_n 0, 1) := by decide +kernel
theorem dH_resultant_214 : decode b_H_resultant 214 = .ok (.getfield 15, 3) := by decide +kernel
theorem dH_resultant_217 : decode b_H_resultant 217 = .ok (.iload 10, 2) := by decide +kernel
theorem dH_resultant_219 : decode b_H_resultant 219 = .ok (.aaload, 1) := by decide +kernel
theorem dH_resultant_220 : decode b_H_resultant 220 = .ok (.invokevirtual 81, 3) := by decide +kernel
theorem dH_resultant_223 : decode b_H_resultant 223 = .ok (.iinc 10 1, 3) := by decide +kernel
theorem dH_resultant_226 : decode b_H_resultant 226 = .ok (.goto (-70), 3) := by decide +kernel
theorem dH_resultant_229 : decode b_H_resultant 229 = .ok (.aload_n 0, 1) := by decide +kernel
theorem dH_resultant_230 : decode b_H_resultant 230 = .ok (.getfield 32, 3) := by decide +kernel
theorem dH_resultant_233 : decode b_H_resultant 233 = .ok (.aload_n 0, 1) := by decide +kernel
theorem dH_resultant_234 : decode b_H_resultant 234 = .ok (.getfield 15, 3) := by decide +kernel
theorem dH_resultant_237 : decode b_H_resultant 237 = .ok (.iload 9, 2) := by decide +kernel
theorem dH_resultant_239 : decode b_H_resultant 239 = .ok (.aaload, 1) := by decide +kernel
theorem dH_resultant_240 : decode b_H_resultant 240 = .ok (.iconst 1, 1) := by decide +kernel
theorem dH_resultant_241 : decode b_H_resultant 241 = .ok (.iconst 0, 1) := by decide +kernel
theorem dH_resultant_242 : decode b_H_resultant 242 = .ok (.invokevirtual 77, 3) := by decide +kernel
theorem dH_resultant_245 : decode b_H_resultant 245 = .ok (.aload_n 0, 1) := by decide +kernel
theorem dH_resultant_246 : decode b_H_resultant 246 = .ok (.getfield 32, 3) := by decide +kernel
theorem dH_resultant_249 : decode b_H_resultant 249 = .ok (.aload_n 0, 1) := by decide +kernel
theorem dH_resultant_250 : decode b_H_resultant 250 = .ok (.getfield 11, 3) := by decide +kernel
theorem dH_resultant_253 : decode b_H_resultant 253 = .ok (.iload_n 1, 1) := by decide +kernel
theorem dH_resultant_254 : decode b_H_resultant 254 = .ok (.aaload, 1) := by decide +kernel
theorem dH_resultant_255 : decode b_H_resultant 255 = .ok (.invokevirtual 81, 3) := by decide +kernel
theorem dH_resultant_258 : decode b_H_resultant 258 = .ok (.iconst 1, 1) := by decide +kernel
theorem dH_resultant_259 : decode b_H_resultant 259 = .ok (.ireturn, 1) := by decide +kernel
theorem dH_addExpansion_0 : decode b_H_addExpansion 0 = .ok (.iconst 0, 1) := by decide +kernel
theorem dH_addExpansion_1 : decode b_H_addExpansion 1 = .ok (.istore 5, 2) := by decide +kernel
theorem dH_addExpansion_3 : decode b_H_addExpansion 3 = .ok (.iload 5, 2) := by decide +kernel
theorem dH_addExpansion_5 : decode b_H_addExpansion 5 = .ok (.aload_n 2, 1) := by decide +kernel
theorem dH_addExpansion_6 : decode b_H_addExpansion 6 = .ok (.getfield 109, 3) := by decide +kernel
theorem dH_addExpansion_9 : decode b_H_addExpansion 9 = .ok (.if_icmp .ge 108, 3) := by decide +kernel
theorem dH_addExpansion_12 : decode b_H_addExpansion 12 = .ok (.aload_n 2, 1) := by decide +kernel
theorem dH_addExpansion_13 : decode b_H_addExpansion 13 = .ok (.getfield 113, 3) := by decide +kernel
theorem dH_addExpansion_16 : decode b_H_addExpansion 16 = .ok (.iload 5, 2) := by decide +kernel
theorem dH_addExpansion_18 : decode b_H_addExpansion 18 = .ok (.iaload, 1) := by decide +kernel
theorem dH_addExpansion_19 : decode b_H_addExpansion 19 = .ok (.istore 6, 2) := by decide +kernel
theorem dH_addExpansion_21 : decode b_H_addExpansion 21 = .ok (.iload_n 3, 1) := by decide +kernel
theorem dH_addExpansion_22 : decode b_H_addExpansion 22 = .ok (.iload 6, 2) := by decide +kernel
theorem dH_addExpansion_24 : decode b_H_addExpansion 24 = .ok (.iload 4, 2) := by decide +kernel
theorem dH_addExpansion_26 : decode b_H_addExpansion 26 = .ok (.invokestatic 117, 3) := by decide +kernel
theorem dH_addExpansion_29 : decode b_H_addExpansion 29 = .ok (.isub, 1) := by decide +kernel
theorem dH_addExpansion_30 : decode b_H_addExpansion 30 = .ok (.istore 7, 2) := by decide +kernel
theorem dH_addExpansion_32 : decode b_H_addExpansion 32 = .ok (.iload_n 1, 1) := by decide +kernel
theorem dH_addExpansion_33 : decode b_H_addExpansion 33 = .ok (.iload 7, 2) := by decide +kernel
theorem dH_addExpansion_35 : decode b_H_addExpansion 35 = .ok (.ishr, 1) := by decide +kernel
theorem dH_addExpansion_36 : decode b_H_addExpansion 36 = .ok (.iconst 1, 1) := by decide +kernel
theorem dH_addExpansion_37 : decode b_H_addExpansion 37 = .ok (.iand, 1) := by decide +kernel
theorem dH_addExpansion_38 : decode b_H_addExpansion 38 = .ok (.ifCond .eq 73, 3) := by decide +kernel
theorem dH_addExpansion_41 : decode b_H_addExpansion 41 = .ok (.iload_n 1, 1) := by decide +kernel
theorem dH_addExpansion_42 : decode b_H_addExpansion 42 = .ok (.iload 7, 2) := by decide +kernel
theorem dH_addExpansion_44 : decode b_H_addExpansion 44 = .ok (.ishr, 1) := by decide +kernel
theorem dH_addExpansion_45 : decode b_H_addExpansion 45 = .ok (.invokestatic 130, 3) := by decide +kernel
theorem dH_addExpansion_48 : decode b_H_addExpansion 48 = .ok (.iconst 1, 1) := by decide +kernel
theorem dH_addExpansion_49 : decode b_H_addExpansion 49 = .ok (.isub, 1) := by decide +kernel
theorem dH_addExpansion_50 : decode b_H_addExpansion 50 = .ok (.istore 8, 2) := by decide +kernel
theorem dH_addExpansion_52 : decode b_H_addExpansion 52 = .ok (.aload_n 2, 1) := by decide +kernel
theorem dH_addExpansion_53 : decode b_H_addExpansion 53 = .ok (.getfield 121, 3) := by decide +kernel
theorem dH_addExpansion_56 : decode b_H_addExpansion 56 = .ok (.iload 5, 2) := by decide +kernel
theorem dH_addExpansion_58 : decode b_H_addExpansion 58 = .ok (.iaload, 1) := by decide +kernel
theorem dH_addExpansion_59 : decode b_H_addExpansion 59 = .ok (.istore 9, 2) := by decide +kernel
theorem dH_addExpansion_61 : decode b_H_addExpansion 61 = .ok (.iload 8, 2) := by decide +kernel
theorem dH_addExpansion_63 : decode b_H_addExpansion 63 = .ok (.iconst 2, 1) := by decide +kernel
theorem dH_addExpansion_64 : decode b_H_addExpansion 64 = .ok (.irem, 1) := by decide +kernel
theorem dH_addExpansion_65 : decode b_H_addExpansion 65 = .ok (.ifCond .ne 8, 3) := by decide +kernel
theorem dH_addExpansion_68 : decode b_H_addExpansion 68 = .ok (.iload 9, 2) := by decide +kernel
theorem dH_addExpansion_70 : decode b_H_addExpansion 70 = .ok (.goto 12, 3) := by decide +kernel
theorem dH_addExpansion_73 : decode b_H_addExpansion 73 = .ok (.aload_n 0, 1) := by decide +kernel
theorem dH_addExpansion_74 : decode b_H_addExpansion 74 = .ok (.getfield 23, 3) := by decide +kernel
theorem dH_addExpansion_77 : decode b_H_addExpansion 77 = .ok (.iload 9, 2) := by decide +kernel
theorem dH_addExpansion_79 : decode b_H_addExpansion 79 = .ok (.invokevirtual 182, 3) := by decide +kernel
theorem dH_addExpansion_82 : decode b_H_addExpansion 82 = .ok (.istore 10, 2) := by decide +kernel
theorem dH_addExpansion_84 : decode b_H_addExpansion 84 = .ok (.aload_n 0, 1) := by decide +kernel
theorem dH_addExpansion_85 : decode b_H_addExpansion 85 = .ok (.getfield 32, 3) := by decide +kernel
theorem dH_addExpansion_88 : decode b_H_addExpansion 88 = .ok (.aload_n 0, 1) := by decide +kernel
theorem dH_addExpansion_89 : decode b_H_addExpansion 89 = .ok (.getfield 15, 3) := by decide +kernel
theorem dH_addExpansion_92 : decode b_H_addExpansion 92 = .ok (.iload_n 1, 1) := by decide +kernel
theorem dH_addExpansion_93 : decode b_H_addExpansion 93 = .ok (.iconst 1, 1) := by decide +kernel
theorem dH_addExpansion_94 : decode b_H_addExpansion 94 = .ok (.iload 7, 2) := by decide +kernel
theorem dH_addExpansion_96 : decode b_H_addExpansion 96 = .ok (.ishl, 1) := by decide +kernel
theorem dH_addExpansion_97 : decode b_H_addExpansion 97 = .ok (.ixor, 1) := by decide +kernel
theorem dH_addExpansion_98 : decode b_H_addExpansion 98 = .ok (.aaload, 1) := by decide +kernel
theorem dH_addExpansion_99 : decode b_H_addExpansion 99 = .ok (.iload 10, 2) := by decide +kernel
theorem dH_addExpansion_101 : decode b_H_addExpansion 101 = .ok (.iload 6, 2) := by decide +kernel
theorem dH_addExpansion_103 : decode b_H_addExpansion 103 = .ok (.iload 4, 2) := by decide +kernel
theorem dH_addExpansion_105 : decode b_H_addExpansion 105 = .ok (.invokestatic 185, 3) := by decide +kernel
theorem dH_addExpansion_108 : decode b_H_addExpansion 108 = .ok (.invokevirtual 77, 3) := by decide +kernel
theorem dH_addExpansion_111 : decode b_H_addExpansion 111 = .ok (.iinc 5 1, 3) := by decide +kernel
theorem dH_addExpansion_114 : decode b_H_addExpansion 114 = .ok (.goto (-111), 3) := by decide +kernel
theorem dH_addExpansion_117 : decode b_H_addExpansion 117 = .ok (.return_, 1) := by decide +kernel
theorem dH_value_0 : decode b_H_value 0 = .ok (.iload_n 1, 1) := by decide +kernel
theorem dH_value_1 : decode b_H_value 1 = .ok (.invokestatic 48, 3) := by decide +kernel
theorem dH_value_4 : decode b_H_value 4 = .ok (.aload_n 0, 1) := by decide +kernel
theorem dH_value_5 : decode b_H_value 5 = .ok (.getfield 39, 3) := by decide +kernel
theorem dH_value_8 : decode b_H_value 8 = .ok (.iconst 0, 1) := by decide +kernel
theorem dH_value_9 : decode b_H_value 9 = .ok (.aload_n 0, 1) := by decide +kernel
theorem dH_value_10 : decode b_H_value 10 = .ok (.getfield 23, 3) := by decide +kernel
theorem dH_value_13 : decode b_H_value 13 = .ok (.iload_n 2, 1) := by decide +kernel
theorem dH_value_14 : decode b_H_value 14 = .ok (.invokevirtual 51, 3) := by decide +kernel
theorem dH_value_17 : decode b_H_value 17 = .ok (.invokevirtual 139, 3) := by decide +kernel
theorem dH_value_20 : decode b_H_value 20 = .ok (.aload_n 0, 1) := by decide +kernel
theorem dH_value_21 : decode b_H_value 21 = .ok (.getfield 39, 3) := by decide +kernel
theorem dH_value_24 : decode b_H_value 24 = .ok (.iconst 1, 1) := by decide +kernel
theorem dH_value_25 : decode b_H_value 25 = .ok (.aload_n 0, 1) := by decide +kernel
theorem dH_value_26 : decode b_H_value 26 = .ok (.getfield 23, 3) := by decide +kernel
theorem dH_value_29 : decode b_H_value 29 = .ok (.iload_n 3, 1) := by decide +kernel
theorem dH_value_30 : decode b_H_value 30 = .ok (.invokevirtual 51, 3) := by decide +kernel
theorem dH_value_33 : decode b_H_value 33 = .ok (.invokevirtual 139, 3) := by decide +kernel
theorem dH_value_36 : decode b_H_value 36 = .ok (.aload_n 0, 1) := by decide +kernel
theorem dH_value_37 : decode b_H_value 37 = .ok (.getfield 39, 3) := by decide +kernel
theorem dH_value_40 : decode b_H_value 40 = .ok (.iconst 2, 1) := by decide +kernel
theorem dH_value_41 : decode b_H_value 41 = .ok (.aload_n 0, 1) := by decide +kernel
theorem dH_value_42 : decode b_H_value 42 = .ok (.getfield 23, 3) := by decide +kernel
theorem dH_value_45 : decode b_H_value 45 = .ok (.iload 4, 2) := by decide +kernel
theorem dH_value_47 : decode b_H_value 47 = .ok (.invokevirtual 51, 3) := by decide +kernel
theorem dH_value_50 : decode b_H_value 50 = .ok (.invokevirtual 139, 3) := by decide +kernel
theorem dH_value_53 : decode b_H_value 53 = .ok (.aload_n 0, 1) := by decide +kernel
theorem dH_value_54 : decode b_H_value 54 = .ok (.getfield 11, 3) := by decide +kernel
theorem dH_value_57 : decode b_H_value 57 = .ok (.iload_n 1, 1) := by decide +kernel
theorem dH_value_58 : decode b_H_value 58 = .ok (.aaload, 1) := by decide +kernel
theorem dH_value_59 : decode b_H_value 59 = .ok (.astore 5, 2) := by decide +kernel
theorem dH_value_61 : decode b_H_value 61 = .ok (.iconst 0, 1) := by decide +kernel
theorem dH_value_62 : decode b_H_value 62 = .ok (.istore 6, 2) := by decide +kernel
theorem dH_value_64 : decode b_H_value 64 = .ok (.iconst 0, 1) := by decide +kernel
theorem dH_value_65 : decode b_H_value 65 = .ok (.istore 7, 2) := by decide +kernel
theorem dH_value_67 : decode b_H_value 67 = .ok (.iload 7, 2) := by decide +kernel
theorem dH_value_69 : decode b_H_value 69 = .ok (.aload 5, 2) := by decide +kernel
theorem dH_value_71 : decode b_H_value 71 = .ok (.getfield 109, 3) := by decide +kernel
theorem dH_value_74 : decode b_H_value 74 = .ok (.if_icmp .ge 43, 3) := by decide +kernel
theorem dH_value_77 : decode b_H_value 77 = .ok (.aload_n 0, 1) := by decide +kernel
theorem dH_value_78 : decode b_H_value 78 = .ok (.getfield 23, 3) := by decide +kernel
theorem dH_value_81 : decode b_H_value 81 = .ok (.iload 6, 2) := by decide +kernel
theorem dH_value_83 : decode b_H_value 83 = .ok (.aload 5, 2) := by decide +kernel
theorem dH_value_85 : decode b_H_value 85 = .ok (.getfield 121, 3) := by decide +kernel
theorem dH_value_88 : decode b_H_value 88 = .ok (.iload 7, 2) := by decide +kernel
theorem dH_value_90 : decode b_H_value 90 = .ok (.iaload, 1) := by decide +kernel
theorem dH_value_91 : decode b_H_value 91 = .ok (.aload_n 0, 1) := by decide +kernel
theorem dH_value_92 : decode b_H_value 92 = .ok (.getfield 39, 3) := by decide +kernel
theorem dH_value_95 : decode b_H_value 95 = .ok (.aload 5, 2) := by decide +kernel
theorem dH_value_97 : decode b_H_value 97 = .ok (.getfield 113, 3) := by decide +kernel
theorem dH_value_100 : decode b_H_value 100 = .ok (.iload 7, 2) := by decide +kernel
theorem dH_value_102 : decode b_H_value 102 = .ok (.iaload, 1) := by decide +kernel
theorem dH_value_103 : decode b_H_value 103 = .ok (.invokevirtual 142, 3) := by decide +kernel
theorem dH_value_106 : decode b_H_value 106 = .ok (.invokevirtual 145, 3) := by decide +kernel
theorem dH_value_109 : decode b_H_value 109 = .ok (.istore 6, 2) := by decide +kernel
theorem dH_value_111 : decode b_H_value 111 = .ok (.iinc 7 1, 3) := by decide +kernel
theorem dH_value_114 : decode b_H_value 114 = .ok (.goto (-47), 3) := by decide +kernel
theorem dH_value_117 : decode b_H_value 117 = .ok (.iload 6, 2) := by decide +kernel
theorem dH_value_119 : decode b_H_value 119 = .ok (.ireturn, 1) := by decide +kernel
theorem dH_terms_0 : decode b_H_terms 0 = .ok (.iload_n 1, 1) := by decide +kernel
theorem dH_terms_1 : decode b_H_terms 1 = .ok (.invokestatic 48, 3) := by decide +kernel
theorem dH_terms_4 : decode b_H_terms 4 = .ok (.aload_n 0, 1) := by decide +kernel
theorem dH_terms_5 : decode b_H_terms 5 = .ok (.getfield 11, 3) := by decide +kernel
theorem dH_terms_8 : decode b_H_terms 8 = .ok (.iload_n 1, 1) := by decide +kernel
theorem dH_terms_9 : decode b_H_terms 9 = .ok (.aaload, 1) := by decide +kernel
theorem dH_terms_10 : decode b_H_terms 10 = .ok (.getfield 109, 3) := by decide +kernel
theorem dH_terms_13 : decode b_H_terms 13 = .ok (.ireturn, 1) := by decide +kernel
theorem dH_term_0 : decode b_H_term 0 = .ok (.iload_n 1, 1) := by decide +kernel
theorem dH_term_1 : decode b_H_term 1 = .ok (.invokestatic 48, 3) := by decide +kernel
theorem dH_term_4 : decode b_H_term 4 = .ok (.aload_n 0, 1) := by decide +kernel
theorem dH_term_5 : decode b_H_term 5 = .ok (.getfield 11, 3) := by decide +kernel
theorem dH_term_8 : decode b_H_term 8 = .ok (.iload_n 1, 1) := by decide +kernel
theorem dH_term_9 : decode b_H_term 9 = .ok (.aaload, 1) := by decide +kernel
theorem dH_term_10 : decode b_H_term 10 = .ok (.astore 4, 2) := by decide +kernel
theorem dH_term_12 : decode b_H_term 12 = .ok (.iload_n 2, 1) := by decide +kernel
theorem dH_term_13 : decode b_H_term 13 = .ok (.ifCond .lt 12, 3) := by decide +kernel
theorem dH_term_16 : decode b_H_term 16 = .ok (.iload_n 2, 1) := by decide +kernel
theorem dH_term_17 : decode b_H_term 17 = .ok (.aload 4, 2) := by decide +kernel
theorem dH_term_19 : decode b_H_term 19 = .ok (.getfield 109, 3) := by decide +kernel
theorem dH_term_22 : decode b_H_term 22 = .ok (.if_icmp .lt 11, 3) := by decide +kernel
theorem dH_term_25 : decode b_H_term 25 = .ok (.new 149, 3) := by decide +kernel
theorem dH_term_28 : decode b_H_term 28 = .ok (.dup, 1) := by decide +kernel
theorem dH_term_29 : decode b_H_term 29 = .ok (.invokespecial 151, 3) := by decide +kernel
theorem dH_term_32 : decode b_H_term 32 = .ok (.athrow, 1) := by decide +kernel
theorem dH_term_33 : decode b_H_term 33 = .ok (.iload_n 3, 1) := by decide +kernel
theorem dH_term_34 : decode b_H_term 34 = .ok (.ifCond .lt 8, 3) := by decide +kernel
theorem dH_term_37 : decode b_H_term 37 = .ok (.iload_n 3, 1) := by decide +kernel
theorem dH_term_38 : decode b_H_term 38 = .ok (.iconst 3, 1) := by decide +kernel
theorem dH_term_39 : decode b_H_term 39 = .ok (.if_icmp .le 11, 3) := by decide +kernel
theorem dH_term_42 : decode b_H_term 42 = .ok (.new 96, 3) := by decide +kernel
theorem dH_term_45 : decode b_H_term 45 = .ok (.dup, 1) := by decide +kernel
theorem dH_term_46 : decode b_H_term 46 = .ok (.invokespecial 98, 3) := by decide +kernel
theorem dH_term_49 : decode b_H_term 49 = .ok (.athrow, 1) := by decide +kernel
theorem dH_term_50 : decode b_H_term 50 = .ok (.iload_n 3, 1) := by decide +kernel
theorem dH_term_51 : decode b_H_term 51 = .ok (.ifCond .ne 13, 3) := by decide +kernel
theorem dH_term_54 : decode b_H_term 54 = .ok (.aload 4, 2) := by decide +kernel
theorem dH_term_56 : decode b_H_term 56 = .ok (.getfield 121, 3) := by decide +kernel
theorem dH_term_59 : decode b_H_term 59 = .ok (.iload_n 2, 1) := by decide +kernel
theorem dH_term_60 : decode b_H_term 60 = .ok (.iaload, 1) := by decide +kernel
theorem dH_term_61 : decode b_H_term 61 = .ok (.goto 16, 3) := by decide +kernel
theorem dH_term_64 : decode b_H_term 64 = .ok (.aload 4, 2) := by decide +kernel
theorem dH_term_66 : decode b_H_term 66 = .ok (.getfield 113, 3) := by decide +kernel
theorem dH_term_69 : decode b_H_term 69 = .ok (.iload_n 2, 1) := by decide +kernel
theorem dH_term_70 : decode b_H_term 70 = .ok (.iaload, 1) := by decide +kernel
theorem dH_term_71 : decode b_H_term 71 = .ok (.iload_n 3, 1) := by decide +kernel
theorem dH_term_72 : decode b_H_term 72 = .ok (.iconst 1, 1) := by decide +kernel
theorem dH_term_73 : decode b_H_term 73 = .ok (.isub, 1) := by decide +kernel
theorem dH_term_74 : decode b_H_term 74 = .ok (.invokestatic 117, 3) := by decide +kernel
theorem dH_term_77 : decode b_H_term 77 = .ok (.ireturn, 1) := by decide +kernel
theorem dH_coefficient_0 : decode b_H_coefficient 0 = .ok (.iload_n 1, 1) := by decide +kernel
theorem dH_coefficient_1 : decode b_H_coefficient 1 = .ok (.invokestatic 48, 3) := by decide +kernel
theorem dH_coefficient_4 : decode b_H_coefficient 4 = .ok (.iload_n 2, 1) := by decide +kernel
theorem dH_coefficient_5 : decode b_H_coefficient 5 = .ok (.ifCond .lt 12, 3) := by decide +kernel
theorem dH_coefficient_8 : decode b_H_coefficient 8 = .ok (.iload_n 3, 1) := by decide +kernel
theorem dH_coefficient_9 : decode b_H_coefficient 9 = .ok (.ifCond .lt 8, 3) := by decide +kernel
theorem dH_coefficient_12 : decode b_H_coefficient 12 = .ok (.iload 4, 2) := by decide +kernel
theorem dH_coefficient_14 : decode b_H_coefficient 14 = .ok (.ifCond .ge 11, 3) := by decide +kernel
theorem dH_coefficient_17 : decode b_H_coefficient 17 = .ok (.new 96, 3) := by decide +kernel
theorem dH_coefficient_20 : decode b_H_coefficient 20 = .ok (.dup, 1) := by decide +kernel
theorem dH_coefficient_21 : decode b_H_coefficient 21 = .ok (.invokespecial 98, 3) := by decide +kernel
theorem dH_coefficient_24 : decode b_H_coefficient 24 = .ok (.athrow, 1) := by decide +kernel
theorem dH_coefficient_25 : decode b_H_coefficient 25 = .ok (.iload_n 2, 1) := by decide +kernel
theorem dH_coefficient_26 : decode b_H_coefficient 26 = .ok (.iload_n 3, 1) := by decide +kernel
theorem dH_coefficient_27 : decode b_H_coefficient 27 = .ok (.iload 4, 2) := by decide +kernel
theorem dH_coefficient_29 : decode b_H_coefficient 29 = .ok (.invokestatic 152, 3) := by decide +kernel
theorem dH_coefficient_32 : decode b_H_coefficient 32 = .ok (.ifCond .ne 5, 3) := by decide +kernel
theorem dH_coefficient_35 : decode b_H_coefficient 35 = .ok (.iconst 0, 1) := by decide +kernel
theorem dH_coefficient_36 : decode b_H_coefficient 36 = .ok (.ireturn, 1) := by decide +kernel
theorem dH_coefficient_37 : decode b_H_coefficient 37 = .ok (.aload_n 0, 1) := by decide +kernel
theorem dH_coefficient_38 : decode b_H_coefficient 38 = .ok (.getfield 11, 3) := by decide +kernel
theorem dH_coefficient_41 : decode b_H_coefficient 41 = .ok (.iload_n 1, 1) := by decide +kernel
theorem dH_coefficient_42 : decode b_H_coefficient 42 = .ok (.aaload, 1) := by decide +kernel
theorem dH_coefficient_43 : decode b_H_coefficient 43 = .ok (.iload_n 2, 1) := by decide +kernel
theorem dH_coefficient_44 : decode b_H_coefficient 44 = .ok (.iload_n 3, 1) := by decide +kernel
theorem dH_coefficient_45 : decode b_H_coefficient 45 = .ok (.iload 4, 2) := by decide +kernel
theorem dH_coefficient_47 : decode b_H_coefficient 47 = .ok (.invokestatic 156, 3) := by decide +kernel
theorem dH_coefficient_50 : decode b_H_coefficient 50 = .ok (.invokevirtual 159, 3) := by decide +kernel
theorem dH_coefficient_53 : decode b_H_coefficient 53 = .ok (.ireturn, 1) := by decide +kernel
theorem dH_degree_0 : decode b_H_degree 0 = .ok (.iload_n 1, 1) := by decide +kernel
theorem dH_degree_1 : decode b_H_degree 1 = .ok (.invokestatic 48, 3) := by decide +kernel
theorem dH_degree_4 : decode b_H_degree 4 = .ok (.iload_n 2, 1) := by decide +kernel
theorem dH_degree_5 : decode b_H_degree 5 = .ok (.invokestatic 58, 3) := by decide +kernel
theorem dH_degree_8 : decode b_H_degree 8 = .ok (.aload_n 0, 1) := by decide +kernel
theorem dH_degree_9 : decode b_H_degree 9 = .ok (.getfield 11, 3) := by decide +kernel
theorem dH_degree_12 : decode b_H_degree 12 = .ok (.iload_n 1, 1) := by decide +kernel
theorem dH_degree_13 : decode b_H_degree 13 = .ok (.aaload, 1) := by decide +kernel
theorem dH_degree_14 : decode b_H_degree 14 = .ok (.iload_n 2, 1) := by decide +kernel
theorem dH_degree_15 : decode b_H_degree 15 = .ok (.invokevirtual 85, 3) := by decide +kernel
theorem dH_degree_18 : decode b_H_degree 18 = .ok (.ireturn, 1) := by decide +kernel
theorem dH_isSame_0 : decode b_H_isSame 0 = .ok (.iload_n 1, 1) := by decide +kernel
theorem dH_isSame_1 : decode b_H_isSame 1 = .ok (.invokestatic 48, 3) := by decide +kernel
theorem dH_isSame_4 : decode b_H_isSame 4 = .ok (.iload_n 2, 1) := by decide +kernel
theorem dH_isSame_5 : decode b_H_isSame 5 = .ok (.invokestatic 48, 3) := by decide +kernel
theorem dH_isSame_8 : decode b_H_isSame 8 = .ok (.aload_n 0, 1) := by decide +kernel
theorem dH_isSame_9 : decode b_H_isSame 9 = .ok (.getfield 11, 3) := by decide +kernel
theorem dH_isSame_12 : decode b_H_isSame 12 = .ok (.iload_n 1, 1) := by decide +kernel
theorem dH_isSame_13 : decode b_H_isSame 13 = .ok (.aaload, 1) := by decide +kernel
theorem dH_isSame_14 : decode b_H_isSame 14 = .ok (.aload_n 0, 1) := by decide +kernel
theorem dH_isSame_15 : decode b_H_isSame 15 = .ok (.getfield 11, 3) := by decide +kernel
theorem dH_isSame_18 : decode b_H_isSame 18 = .ok (.iload_n 2, 1) := by decide +kernel
theorem dH_isSame_19 : decode b_H_isSame 19 = .ok (.aaload, 1) := by decide +kernel
theorem dH_isSame_20 : decode b_H_isSame 20 = .ok (.invokevirtual 162, 3) := by decide +kernel
theorem dH_isSame_23 : decode b_H_isSame 23 = .ok (.ireturn, 1) := by decide +kernel
end
section
/-! The heap as a function: M q = some (tag, entry) says what stands at address q; the tag names the owner (a ghost: no machine word). -/
abbrev Hm : Type := Nat → Option ((Nat × Nat) × va_E)
def hp_up (M : Hm) (a : Nat) (x : (Nat × Nat) × va_E) : Hm := fun q => if q = a then some x else M q
theorem hp_up_self (M : Hm) (a : Nat) (x : (Nat × Nat) × va_E) : hp_up M a x a = some x := by simp [hp_up]
theorem hp_up_ne {M : Hm} {a q : Nat} {x : (Nat × Nat) × va_E} (h : q ≠ a) : hp_up M a x q = M q := by simp [hp_up, h]
theorem hp_ne {M : Hm} {a b : Nat} {t u : Nat × Nat} {x y : va_E} (ha : M a = some (t, x)) (hb : M b = some (u, y)) (h : t ≠ u) : a ≠ b := by
  intro e
  subst e
  rw [ha] at hb
  exact h (congrArg Prod.fst (Option.some.inj hb))
theorem hp_fr {M : Hm} {q a : Nat} {x : (Nat × Nat) × va_E} (hq : M q = none) (ha : M a = some x) : a ≠ q := by
  intro e
  subst e
  rw [ha] at hq
  cases hq
/-- another cell stays over an update: by tags, or since the place was empty -/
theorem hp_kt {M : Hm} {a b : Nat} {t u : Nat × Nat} {x y : va_E} {z : (Nat × Nat) × va_E} (ha : M a = some (t, x)) (hb : M b = some (u, y)) (h : u ≠ t) : hp_up M a z b = some (u, y) := by
  rw [hp_up_ne (hp_ne hb ha h)]
  exact hb
theorem hp_kf {M : Hm} {a b : Nat} {z w : (Nat × Nat) × va_E} (ha : M a = none) (hb : M b = some w) : hp_up M a z b = some w := by
  rw [hp_up_ne (hp_fr ha hb)]
  exact hb
theorem tg2 {i j a b : Nat} (h : a ≠ b) : (i, a) ≠ (j, b) := fun e => h (congrArg Prod.snd e)
theorem tg1 {i j a b : Nat} (h : i ≠ j) : (i, a) ≠ (j, b) := fun e => h (congrArg Prod.fst e)
def hp_ok (D : va_G) (cl : List vw_C) (lo : Nat) (M : Hm) (H : Heap) : Prop := lo ≤ H.size ∧ ∀ (a : Nat) (t : Nat × Nat) (e : va_E), M a = some (t, e) → lo ≤ a ∧ va_at D cl (a, e) H
section HPO
variable {D : va_G} {cl : List vw_C} {lo : Nat} {M : Hm} {H H1 : Heap} {a : Nat} {t : Nat × Nat} {e e0 : va_E}
theorem hp_ok.tk (h : hp_ok D cl lo M H) (he : M a = some (t, e)) : va_at D cl (a, e) H := (h.2 a t e he).2
theorem hp_ok.P (h : hp_ok D cl lo M H) (he : M a = some (t, e)) : va_P D cl [(a, e)] H := by
  intro k q hk
  have hz : k < 1 := (List.getElem?_eq_some_iff.mp hk).1
  rw [show k = 0 by omega] at hk
  cases hk
  exact h.tk he
theorem hp_ok.fresh (h : hp_ok D cl lo M H) {q : Nat} (hq : H.size ≤ q) : M q = none := by
  cases hm : M q with
  | none => rfl
  | some x =>
    obtain ⟨t, e⟩ := x
    have h2 : q < H.size := (h.2 q t e hm).2.lt
    exact absurd h2 (by omega)
/-- a heap that kept all its cells holds what the old one held -/
theorem hp_ok.grown (h : hp_ok D cl lo M H) (z : H.size ≤ H1.size) (oq : ∀ q : Nat, q < H.size → H1[q]? = H[q]?) : hp_ok D cl lo M H1 := by
  refine ⟨Nat.le_trans h.1 z, fun b u x hb => ?_⟩
  obtain ⟨h2, h3⟩ := h.2 b u x hb
  have h4 : b < H.size := h3.lt
  exact ⟨h2, h3.kept (oq b h4)⟩
end HPO
/-- M's cells below n, as the kit's worlds have them: a list -/
def wl (M : Hm) : Nat → va_W
  | 0 => []
  | n + 1 => match M n with
    | none => wl M n
    | some x => wl M n ++ [(n, x.2)]
theorem wl_none {M : Hm} {n : Nat} (h : M n = none) : wl M (n + 1) = wl M n := by
  show (match M n with | none => wl M n | some x => wl M n ++ [(n, x.2)]) = _
  rw [h]
theorem wl_some {M : Hm} {n : Nat} {x : (Nat × Nat) × va_E} (h : M n = some x) : wl M (n + 1) = wl M n ++ [(n, x.2)] := by
  show (match M n with | none => wl M n | some x => wl M n ++ [(n, x.2)]) = _
  rw [h]
theorem wl_of {M : Hm} : ∀ {n k : Nat} {q : Nat × va_E}, (wl M n)[k]? = some q → q.1 < n ∧ ∃ t, M q.1 = some (t, q.2) := by
  intro n
  induction n with
  | zero => intro k q h; cases h
  | succ n ih =>
    intro k q h
    cases hm : M n with
    | none =>
      rw [wl_none hm] at h
      obtain ⟨h1, h2⟩ := ih h
      exact ⟨by omega, h2⟩
    | some x =>
      rw [wl_some hm] at h
      rcases List.mem_append.mp (List.mem_of_getElem? h) with hq | hq
      · obtain ⟨k2, h2⟩ := List.getElem?_of_mem hq
        obtain ⟨h1, h3⟩ := ih h2
        exact ⟨by omega, h3⟩
      · rw [List.mem_singleton] at hq
        subst hq
        exact ⟨Nat.lt_succ_self n, x.1, hm⟩
theorem wl_at {M : Hm} {a : Nat} {t : Nat × Nat} {e : va_E} (h : M a = some (t, e)) : ∀ {n : Nat}, a < n → ∃ k : Nat, (wl M n)[k]? = some (a, e) := by
  intro n hn
  suffices hs : (a, e) ∈ wl M n from List.getElem?_of_mem hs
  induction n with
  | zero => omega
  | succ n ih =>
    by_cases ha : a = n
    · subst ha
      rw [wl_some h]
      exact List.mem_append_right _ (List.mem_singleton.mpr rfl)
    · have h1 := ih (by omega)
      cases hm : M n with
      | none => rw [wl_none hm]; exact h1
      | some x => rw [wl_some hm]; exact List.mem_append_left _ h1
theorem wl_inj {M : Hm} : ∀ {n i j : Nat} {p q : Nat × va_E}, (wl M n)[i]? = some p → (wl M n)[j]? = some q → p.1 = q.1 → i = j := by
  intro n
  induction n with
  | zero => intro i j p q h; cases h
  | succ n ih =>
    intro i j p q hi hj he
    cases hm : M n with
    | none =>
      rw [wl_none hm] at hi hj
      exact ih hi hj he
    | some x =>
      rw [wl_some hm] at hi hj
      have li : i < (wl M n).length + 1 := by
        have := (List.getElem?_eq_some_iff.mp hi).1
        rwa [List.length_append, List.length_singleton] at this
      have lj : j < (wl M n).length + 1 := by
        have := (List.getElem?_eq_some_iff.mp hj).1
        rwa [List.length_append, List.length_singleton] at this
      by_cases ci : i < (wl M n).length
      · rw [List.getElem?_append_left ci] at hi
        by_cases cj : j < (wl M n).length
        · rw [List.getElem?_append_left cj] at hj
          exact ih hi hj he
        · have h1 := (wl_of hi).1
          rw [show j = (wl M n).length by omega, List.getElem?_append_right (Nat.le_refl _), Nat.sub_self] at hj
          cases hj
          exact absurd h1 (by rw [he]; exact Nat.lt_irrefl _)
      · by_cases cj : j < (wl M n).length
        · rw [List.getElem?_append_left cj] at hj
          have h1 := (wl_of hj).1
          rw [show i = (wl M n).length by omega, List.getElem?_append_right (Nat.le_refl _), Nat.sub_self] at hi
          cases hi
          exact absurd h1 (by rw [← he]; exact Nat.lt_irrefl _)
        · omega
/-- what a walk keeps: the heap holds M, and below lo nothing has changed since H0 -/
def hp_st (D : va_G) (cl : List vw_C) (lo : Nat) (M : Hm) (H0 H : Heap) (locs : List Loc) : Prop := hp_ok D cl lo M H ∧ va_S (fun q => lo ≤ q) H0 H locs ∧ lo ≤ H0.size
section HPS
variable {D : va_G} {cl : List vw_C} {lo : Nat} {M : Hm} {H0 H H1 : Heap} {locs locs1 : List Loc} {a : Nat} {t : Nat × Nat} {e e0 : va_E}
theorem hp_st.P (h : hp_st D cl lo M H0 H locs) : va_P D cl (wl M H.size) H := by
  intro k q hk
  obtain ⟨h1, t, h2⟩ := wl_of hk
  exact h.1.tk h2
theorem hp_st.Dd (h : hp_st D cl lo M H0 H locs) : va_D (fun q => lo ≤ q) (wl M H.size) := by
  refine ⟨fun i j p q hi hj he => wl_inj hi hj he, fun k q hk => ?_⟩
  obtain ⟨h1, t, h2⟩ := wl_of hk
  exact (h.1.2 _ _ _ h2).1
theorem hp_st.A (h : hp_st D cl lo M H0 H locs) : ∀ q : Nat, H0.size ≤ q → lo ≤ q := fun q hq => Nat.le_trans h.2.2 hq
theorem hp_st.ix (h : hp_st D cl lo M H0 H locs) (he : M a = some (t, e)) : ∃ k : Nat, (wl M H.size)[k]? = some (a, e) := wl_at he (h.1.tk he).lt
theorem hp_st.set (h : hp_st D cl lo M H0 H locs) {k : Nat} (hk : (wl M H.size)[k]? = some (a, e0)) (he : M a = some (t, e0)) (hP : va_P D cl ((wl M H.size).set k (a, e)) H1) (hS : va_S (fun q => lo ≤ q) H0 H1 locs1) : hp_st D cl lo (hp_up M a (t, e)) H0 H1 locs1 := by
  refine ⟨⟨Nat.le_trans h.2.2 hS.1, fun b u x hb => ?_⟩, hS, h.2.2⟩
  by_cases hq : b = a
  · subst hq
    rw [hp_up_self] at hb
    cases hb
    refine ⟨(h.1.2 b t e0 he).1, hP k _ ?_⟩
    rw [List.getElem?_set_self (List.getElem?_eq_some_iff.mp hk).1]
  · rw [hp_up_ne hq] at hb
    obtain ⟨j, hj⟩ := h.ix hb
    refine ⟨(h.1.2 b u x hb).1, hP j _ ?_⟩
    have hne : k ≠ j := by
      intro z
      subst z
      rw [hk] at hj
      exact hq (congrArg Prod.fst (Option.some.inj hj)).symm
    rw [List.getElem?_set_ne hne]
    exact hj
theorem hp_st.push (h : hp_st D cl lo M H0 H locs) {q : Nat} (hP : va_P D cl (wl M H.size ++ [(q, e)]) H1) (hD : va_D (fun q => lo ≤ q) (wl M H.size ++ [(q, e)])) (hS : va_S (fun q => lo ≤ q) H0 H1 locs1) : M q = none ∧ hp_st D cl lo (hp_up M q (t, e)) H0 H1 locs1 := by
  have hlast : (wl M H.size ++ [(q, e)])[(wl M H.size).length]? = some (q, e) := by
    rw [List.getElem?_append_right (Nat.le_refl _), Nat.sub_self]
    rfl
  have hin : ∀ {j : Nat} {z : Nat × va_E}, (wl M H.size)[j]? = some z → (wl M H.size ++ [(q, e)])[j]? = some z := by
    intro j z hj
    rw [List.getElem?_append_left (List.getElem?_eq_some_iff.mp hj).1]
    exact hj
  have hno : M q = none := by
    cases hm : M q with
    | none => rfl
    | some x =>
      obtain ⟨u, w⟩ := x
      obtain ⟨j, hj⟩ := h.ix hm
      have h1 := hD.1 _ _ _ _ (hin hj) hlast rfl
      have h2 := (List.getElem?_eq_some_iff.mp hj).1
      omega
  refine ⟨hno, ⟨Nat.le_trans h.2.2 hS.1, fun b u x hb => ?_⟩, hS, h.2.2⟩
  by_cases hq : b = q
  · subst hq
    rw [hp_up_self] at hb
    cases hb
    exact ⟨hD.2 _ _ hlast, hP _ _ hlast⟩
  · rw [hp_up_ne hq] at hb
    obtain ⟨j, hj⟩ := h.ix hb
    exact ⟨(h.1.2 b u x hb).1, hP j _ (hin hj)⟩
end HPS
/-- entries: an int array that holds numbers, a long array, arrays of references -/
abbrev e_n (Y : Nat → ClassId) (n : Nat) (g : Nat → Nat) : va_E := .inl (Y 0, n, .inl (fun k => nI (g k)))
abbrev e_l (Y : Nat → ClassId) (n : Nat) (f : Nat → Int64) : va_E := .inl (Y 1, n, .inr (.inl f))
abbrev e_q (Y : Nat → ClassId) (n : Nat) (f : Nat → Option Nat) : va_E := .inl (Y 2, n, .inr (.inr (.inr (.inr f))))
abbrev e_g (Y : Nat → ClassId) (n : Nat) (f : Nat → Option Nat) : va_E := .inl (Y 3, n, .inr (.inr (.inr (.inr f))))
/-- cells of owners outside S are the same in both -/
def hp_off (S : Nat → Prop) (M M' : Hm) : Prop := ∀ (q : Nat) (t : Nat × Nat) (e : va_E), ¬ S t.1 → (M q = some (t, e) ↔ M' q = some (t, e))
theorem hp_off.rf {S : Nat → Prop} {M : Hm} : hp_off S M M := fun _ _ _ _ => Iff.rfl
theorem hp_off.tr {S : Nat → Prop} {M M' M'' : Hm} (h : hp_off S M M') (h' : hp_off S M' M'') : hp_off S M M'' := fun q t e hn => (h q t e hn).trans (h' q t e hn)
theorem hp_off.wk {S S' : Nat → Prop} {M M' : Hm} (h : hp_off S M M') (hs : ∀ i, S i → S' i) : hp_off S' M M' := fun q t e hn => h q t e (fun z => hn (hs _ z))
theorem hp_off.of {S : Nat → Prop} {M M' : Hm} (h : hp_off S M M') {q : Nat} {t : Nat × Nat} {e : va_E} (hq : M q = some (t, e)) (hn : ¬ S t.1) : M' q = some (t, e) := (h q t e hn).mp hq
theorem hp_off.up {S : Nat → Prop} {M : Hm} {a : Nat} {t : Nat × Nat} {e e' : va_E} (ha : M a = some (t, e)) (hS : S t.1) : hp_off S M (hp_up M a (t, e')) := by
  intro q u x hn
  by_cases hq : q = a
  · subst hq
    rw [hp_up_self, ha]
    constructor
    · intro h
      cases h
      exact absurd hS hn
    · intro h
      cases h
      exact absurd hS hn
  · rw [hp_up_ne hq]
theorem hp_off.nw {S : Nat → Prop} {M : Hm} {a : Nat} {t : Nat × Nat} {e : va_E} (ha : M a = none) (hS : S t.1) : hp_off S M (hp_up M a (t, e)) := by
  intro q u x hn
  by_cases hq : q = a
  · subst hq
    rw [hp_up_self, ha]
    constructor
    · intro h
      cases h
    · intro h
      cases h
      exact absurd hS hn
  · rw [hp_up_ne hq]
section HPW
variable {p : Program} {l : Launch} {e : Env} {R : Room} {s : State} {m : MethodId} {args : Array Value} {below : List Frame} {meth : Method} {c : Code} {H : Heap} {locs : List Loc} {cells slots : Nat} {Q : State → Prop}
variable {cc : ByteArray} {pc : Nat} {ls : Array Slot} {rest : List Value} {D : va_G} {cl : List vw_C} {a : Nat} {tys : List (ClassId × FieldType)} {H0 : Heap} {lo : Nat} {M : Hm} {t : Nat × Nat} {Y : Nat → ClassId}
theorem hp_get (hexec : p.tables.exec = Jvm.exec) (hb : c.code = cc) {own ref C : String} {T : u_T} {N ci index : Nat} {Ts : List Cond} (hts : ∀ w ∈ Ts, w.before args s = true) (hin : ∀ w ∈ u_ws C T N, w ∈ Ts) (hown : s.vm.findClass own = some m.cls) (hK : va_K D cl tys s) (hst : hp_st D cl lo M H0 H locs) {fs : List Value} (he : M a = some (t, .inr (ci, fs))) (hc : cl[ci]? = some (C, T, N)) (k : Nat) (hk : k < N) (hlink : (Cond.fieldLink own index ref (T k).2.1 (T k).2.2.1).before args s = true) (hsame : (T k).1 = ref) {v : Value} (hv : fs[k]? = some v) (hdg : decode cc pc = .ok (.getfield index, 3))
    (kk : W p l e R s m args below meth c H locs cells slots Q (F0 m (pc + 3) ls (v :: rest))) : W p l e R s m args below meth c H locs cells slots Q (F0 m pc ls (.ref a :: rest)) :=
  va_get hexec hb hts hin hown hK (hst.1.P he) 0 rfl hc k hk hlink (fun x hx => by rw [← hsame]; exact hx) hv hdg kk
theorem hp_put (hexec : p.tables.exec = Jvm.exec) (hb : c.code = cc) {own ref C : String} {T : u_T} {N ci index : Nat} {Ts : List Cond} (hts : ∀ w ∈ Ts, w.before args s = true) (hin : ∀ w ∈ u_ws C T N, w ∈ Ts) (ty0 : Nat → FieldType) (hty : ∀ k, k < N → parseFieldDescriptor (T k).2.2.1 = some (ty0 k)) (hnm : ∀ a, a < N → ∀ b, b < N → a ≠ b → (T a).2.1 ≠ (T b).2.1) (hown : s.vm.findClass own = some m.cls) (hK : va_K D cl tys s) (hst : hp_st D cl lo M H0 H locs) {fs : List Value} (he : M a = some (t, .inr (ci, fs))) (hc : cl[ci]? = some (C, T, N)) (k : Nat) (hk : k < N) (hlink : (Cond.fieldLink own index ref (T k).2.1 (T k).2.2.1).before args s = true) (hsame : (T k).1 = ref) (hfin : (T k).2.2.2 = false) {v : Value} (hn : narrow (ty0 k) v = v) (hfit : fits (ty0 k) v = true) (hl : k < fs.length)
    (hdg : decode cc pc = .ok (.putfield index, 3)) {fs' : List Value} (hfs : fs.set k v = fs') (kk : ∀ (H1 : Heap) (locs1 : List Loc), hp_st D cl lo (hp_up M a (t, .inr (ci, fs'))) H0 H1 locs1 → W p l e R s m args below meth c H1 locs1 cells slots Q (F0 m (pc + 3) ls rest)) : W p l e R s m args below meth c H locs cells slots Q (F0 m pc ls (v :: .ref a :: rest)) := by
  subst hfs
  obtain ⟨k0, hk0⟩ := hst.ix he
  exact va_put hexec hb hts hin ty0 hty hnm hown hK hst.P hst.Dd hst.2.1 k0 hk0 hc k hk hlink (fun x hx => by rw [← hsame]; exact hx) hfin (hty k hk) hn hfit hl hdg (fun H1 locs1 hP _ hS => kk H1 locs1 (hst.set hk0 he hP hS))
theorem hp_putF (hexec : p.tables.exec = Jvm.exec) (hb : c.code = cc) {own ref C : String} {T : u_T} {N ci index : Nat} {Ts : List Cond} (hts : ∀ w ∈ Ts, w.before args s = true) (hin : ∀ w ∈ u_ws C T N, w ∈ Ts) (ty0 : Nat → FieldType) (hty : ∀ k, k < N → parseFieldDescriptor (T k).2.2.1 = some (ty0 k)) (hnm : ∀ a, a < N → ∀ b, b < N → a ≠ b → (T a).2.1 ≠ (T b).2.1) (hown : s.vm.findClass own = some m.cls) (hK : va_K D cl tys s) (hst : hp_st D cl lo M H0 H locs) {fs : List Value} (he : M a = some (t, .inr (ci, fs))) (hc : cl[ci]? = some (C, T, N)) (k : Nat) (hk : k < N) (hlink : (Cond.fieldLink own index ref (T k).2.1 (T k).2.2.1).before args s = true) (hsame : (T k).1 = ref) (hfin : (T k).2.2.2 = true) (hin2 : meth.name = "<init>") (hdecl : (T k).1 = own) {v : Value} (hn : narrow (ty0 k) v = v) (hfit : fits (ty0 k) v = true) (hl : k < fs.length)
    (hdg : decode cc pc = .ok (.putfield index, 3)) {fs' : List Value} (hfs : fs.set k v = fs') (kk : ∀ (H1 : Heap) (locs1 : List Loc), hp_st D cl lo (hp_up M a (t, .inr (ci, fs'))) H0 H1 locs1 → W p l e R s m args below meth c H1 locs1 cells slots Q (F0 m (pc + 3) ls rest)) : W p l e R s m args below meth c H locs cells slots Q (F0 m pc ls (v :: .ref a :: rest)) := by
  subst hfs
  obtain ⟨k0, hk0⟩ := hst.ix he
  exact va_putF hexec hb hts hin ty0 hty hnm hown hK hst.P hst.Dd hst.2.1 k0 hk0 hc k hk hlink (fun x hx => by rw [← hsame]; exact hx) hfin hin2 hdecl (hty k hk) hn hfit hl hdg (fun H1 locs1 hP _ hS => kk H1 locs1 (hst.set hk0 he hP hS))
/-- arrays of numbers -/
theorem hp_iald (hexec : p.tables.exec = Jvm.exec) (hb : c.code = cc) (hK : va_K D cl tys s) (ht : tys[0]? = some (Y 0, .int)) (hst : hp_st D cl lo M H0 H locs) {n j : Nat} {g : Nat → Nat} (he : M a = some (t, e_n Y n g)) (hj : j < n) (hn : n < 2 ^ 31) (hdg : decode cc pc = .ok (.iaload, 1))
    (kk : W p l e R s m args below meth c H locs cells slots Q (F0 m (pc + 1) ls (.int (nI (g j)) :: rest))) : W p l e R s m args below meth c H locs cells slots Q (F0 m pc ls (.int (nI j) :: .ref a :: rest)) := by
  refine va_iald hexec hb hK (hst.1.P he) 0 0 rfl ht (vp_in_nI hj hn) hdg ?_
  rw [nI_clamp (by omega)]
  exact kk
theorem hp_iast (hexec : p.tables.exec = Jvm.exec) (hb : c.code = cc) (hK : va_K D cl tys s) (ht : tys[0]? = some (Y 0, .int)) (hst : hp_st D cl lo M H0 H locs) {n j v : Nat} {g : Nat → Nat} (he : M a = some (t, e_n Y n g)) (hj : j < n) (hn : n < 2 ^ 31) (hdg : decode cc pc = .ok (.iastore, 1))
    (kk : ∀ (H1 : Heap) (locs1 : List Loc), hp_st D cl lo (hp_up M a (t, e_n Y n (va_up g j v))) H0 H1 locs1 → W p l e R s m args below meth c H1 locs1 cells slots Q (F0 m (pc + 1) ls rest)) : W p l e R s m args below meth c H locs cells slots Q (F0 m pc ls (.int (nI v) :: .int (nI j) :: .ref a :: rest)) := by
  obtain ⟨k0, hk0⟩ := hst.ix he
  refine va_iast hexec hb hK hst.P hst.Dd hst.2.1 k0 0 hk0 ht (vp_in_nI hj hn) hdg (fun H1 locs1 hP _ hS => kk H1 locs1 (hst.set hk0 he ?_ hS))
  have hf : upd (fun k => nI (g k)) (nI j).toNatClampNeg (nI v) = fun k => nI (va_up g j v k) := by
    rw [nI_clamp (by omega)]
    funext q
    by_cases hq : q = j
    · subst hq
      simp [upd, va_up]
    · simp [upd, va_up, hq]
  rw [hf] at hP
  exact hP
theorem hp_alen (hexec : p.tables.exec = Jvm.exec) (hb : c.code = cc) (hK : va_K D cl tys s) (ht : tys[0]? = some (Y 0, .int)) (hst : hp_st D cl lo M H0 H locs) {n : Nat} {g : Nat → Nat} (he : M a = some (t, e_n Y n g)) (hdg : decode cc pc = .ok (.arraylength, 1))
    (kk : W p l e R s m args below meth c H locs cells slots Q (F0 m (pc + 1) ls (.int (nI n) :: rest))) : W p l e R s m args below meth c H locs cells slots Q (F0 m pc ls (.ref a :: rest)) :=
  va_alen hexec hb hK (hst.1.P he) 0 0 rfl ht rfl hdg kk
theorem hp_alenq (hexec : p.tables.exec = Jvm.exec) (hb : c.code = cc) (hK : va_K D cl tys s) {C : String} (ht : tys[2]? = some (Y 2, .object C)) (hst : hp_st D cl lo M H0 H locs) {n : Nat} {g : Nat → Option Nat} (he : M a = some (t, e_q Y n g)) (hdg : decode cc pc = .ok (.arraylength, 1))
    (kk : W p l e R s m args below meth c H locs cells slots Q (F0 m (pc + 1) ls (.int (nI n) :: rest))) : W p l e R s m args below meth c H locs cells slots Q (F0 m pc ls (.ref a :: rest)) :=
  va_alen hexec hb hK (hst.1.P he) 0 2 rfl ht rfl hdg kk
theorem hp_newi (hexec : p.tables.exec = Jvm.exec) (hb : c.code = cc) (harr : (Cond.arrayClass .int).before args s = true) (hK : va_K D cl tys s) (ht : tys[0]? = some (Y 0, .int)) (hst : hp_st D cl lo M H0 H locs) (u : Nat × Nat)
    {N' : Nat} (hbytes : N' ≤ 134217728) (hcells : cells + 1 ≤ R.cells) (hslots : slots + N' ≤ R.slots) (hdg : decode cc pc = .ok (.newarray .int, 2))
    (kk : ∀ (q : Nat) (H1 : Heap), M q = none → hp_st D cl lo (hp_up M q (u, e_n Y N' (fun _ => 0))) H0 H1 locs → W p l e R s m args below meth c H1 locs (cells + 1) (slots + N') Q (F0 m (pc + 2) ls (.ref q :: rest))) : W p l e R s m args below meth c H locs cells slots Q (F0 m pc ls (.int (nI N') :: rest)) := by
  refine va_newa (atype := .int) (a0 := (N', .inl (fun _ => nI 0))) hexec hb harr rfl hK hst.P hst.Dd hst.2.1 hst.A (fun cA => rfl) (nI_pos (by omega)) (nI_clamp (by omega)) (by show N' * 4 ≤ _; omega) hcells hslots hdg (fun q cA H1 hK' hP hD hS => ?_)
  have h1 := (hK.2 0 _ ht).2
  have h3 := (hK'.2 tys.length (cA, .int) (by rw [List.getElem?_append_right (Nat.le_refl _), Nat.sub_self]; rfl)).2
  have h2 : cA = Y 0 := Option.some.inj (h3.symm.trans h1)
  subst h2
  obtain ⟨h4, h5⟩ := hst.push (t := u) hP hD hS
  exact kk q H1 h4 h5
theorem hp_new {c0 : Code} (hexec : p.tables.exec = Jvm.exec) (hb : c0.code = cc) {own C : String} {T : u_T} {N ci index : Nat} {Ts : List Cond} (hts : ∀ w ∈ Ts, w.before args s = true) (hin : ∀ w ∈ u_ws C T N, w ∈ Ts) (ty : Nat → FieldType) (hty : ∀ k, k < N → parseFieldDescriptor (T k).2.2.1 = some (ty k)) (hown : s.vm.findClass own = some m.cls) (hcl : (Cond.classLink own index C).before args s = true) (hinst : (Cond.instantiable C N).before args s = true) (hini : (Cond.initialized C).before args s = true)
    (hK : va_K D cl tys s) (hst : hp_st D cl lo M H0 H locs) (u : Nat × Nat) (hc : cl[ci]? = some (C, T, N)) {fs : List Value} (hfs : ∀ j, j < N → defaultValue (ty j) = vp_V fs j) (hcells : cells + 1 ≤ R.cells) (hslots : slots + N ≤ R.slots) (hdg : decode cc pc = .ok (.new index, 3))
    (kk : ∀ (q : Nat) (H1 : Heap), M q = none → hp_st D cl lo (hp_up M q (u, .inr (ci, fs))) H0 H1 locs → W p l e R s m args below meth c0 H1 locs (cells + 1) (slots + N) Q (F0 m (pc + 3) ls (.ref q :: rest))) : W p l e R s m args below meth c0 H locs cells slots Q (F0 m pc ls rest) := by
  refine va_new hexec hb hts hin ty hty hown hcl hinst hini hK hst.P hst.Dd hst.2.1 hst.A hc hfs hcells hslots hdg (fun q H1 hP hD hS => ?_)
  obtain ⟨h4, h5⟩ := hst.push (t := u) hP hD hS
  exact kk q H1 h4 h5
/-- arrays of references to objects -/
theorem hp_aald (hexec : p.tables.exec = Jvm.exec) (hb : c.code = cc) (hK : va_K D cl tys s) {C : String} (ht : tys[2]? = some (Y 2, .object C)) (hst : hp_st D cl lo M H0 H locs) {n j v : Nat} {g : Nat → Option Nat} (he : M a = some (t, e_q Y n g)) (hj : j < n) (hn : n < 2 ^ 31) (hv : g j = some v) (hdg : decode cc pc = .ok (.aaload, 1))
    (kk : W p l e R s m args below meth c H locs cells slots Q (F0 m (pc + 1) ls (.ref v :: rest))) : W p l e R s m args below meth c H locs cells slots Q (F0 m pc ls (.int (nI j) :: .ref a :: rest)) := by
  refine va_aldq hexec hb hK (hst.1.P he) 0 2 rfl ht (vp_in_nI hj hn) hdg ?_
  rw [nI_clamp (by omega), hv]
  exact kk
theorem hp_aast (hexec : p.tables.exec = Jvm.exec) (hb : c.code = cc) (hK : va_K D cl tys s) {r : vw_C} (ht : tys[2]? = some (Y 2, .object r.1)) (hst : hp_st D cl lo M H0 H locs) {n j v ci : Nat} {vs : List Value} {u : Nat × Nat} {g : Nat → Option Nat} (he : M a = some (t, e_q Y n g)) (hv : M v = some (u, .inr (ci, vs))) (hc : cl[ci]? = some r) (hj : j < n) (hn : n < 2 ^ 31) (hdg : decode cc pc = .ok (.aastore, 1))
    (kk : ∀ (H1 : Heap) (locs1 : List Loc), hp_st D cl lo (hp_up M a (t, e_q Y n (va_up g j (some v)))) H0 H1 locs1 → W p l e R s m args below meth c H1 locs1 cells slots Q (F0 m (pc + 1) ls rest)) : W p l e R s m args below meth c H locs cells slots Q (F0 m pc ls (.ref v :: .int (nI j) :: .ref a :: rest)) := by
  obtain ⟨k0, hk0⟩ := hst.ix he
  obtain ⟨k1, hk1⟩ := hst.ix hv
  refine va_astq hexec hb hK hst.P hst.Dd hst.2.1 k0 2 k1 ci hk0 ht hk1 hc (vp_in_nI hj hn) hdg (fun H1 locs1 hP _ hS => kk H1 locs1 (hst.set hk0 he ?_ hS))
  rw [nI_clamp (by omega)] at hP
  exact hP
theorem hp_newq (hexec : p.tables.exec = Jvm.exec) (hb : c.code = cc) {own C : String} {index : Nat} (hown : s.vm.findClass own = some m.cls) (hclink : (Cond.classLink own index C).before args s = true) (hover : va_AO C s) (hK : va_K D cl tys s) (ht : tys[2]? = some (Y 2, .object C)) (hst : hp_st D cl lo M H0 H locs) (u : Nat × Nat)
    {N' : Nat} (hbytes : N' ≤ 134217728) (hcells : cells + 1 ≤ R.cells) (hslots : slots + N' ≤ R.slots) (hdg : decode cc pc = .ok (.anewarray index, 3))
    (kk : ∀ (q : Nat) (H1 : Heap), M q = none → hp_st D cl lo (hp_up M q (u, e_q Y N' (fun _ => none))) H0 H1 locs → W p l e R s m args below meth c H1 locs (cells + 1) (slots + N') Q (F0 m (pc + 3) ls (.ref q :: rest))) : W p l e R s m args below meth c H locs cells slots Q (F0 m pc ls (.int (nI N') :: rest)) := by
  refine va_newq hexec hb hown hclink hover hK hst.P hst.Dd hst.2.1 hst.A (nI_pos (by omega)) (nI_clamp (by omega)) (by omega) hcells hslots hdg (fun q cA H1 hK' hP hD hS => ?_)
  obtain ⟨_, _, _, _, _, h1⟩ := (hK.2 2 _ ht).2
  obtain ⟨_, _, _, _, _, h3⟩ := (hK'.2 tys.length (cA, .object C) (by rw [List.getElem?_append_right (Nat.le_refl _), Nat.sub_self]; rfl)).2
  have h2 : cA = Y 2 := Option.some.inj (h3.symm.trans h1)
  subst h2
  obtain ⟨h4, h5⟩ := hst.push (t := u) hP hD hS
  exact kk q H1 h4 h5
end HPW
end
section
/-! Contracts over the functional heap: one form for all methods (it returns, or throws a class by name). -/
def rmL (d mc ms : Nat) : Room := { frames := d, cells := mc, slots := ms, locals := 36 * d }
theorem gw_good {w : Cond} (h : w ∈ GW) : goodWord w = true := (List.mem_filter.mp h).2
theorem ao_warm {ty : FieldType} {s U : State} (hW : s.WarmedH U.vm) (h : va_Nw (.arrayOver ty) s) : va_Nw (.arrayOver ty) U := by
  have h1 : (Cond.arrayOver ty).before #[] (s.setVm U.vm) = true := by rw [Cond.arrayOver_setVmC hW.alike]; exact h
  exact h1
theorem nw_warm {w : Cond} (hw : nwB w = true) {s U : State} (hW : s.WarmedH U.vm) (h : va_Nw w s) : va_Nw w U := by
  cases w <;> first | exact va_Nw.warmM hW h | exact va_Nw.warmC hW h | exact va_Nw.warmD hW h | exact ao_warm hW h | cases hw
theorem gi {y : MethodName} {cc : ByteArray} {mL : Nat} {ret : Option FieldType} {c0 : Cond} (h : Cond.code y cc mL ret ∈ GW) : GoodIn (c0 :: GW) (.code y cc mL ret :: GW) := by
  intro w hw
  rcases List.mem_cons.mp hw with rfl | hw
  · exact ⟨List.mem_cons_of_mem _ h, good_of_word (gw_good h)⟩
  · exact ⟨List.mem_cons_of_mem _ hw, good_of_word (gw_good hw)⟩
/-- the array classes, by the places Y -/
abbrev tysY (Y : Nat → ClassId) : List (ClassId × FieldType) := [(Y 0, .int), (Y 1, .long), (Y 2, .object R_P), (Y 3, .array .int)]
/-- what holds of the tables and of what was there before: the same in every state of a run -/
def kz (D : va_G) (Y : Nat → ClassId) (lo : Nat) (U : State) (H : Heap) : Prop :=
  va_K D vC (tysY Y) U ∧ vx_Zq Bundle.tN "UNASSIGNED_STACK" Bundle.steD (fun q => lo ≤ q) U H ∧ vx_Zq Bundle.tN "SUPPRESSED_SENTINEL" Bundle.listD (fun q => lo ≤ q) U H ∧ (∀ w ∈ NW, va_Nw w U) ∧ va_AO R_P U
theorem kz.go {D : va_G} {Y : Nat → ClassId} {lo : Nat} {s U : State} {H0 H : Heap} (h : kz D Y lo s H0) (hW : s.WarmedH U.vm) (hq : ∀ q : Nat, q < H0.size → ¬ lo ≤ q → H[q]? = H0[q]?) : kz D Y lo U H :=
  ⟨va_K.moved hW.alike h.1, vx_Zq.moved hW.alike (h.2.1.kept hq), vx_Zq.moved hW.alike (h.2.2.1.kept hq), fun w hw => nw_warm (List.mem_filter.mp hw).2 hW (h.2.2.2.1 w hw), h.2.2.2.2.moved hW.alike⟩
def cP (D : va_G) (Y : Nat → ClassId) (lo : Nat) (av : List Value) (M : Hm) : Array Value → State → Prop := va_Pc av (fun U => hp_ok D vC lo M U.heap ∧ kz D Y lo U U.heap)
def cQ (D : va_G) (lo : Nat) (Post : Option Value → Hm → Prop) : Array Value → State → Outcome → State → Prop := fun _ st oc t => (∃ (r : Option Value) (M' : Hm), oc = .returned r ∧ Post r M' ∧ hp_ok D vC lo M' t.heap) ∧ va_F (fun q => lo ≤ q) st t
def cX (D : va_G) (lo : Nat) (PX : String → Hm → Prop) : String → State → State → Prop := fun E st t => ∃ M' : Hm, PX E M' ∧ hp_ok D vC lo M' t.heap ∧ va_F (fun q => lo ≤ q) st t
def nx : String → Hm → Prop := fun _ _ => False
def ct (l : Launch) (D : va_G) (Y : Nat → ClassId) (lo : Nat) (y : MethodName) (cc : ByteArray) (mL : Nat) (ret : Option FieldType) (d : Nat) (av : List Value) (M : Hm) (Post : Option Value → Hm → Prop) (PX : String → Hm → Prop) (mc ms : Nat) : Prop :=
  vx_Met l y (.code y cc mL ret :: GW) (rmL d mc ms) (cP D Y lo av M) (cQ D lo Post) (cX D lo PX) mc ms (fun q => lo ≤ q)
theorem cP_blind {D : va_G} {Y : Nat → ClassId} {lo : Nat} {av : List Value} {M : Hm} : FrameBlind (cP D Y lo av M) := by
  intro a U g mk h
  obtain ⟨h1, h2, h3⟩ := h
  refine ⟨h1, h2, ?_⟩
  exact h3.go (U := U.calling g mk a) (State.WarmedH.refl U) (fun q _ _ => rfl)
/-- what a body has at hand -/
def cx (p : Program) (s : State) (m : MethodId) (args : Array Value) (meth : Method) (c : Code) (y : MethodName) (cc : ByteArray) (mL : Nat) (ret : Option FieldType) (D : va_G) (Y : Nat → ClassId) (lo : Nat) : Prop :=
  p.tables.exec = Jvm.exec ∧ c.code = cc ∧ c.maxLocals = mL ∧ meth.sig.returnType = ret ∧ meth.locks = false ∧ s.vm.findClass y.cls = some m.cls ∧ meth.name = y.name ∧ (∀ w ∈ Cond.code y cc mL ret :: GW, w.before args s = true) ∧ kz D Y lo s s.heap ∧ (∀ x ∈ c.exceptionTable.toList, False)
/-- the goal of a walk -/
abbrev cW (p : Program) (l : Launch) (e : Env) (s : State) (m : MethodId) (av : List Value) (below : List Frame) (meth : Method) (c : Code) (y : MethodName) (cc : ByteArray) (mL : Nat) (ret : Option FieldType) (d : Nat) (D : va_G) (lo : Nat) (Post : Option Value → Hm → Prop) (PX : String → Hm → Prop) (mc ms : Nat) (H : Heap) (locs : List Loc) (cells slots : Nat) (g : JFrame) : Prop :=
  W p l e (rmL d mc ms) s m av.toArray below meth c H locs cells slots (vx_MQ below (cQ D lo Post) (cX D lo PX) av.toArray s mc ms (fun q => lo ≤ q)) g
theorem ct_of {l : Launch} {D : va_G} {Y : Nat → ClassId} {lo : Nat} {y : MethodName} {cc : ByteArray} {mL : Nat} {ret : Option FieldType} {d : Nat} {av : List Value} {M : Hm} {Post : Option Value → Hm → Prop} {PX : String → Hm → Prop} {mc ms : Nat} (hy : plainName y.cls = true) (hlen : (lg_sl av).length ≤ mL)
    (body : ∀ (p : Program) (e : Env) (s : State) (m : MethodId) (below : List Frame) (meth : Method) (c : Code) (ls : Array Slot), cx p s m av.toArray meth c y cc mL ret D Y lo → hp_st D vC lo M s.heap s.heap [] → lv_has ls mL (lv_args 0 av) →
      cW p l e s m av below meth c y cc mL ret d D lo Post PX mc ms s.heap [] 0 0 (F0 m 0 ls [])) : ct l D Y lo y cc mL ret d av M Post PX mc ms := by
  refine vx_ofW (cc := cc) (maxL := mL) (ret := ret) hy rfl ?_
  intro p e s m args below meth c s₁ B hml ht hv
  obtain ⟨rfl, h1, h2⟩ := hv
  have hts := atoms_spec (ws := .code y cc mL ret :: GW) B.pre
  have hl := lv_entry av (n := mL) hlen
  rw [lg_entry_eq]
  exact body p e s m below meth c _ ⟨B.exec, B.bytes, hml, B.returns, B.notSynchronized, findClass_of_methodNamed B.named, (name_of_methodNamed B.named B.method).1, hts, h2, ht⟩ ⟨h1, va_S.rf, h1.1⟩ hl
section CTR
variable {p : Program} {l : Launch} {e : Env} {s : State} {m : MethodId} {av : List Value} {below : List Frame} {meth : Method} {c : Code} {y : MethodName} {cc : ByteArray} {mL : Nat} {ret : Option FieldType} {d : Nat} {D : va_G} {Y : Nat → ClassId} {lo : Nat} {Post : Option Value → Hm → Prop} {PX : String → Hm → Prop} {mc ms : Nat} {H : Heap} {locs : List Loc} {cells slots pc : Nat} {ls : Array Slot} {M : Hm} {rest : List Value}
/-- the ends -/
theorem ct_vret (X : cx p s m av.toArray meth c y cc mL none D Y lo) (hst : hp_st D vC lo M s.heap H locs) (hP : Post none M) (hc : cells ≤ mc) (hs : slots ≤ ms) (hdg : decode cc pc = .ok (.return_, 1)) : cW p l e s m av below meth c y cc mL none d D lo Post PX mc ms H locs cells slots (F0 m pc ls []) := by
  obtain ⟨hx, hb, hml, hr, hlocks, -⟩ := X
  refine vx_ret (W.widen hc hs ?_)
  exact W.vret hx hb hr (fun t ht hW => ⟨⟨none, M, rfl, hP, by rw [ht]; exact hst.1⟩, hst.2.1.F ht⟩) hst.2.1.2.2 hdg hlocks
theorem ct_iret {v : Int32} (X : cx p s m av.toArray meth c y cc mL (some .int) D Y lo) (hst : hp_st D vC lo M s.heap H locs) (hP : Post (some (.int v)) M) (hc : cells ≤ mc) (hs : slots ≤ ms) (hdg : decode cc pc = .ok (.ireturn, 1)) : cW p l e s m av below meth c y cc mL (some .int) d D lo Post PX mc ms H locs cells slots (F0 m pc ls [.int v]) := by
  obtain ⟨hx, hb, hml, hr, hlocks, -⟩ := X
  refine vx_ret (W.widen hc hs ?_)
  exact W.iret hx hb hr (fun t ht hW => ⟨⟨_, M, rfl, hP, by rw [ht]; exact hst.1⟩, hst.2.1.F ht⟩) hst.2.1.2.2 hdg hlocks
/-- a boolean's end: 0 or 1 -/
theorem ct_zret {n : Nat} (X : cx p s m av.toArray meth c y cc mL (some .boolean) D Y lo) (hst : hp_st D vC lo M s.heap H locs) (hn : n ≤ 1) (hP : Post (some (.int (nI n))) M) (hc : cells ≤ mc) (hs : slots ≤ ms) (hdg : decode cc pc = .ok (.ireturn, 1)) : cW p l e s m av below meth c y cc mL (some .boolean) d D lo Post PX mc ms H locs cells slots (F0 m pc ls [.int (nI n)]) := by
  obtain ⟨hx, hb, hml, hr, hlocks, -⟩ := X
  have hn2 : narrow .boolean (.int (nI n)) = .int (nI n) := by
    rcases (show n = 0 ∨ n = 1 by omega) with rfl | rfl <;> decide +kernel
  refine vx_ret (W.widen hc hs ?_)
  exact W.zret hx hb hr hn2 (fun t ht hW => ⟨⟨_, M, rfl, hP, by rw [ht]; exact hst.1⟩, hst.2.1.F ht⟩) hst.2.1.2.2 hdg hlocks
theorem ct_aret {a : Nat} {rt : FieldType} (hrt : (∃ n, rt = .object n) ∨ ∃ t, rt = .array t) (X : cx p s m av.toArray meth c y cc mL (some rt) D Y lo) (hst : hp_st D vC lo M s.heap H locs) (hP : Post (some (.ref a)) M) (hc : cells ≤ mc) (hs : slots ≤ ms) (hdg : decode cc pc = .ok (.areturn, 1)) : cW p l e s m av below meth c y cc mL (some rt) d D lo Post PX mc ms H locs cells slots (F0 m pc ls [.ref a]) := by
  obtain ⟨hx, hb, hml, hr, hlocks, -⟩ := X
  refine vx_ret (W.widen hc hs ?_)
  exact W.aret hx hb hr hrt (Or.inr ⟨a, rfl⟩) (fun t ht hW => ⟨⟨_, M, rfl, hP, by rw [ht]; exact hst.1⟩, hst.2.1.F ht⟩) hst.2.1.2.2 hdg hlocks
end CTR
section CTC
variable {p : Program} {l : Launch} {e : Env} {s : State} {m : MethodId} {av : List Value} {below : List Frame} {meth : Method} {c : Code} {y : MethodName} {cc : ByteArray} {mL : Nat} {ret : Option FieldType} {d : Nat} {D : va_G} {Y : Nat → ClassId} {lo : Nat} {Post : Option Value → Hm → Prop} {PX : String → Hm → Prop} {mc ms : Nat} {H : Heap} {locs : List Loc} {cells slots pc index : Nat} {ls : Array Slot} {M : Hm} {rest st0 : List Value}
variable {y2 : MethodName} {cc2 : ByteArray} {mL2 : Nat} {ret2 : Option FieldType} {d2 : Nat} {av2 : List Value} {Post2 : Option Value → Hm → Prop} {PX2 : String → Hm → Prop} {mc2 ms2 : Nat}
/-- behind a call: by what vx_Run says -/
theorem ct_go (X : cx p s m av.toArray meth c y cc mL ret D Y lo) (hst : hp_st D vC lo M s.heap H locs)
    (hr : vx_Run p l e (rmL d mc ms) s m av.toArray below meth c H locs cells slots mc2 ms2 (F0 m pc ls st0) rest (cQ D lo Post2 av2.toArray) (cX D lo PX2) (fun q => lo ≤ q))
    (hf : cells + mc2 ≤ mc ∧ slots + ms2 ≤ ms) (hpx : ∀ E M', PX2 E M' → PX E M')
    (kk : ∀ (r : Option Value) (M' : Hm) (H' : Heap) (locs' : List Loc), Post2 r M' → hp_st D vC lo M' s.heap H' locs' → cW p l e s m av below meth c y cc mL ret d D lo Post PX mc ms H' locs' (cells + mc2) (slots + ms2) (F0 m (pc + 3) ls (r.toList ++ rest))) :
    cW p l e s m av below meth c y cc mL ret d D lo Post PX mc ms H locs cells slots (F0 m pc ls st0) := by
  intro T hT X0
  rcases hr T hT X0 with ⟨v, st₀, t, T', L, h0, X', hL, e1, e2, ⟨⟨r, M', hv, hp, hok⟩, hF⟩, st⟩ | ⟨q, st₀, t, T', L, E, ce, h0, X', hL, e1, e2, ⟨M', hp, hok, hF⟩, hce, hcv, hcl, st⟩
  · cases hv
    obtain ⟨k1, k2, k3⟩ := vx_keep (A1 := fun q => lo ≤ q) h0 e1 hst.2.1 (fun q _ h => h) (fun q h => h) hL hF
    obtain ⟨t2, a1, b1⟩ := kk v M' T'.heap (locs ++ L) hp ⟨by rw [e1]; exact hok, k3, hst.2.2⟩ T' rfl X'
    exact ⟨t2, st t2 a1, b1⟩
  · obtain ⟨k1, k2, k3⟩ := vx_keep (A1 := fun q => lo ≤ q) h0 e1 hst.2.1 (fun q _ h => h) (fun q h => h) hL hF
    obtain ⟨hx, hb, hml, hrt, hlocks, ho, hnm, hts, hkz, hex⟩ := X
    obtain ⟨t2, a1, b1⟩ := vx_out (Qc := cQ D lo Post) (XC := cX D lo PX) (pc := pc) (ls := ls) (rest := rest) (free := fun q => lo ≤ q) (fun x hx => (hex x hx).elim) hlocks (by rw [e1]; exact hce) hcv hcl
      (fun t' ht' ha' => ⟨M', hpx E M' hp, by rw [ht', e1]; exact hok, k3.F ht'⟩) k3.2.2 hf.1 hf.2 T' rfl X'
    exact ⟨t2, st.trans a1, b1⟩
theorem ct_callS (X : cx p s m av.toArray meth c y cc mL ret D Y lo) (hst : hp_st D vC lo M s.heap H locs) (hM : ct l D Y lo y2 cc2 mL2 ret2 d2 av2 M Post2 PX2 mc2 ms2)
    (hcode : Cond.code y2 cc2 mL2 ret2 ∈ GW) (hlink : Cond.methodLink y.cls index y2 ∈ GW) (hstat : Cond.static y2 ∈ GW) (hini : Cond.initialized y2.cls ∈ GW) (hd : md y2 av2.length) (hR : d2 + 1 ≤ d ∧ 8 + (mL2 + 11) + 36 * d2 ≤ 36 * d)
    (hsize : ls.size = mL) (hstack : st0 = av2.reverse ++ rest) (hW : (rest.map fun v => v.category).sum ≤ 8) (hf : cells + mc2 ≤ mc ∧ slots + ms2 ≤ ms) (hpx : ∀ E M', PX2 E M' → PX E M') (hdg : decode cc pc = .ok (.invokestatic index, 3))
    (kk : ∀ (r : Option Value) (M' : Hm) (H' : Heap) (locs' : List Loc), Post2 r M' → hp_st D vC lo M' s.heap H' locs' → cW p l e s m av below meth c y cc mL ret d D lo Post PX mc ms H' locs' (cells + mc2) (slots + ms2) (F0 m (pc + 3) ls (r.toList ++ rest))) :
    cW p l e s m av below meth c y cc mL ret d D lo Post PX mc ms H locs cells slots (F0 m pc ls st0) := by
  have X1 := X
  obtain ⟨hx, hb, hml, hrt, hlocks, ho, hnm, hts, hkz, hex⟩ := X1
  have hG : ∀ w, w ∈ GW → w.before av.toArray s = true := fun w h => hts w (List.mem_cons_of_mem _ h)
  refine ct_go X hst (vx_runS (R := rmL d mc ms) (As := av2) ⟨hx, hb, hml, ho, hts⟩ hM ⟨callB_of av2.length hts (gi hcode) rfl rfl rfl (hG _ hini) (hG _ hlink) hd hR, hG _ hstat⟩ ⟨cP_blind, fun U hU hW => ⟨rfl, by rw [hU]; exact hst.1, by rw [hU]; exact hkz.go hW hst.2.1.2.1⟩⟩ rfl rfl hsize hstack (lv_room hW) hdg hf) hf hpx kk
theorem ct_met (h : ct l D Y lo y2 cc2 mL2 ret2 d2 av2 M Post2 nx mc2 ms2) : Met l y2 (.code y2 cc2 mL2 ret2 :: GW) (rmL d2 mc2 ms2) (cP D Y lo av2 M) (cQ D lo Post2) mc2 ms2 (fun q => lo ≤ q) := by
  intro p e ha hc hk s m args below hf happ hP hK
  obtain ⟨n, o, h1, h2, h3, h4⟩ := h p e ha hc hk s m args below hf happ hP hK
  refine ⟨n, o, h1, h2, h3, ?_⟩
  rcases h4 with h4 | ⟨q, hq, E, ce, L, ⟨M', hx, _⟩, _⟩
  · exact h4
  · exact hx.elim
theorem ct_go0 (hst : hp_st D vC lo M s.heap H locs)
    (hr : va_Run p l e (rmL d mc ms) s m av.toArray below meth c H locs cells slots mc2 ms2 (F0 m pc ls st0) rest (cQ D lo Post2 av2.toArray) (fun q => lo ≤ q))
    (kk : ∀ (r : Option Value) (M' : Hm) (H' : Heap) (locs' : List Loc), Post2 r M' → hp_st D vC lo M' s.heap H' locs' → cW p l e s m av below meth c y cc mL ret d D lo Post PX mc ms H' locs' (cells + mc2) (slots + ms2) (F0 m (pc + 3) ls (r.toList ++ rest))) :
    cW p l e s m av below meth c y cc mL ret d D lo Post PX mc ms H locs cells slots (F0 m pc ls st0) := by
  intro T hT X0
  obtain ⟨v, st₀, t, T', L, h0, X', hL, e1, e2, ⟨⟨r, M', hv, hp, hok⟩, hF⟩, st⟩ := hr T hT X0
  cases hv
  obtain ⟨k1, k2, k3⟩ := vx_keep (A1 := fun q => lo ≤ q) h0 e1 hst.2.1 (fun q _ h => h) (fun q h => h) hL hF
  obtain ⟨t2, a1, b1⟩ := kk v M' T'.heap (locs ++ L) hp ⟨by rw [e1]; exact hok, k3, hst.2.2⟩ T' rfl X'
  exact ⟨t2, st t2 a1, b1⟩
theorem ct_callI {b : Nat} (X : cx p s m av.toArray meth c y cc mL ret D Y lo) (hst : hp_st D vC lo M s.heap H locs) (hM : ct l D Y lo y2 cc2 mL2 none d2 (.ref b :: av2) M Post2 nx mc2 ms2)
    (hcode : Cond.code y2 cc2 mL2 none ∈ GW) (hlink : Cond.methodLink y.cls index y2 ∈ GW) (hins : Cond.instanceMethod y2 ∈ GW) (hini : Cond.initialized y2.cls ∈ GW) (hy1 : y2.name = "<init>") (hd : md y2 av2.length) (hR : d2 + 1 ≤ d ∧ 8 + (mL2 + 11) + 36 * d2 ≤ 36 * d)
    (hsize : ls.size = mL) (hstack : st0 = av2.reverse ++ .ref b :: rest) (hW : (rest.map fun v => v.category).sum ≤ 8) (hf : cells + mc2 ≤ mc ∧ slots + ms2 ≤ ms) (hdg : decode cc pc = .ok (.invokespecial index, 3))
    (kk : ∀ (r : Option Value) (M' : Hm) (H' : Heap) (locs' : List Loc), Post2 r M' → hp_st D vC lo M' s.heap H' locs' → cW p l e s m av below meth c y cc mL ret d D lo Post PX mc ms H' locs' (cells + mc2) (slots + ms2) (F0 m (pc + 3) ls (r.toList ++ rest))) :
    cW p l e s m av below meth c y cc mL ret d D lo Post PX mc ms H locs cells slots (F0 m pc ls st0) := by
  have X1 := X
  obtain ⟨hx, hb, hml, hrt, hlocks, ho, hnm, hts, hkz, hex⟩ := X1
  have hG : ∀ w, w ∈ GW → w.before av.toArray s = true := fun w h => hts w (List.mem_cons_of_mem _ h)
  exact ct_go0 (av2 := .ref b :: av2) hst (va_runI (R := rmL d mc ms) (As := av2) ⟨hx, hb, hml, ho, hts⟩ (ct_met hM) ⟨callB_of av2.length hts (gi hcode) rfl rfl rfl (hG _ hini) (hG _ hlink) hd hR, hy1, hG _ hins⟩ ⟨cP_blind, fun U hU hW => ⟨rfl, by rw [hU]; exact hst.1, by rw [hU]; exact hkz.go hW hst.2.1.2.1⟩⟩ rfl rfl hsize hstack (lv_room hW) hdg hf) kk
/-- .. of a nest mate's own constructor -/
theorem ct_callIN {b : Nat} {host : String} (X : cx p s m av.toArray meth c y cc mL ret D Y lo) (hst : hp_st D vC lo M s.heap H locs) (hM : ct l D Y lo y2 cc2 mL2 none d2 (.ref b :: av2) M Post2 nx mc2 ms2)
    (hcode : Cond.code y2 cc2 mL2 none ∈ GW) (hlink : Cond.methodLinkNest y.cls index y2 host ∈ NW) (hins : Cond.instanceMethod y2 ∈ GW) (hini : Cond.initialized y2.cls ∈ GW) (hy1 : y2.name = "<init>") (hd : md y2 av2.length) (hR : d2 + 1 ≤ d ∧ 8 + (mL2 + 11) + 36 * d2 ≤ 36 * d)
    (hsize : ls.size = mL) (hstack : st0 = av2.reverse ++ .ref b :: rest) (hW : (rest.map fun v => v.category).sum ≤ 8) (hf : cells + mc2 ≤ mc ∧ slots + ms2 ≤ ms) (hdg : decode cc pc = .ok (.invokespecial index, 3))
    (kk : ∀ (r : Option Value) (M' : Hm) (H' : Heap) (locs' : List Loc), Post2 r M' → hp_st D vC lo M' s.heap H' locs' → cW p l e s m av below meth c y cc mL ret d D lo Post PX mc ms H' locs' (cells + mc2) (slots + ms2) (F0 m (pc + 3) ls (r.toList ++ rest))) :
    cW p l e s m av below meth c y cc mL ret d D lo Post PX mc ms H locs cells slots (F0 m pc ls st0) := by
  have X1 := X
  obtain ⟨hx, hb, hml, hrt, hlocks, ho, hnm, hts, hkz, hex⟩ := X1
  have hG : ∀ w, w ∈ GW → w.before av.toArray s = true := fun w h => hts w (List.mem_cons_of_mem _ h)
  exact ct_go0 (av2 := .ref b :: av2) hst (va_runIN (R := rmL d mc ms) (host := host) (As := av2) ⟨hx, hb, hml, ho, hts⟩ (ct_met hM) ⟨va_cnB av2.length hts (gi hcode) rfl rfl rfl (hkz.2.2.2.1 _ hlink) (hG _ hini) hd hR, hy1, hG _ hins⟩ ⟨cP_blind, fun U hU hW => ⟨rfl, by rw [hU]; exact hst.1, by rw [hU]; exact hkz.go hW hst.2.1.2.1⟩⟩ rfl rfl hsize hstack (lv_room hW) hdg hf) kk
theorem ct_callV {b ci : Nat} {t : Nat × Nat} {fs : List Value} {q : vw_C} (X : cx p s m av.toArray meth c y cc mL ret D Y lo) (hst : hp_st D vC lo M s.heap H locs) (hM : ct l D Y lo y2 cc2 mL2 ret2 d2 (.ref b :: av2) M Post2 PX2 mc2 ms2) (he : M b = some (t, .inr (ci, fs))) (hc : vC[ci]? = some q)
    (hcode : Cond.code y2 cc2 mL2 ret2 ∈ GW) (hlink : Cond.methodLink y.cls index y2 ∈ GW) (hins : Cond.instanceMethod y2 ∈ GW) (hsel : Cond.selects q.1 y2 y2 ∈ GW) (hini : Cond.initialized y2.cls ∈ GW) (hd : md y2 av2.length) (hR : d2 + 1 ≤ d ∧ 8 + (mL2 + 11) + 36 * d2 ≤ 36 * d)
    (hsize : ls.size = mL) (hstack : st0 = av2.reverse ++ .ref b :: rest) (hW : (rest.map fun v => v.category).sum ≤ 8) (hf : cells + mc2 ≤ mc ∧ slots + ms2 ≤ ms) (hpx : ∀ E M', PX2 E M' → PX E M') (hdg : decode cc pc = .ok (.invokevirtual index, 3))
    (kk : ∀ (r : Option Value) (M' : Hm) (H' : Heap) (locs' : List Loc), Post2 r M' → hp_st D vC lo M' s.heap H' locs' → cW p l e s m av below meth c y cc mL ret d D lo Post PX mc ms H' locs' (cells + mc2) (slots + ms2) (F0 m (pc + 3) ls (r.toList ++ rest))) :
    cW p l e s m av below meth c y cc mL ret d D lo Post PX mc ms H locs cells slots (F0 m pc ls st0) := by
  have X1 := X
  obtain ⟨hx, hb, hml, hrt, hlocks, ho, hnm, hts, hkz, hex⟩ := X1
  have hG : ∀ w, w ∈ GW → w.before av.toArray s = true := fun w h => hts w (List.mem_cons_of_mem _ h)
  refine ct_go (av2 := .ref b :: av2) X hst (vx_runV (R := rmL d mc ms) (C := q.1) (As := av2) ⟨hx, hb, hml, ho, hts⟩ hM ⟨callB_of av2.length hts (gi hcode) rfl rfl rfl (hG _ hini) (hG _ hlink) hd hR, hG _ hins, hG _ hsel⟩ ⟨cP_blind, va_recv (q0 := 0) hkz.1 (hst.1.P he) hc rfl, fun U hU hW => ⟨rfl, by rw [hU]; exact hst.1, by rw [hU]; exact hkz.go hW hst.2.1.2.1⟩⟩ rfl rfl hsize hstack (lv_room hW) hdg hf) hf hpx kk
end CTC
/-- the same for a method of a class of which the machine runs others by itself -/
theorem ct_ofF {l : Launch} {D : va_G} {Y : Nat → ClassId} {lo : Nat} {y : MethodName} {cc : ByteArray} {mL : Nat} {ret : Option FieldType} {d : Nat} {av : List Value} {M : Hm} {Post : Option Value → Hm → Prop} {PX : String → Hm → Prop} {mc ms : Nat} (hy : plainFor y = true) (hlen : (lg_sl av).length ≤ mL)
    (body : ∀ (p : Program) (e : Env) (s : State) (m : MethodId) (below : List Frame) (meth : Method) (c : Code) (ls : Array Slot), cx p s m av.toArray meth c y cc mL ret D Y lo → hp_st D vC lo M s.heap s.heap [] → lv_has ls mL (lv_args 0 av) →
      cW p l e s m av below meth c y cc mL ret d D lo Post PX mc ms s.heap [] 0 0 (F0 m 0 ls [])) : ct l D Y lo y cc mL ret d av M Post PX mc ms := by
  refine MetFree.of_bodySF (code := cc) (maxLocals := mL) (ret := ret) hy ?_ ?_
  · intro args s m h hn
    obtain ⟨meth, c, h1, h2, h3, h4, h5, h6, -, -⟩ := Cond.code_spec hn (atoms_spec (ws := .code y cc mL ret :: GW) h _ List.mem_cons_self)
    exact ⟨meth, c, h1, h2, h3, h4, h5, h6⟩
  · intro p e s m args below meth c s₁ B hml hP _
    obtain ⟨rfl, hp1, hp2⟩ := hP
    have hh0 : s₁.heap = s.heap := by rw [B.state]; rfl
    have hts := atoms_spec (ws := .code y cc mL ret :: GW) B.pre
    have ht : ∀ x ∈ c.exceptionTable.toList, False := by
      obtain ⟨meth9, c9, h1, h2, -, -, -, -, h7, -⟩ := Cond.code_spec B.named (hts _ List.mem_cons_self)
      cases Option.some.inj (h1.symm.trans B.method)
      cases Option.some.inj (h2.symm.trans (Stand.of_body B).code)
      intro x hx
      rw [Array.isEmpty_iff.mp h7] at hx
      cases hx
    have hl := lv_entry av (n := mL) hlen
    have K := body p e s m below meth c _ ⟨B.exec, B.bytes, hml, B.returns, B.notSynchronized, findClass_of_methodNamed B.named, (name_of_methodNamed B.named B.method).1, hts, hp2, ht⟩ ⟨hp1, va_S.rf, hp1.1⟩ hl
    rw [← lg_entry_eq] at K
    obtain ⟨t, a1, o, b1, b2, b3⟩ := K s₁ hh0 (Stand.of_body B)
    exact ⟨t, o, a1, b1, b2, b3⟩
end
section
/-! Packed monomials, their ranks, and the list of a polynomial's terms: no machine here. -/
abbrev Pf : Type := Nat → Nat
def R2 (s : Nat) : Nat → Nat
  | 0 => 0
  | a + 1 => R2 s a + (s + 1 - a)
def T3 : Nat → Nat
  | 0 => 0
  | s + 1 => T3 s + R2 s (s + 1)
def mp (a b c : Nat) : Nat := ((a + b + c) * 64 + a) * 4096 + b * 64 + c
def xe (m v : Nat) : Nat := if v = 0 then m / 4096 % 64 else if v = 1 then m / 64 % 64 else m % 64
def xs (m : Nat) : Nat := m / 262144
def mv (m : Nat) : Prop := xe m 0 + xe m 1 + xe m 2 ≤ 36 ∧ m = mp (xe m 0) (xe m 1) (xe m 2)
def rk (m : Nat) : Nat := T3 (xs m) + R2 (xs m) (xe m 0) + xe m 1
theorem xe0 (m : Nat) : xe m 0 = m / 4096 % 64 := rfl
theorem xe1 (m : Nat) : xe m 1 = m / 64 % 64 := rfl
theorem xe2 (m : Nat) : xe m 2 = m % 64 := rfl
theorem mp_x0 {a b c : Nat} (h : a + b + c < 64) : xe (mp a b c) 0 = a := by
  have h1 : mp a b c / 4096 = (a + b + c) * 64 + a := by unfold mp; omega
  rw [xe0, h1]; omega
theorem mp_x1 {a b c : Nat} (h : a + b + c < 64) : xe (mp a b c) 1 = b := by
  have h1 : mp a b c / 64 = ((a + b + c) * 64 + a) * 64 + b := by unfold mp; omega
  rw [xe1, h1]; omega
theorem mp_x2 {a b c : Nat} (h : a + b + c < 64) : xe (mp a b c) 2 = c := by rw [xe2]; unfold mp; omega
theorem mp_xs {a b c : Nat} (h : a + b + c < 64) : xs (mp a b c) = a + b + c := by unfold xs mp; omega
theorem mv_mp {a b c : Nat} (h : a + b + c ≤ 36) : mv (mp a b c) := by
  have h' : a + b + c < 64 := by omega
  refine ⟨?_, ?_⟩
  · rw [mp_x0 h', mp_x1 h', mp_x2 h']; exact h
  · rw [mp_x0 h', mp_x1 h', mp_x2 h']
theorem mv_of {m : Nat} (h : mv m) : ∃ a b c : Nat, a + b + c ≤ 36 ∧ m = mp a b c := ⟨_, _, _, h.1, h.2⟩
theorem mv_xs {m : Nat} (h : mv m) : xs m = xe m 0 + xe m 1 + xe m 2 := by
  obtain ⟨a, b, c, h1, rfl⟩ := mv_of h
  rw [mp_x0 (by omega), mp_x1 (by omega), mp_x2 (by omega), mp_xs (by omega)]
theorem mv_lt {m : Nat} (h : mv m) : m < 2 ^ 24 := by
  obtain ⟨a, b, c, h1, rfl⟩ := mv_of h
  unfold mp
  omega
theorem mp_add (a b c a' b' c' : Nat) : mp a b c + mp a' b' c' = mp (a + a') (b + b') (c + c') := by unfold mp; omega
theorem mp_inj {a b c a' b' c' : Nat} (h : a + b + c < 64) (h' : a' + b' + c' < 64) (e : mp a b c = mp a' b' c') : a = a' ∧ b = b' ∧ c = c' := by
  refine ⟨?_, ?_, ?_⟩
  · rw [← mp_x0 h, e, mp_x0 h']
  · rw [← mp_x1 h, e, mp_x1 h']
  · rw [← mp_x2 h, e, mp_x2 h']
theorem R2_le {s a b : Nat} (h : a ≤ b) : R2 s a ≤ R2 s b := by
  induction b with
  | zero => rw [show a = 0 by omega]; exact Nat.le_refl _
  | succ n ih =>
    by_cases hn : a = n + 1
    · rw [hn]; exact Nat.le_refl _
    · have := ih (by omega)
      show R2 s a ≤ R2 s n + (s + 1 - n)
      omega
theorem R2_lt {s a b : Nat} (h : a < b) : R2 s a + (s + 1 - a) ≤ R2 s b := by
  have h1 : R2 s (a + 1) ≤ R2 s b := R2_le h
  exact h1
theorem T3_le {s t : Nat} (h : s ≤ t) : T3 s ≤ T3 t := by
  induction t with
  | zero => rw [show s = 0 by omega]; exact Nat.le_refl _
  | succ n ih =>
    by_cases hn : s = n + 1
    · rw [hn]; exact Nat.le_refl _
    · have := ih (by omega)
      show T3 s ≤ T3 n + R2 n (n + 1)
      omega
theorem T3_lt {s t : Nat} (h : s < t) : T3 s + R2 s (s + 1) ≤ T3 t := by
  have h1 : T3 (s + 1) ≤ T3 t := T3_le h
  exact h1
theorem T3_37 : T3 37 = 9139 := by decide +kernel
theorem rk_mp {a b c : Nat} (h : a + b + c < 64) : rk (mp a b c) = T3 (a + b + c) + R2 (a + b + c) a + b := by
  unfold rk
  rw [mp_xs h, mp_x0 h, mp_x1 h]
theorem rk_lt {m : Nat} (h : mv m) : rk m < 9139 := by
  obtain ⟨a, b, c, h1, rfl⟩ := mv_of h
  rw [rk_mp (by omega)]
  have h2 := R2_lt (s := a + b + c) (a := a) (b := a + b + c + 1) (by omega)
  have h3 := T3_lt (s := a + b + c) (t := 37) (by omega)
  rw [T3_37] at h3
  omega
theorem rk_mono {m n : Nat} (h : mv m) (h' : mv n) (hlt : m < n) : rk m < rk n := by
  obtain ⟨a, b, c, h1, rfl⟩ := mv_of h
  obtain ⟨a', b', c', h1', rfl⟩ := mv_of h'
  rw [rk_mp (by omega), rk_mp (by omega)]
  have h2 := R2_lt (s := a + b + c) (a := a) (b := a + b + c + 1) (by omega)
  by_cases hs : a + b + c < a' + b' + c'
  · have h3 := T3_lt hs
    omega
  · have hs' : a + b + c = a' + b' + c' := by
      unfold mp at hlt
      omega
    rw [← hs']
    by_cases ha : a < a'
    · have h4 := R2_lt (s := a + b + c) ha
      omega
    · have ha' : a = a' := by
        unfold mp at hlt
        omega
      subst ha'
      unfold mp at hlt
      omega
theorem rk_inj {m n : Nat} (h : mv m) (h' : mv n) (e : rk m = rk n) : m = n := by
  rcases Nat.lt_trichotomy m n with hl | hl | hl
  · have := rk_mono h h' hl; omega
  · exact hl
  · have := rk_mono h' h hl; omega
theorem R2_find {s : Nat} : ∀ (n r : Nat), r < R2 s n → ∃ a, a < n ∧ R2 s a ≤ r ∧ r < R2 s (a + 1)
  | 0, r, h => absurd h (Nat.not_lt_zero _)
  | n + 1, r, h => by
    by_cases hr : r < R2 s n
    · obtain ⟨a, h1, h2⟩ := R2_find n r hr
      exact ⟨a, by omega, h2⟩
    · exact ⟨n, by omega, by omega, h⟩
theorem T3_find : ∀ (n r : Nat), r < T3 n → ∃ s, s < n ∧ T3 s ≤ r ∧ r < T3 (s + 1)
  | 0, r, h => absurd h (Nat.not_lt_zero _)
  | n + 1, r, h => by
    by_cases hr : r < T3 n
    · obtain ⟨a, h1, h2⟩ := T3_find n r hr
      exact ⟨a, by omega, h2⟩
    · exact ⟨n, by omega, by omega, h⟩
theorem rk_surj {r : Nat} (h : r < 9139) : ∃ m, mv m ∧ rk m = r := by
  rw [← T3_37] at h
  obtain ⟨s, h1, h2, h3⟩ := T3_find 37 r h
  have h4 : r - T3 s < R2 s (s + 1) := by
    have : T3 (s + 1) = T3 s + R2 s (s + 1) := rfl
    omega
  obtain ⟨a, h5, h6, h7⟩ := R2_find (s + 1) (r - T3 s) h4
  have h8 : R2 s (a + 1) = R2 s a + (s + 1 - a) := rfl
  have hs : a + (r - T3 s - R2 s a) + (s - a - (r - T3 s - R2 s a)) = s := by omega
  refine ⟨mp a (r - T3 s - R2 s a) (s - a - (r - T3 s - R2 s a)), mv_mp (by omega), ?_⟩
  rw [rk_mp (by omega), hs]
  omega
noncomputable def ur (r : Nat) : Nat := if h : r < 9139 then (rk_surj h).choose else 0
theorem ur_mv {r : Nat} (h : r < 9139) : mv (ur r) := by
  unfold ur
  rw [dif_pos h]
  exact (rk_surj h).choose_spec.1
theorem rk_ur {r : Nat} (h : r < 9139) : rk (ur r) = r := by
  unfold ur
  rw [dif_pos h]
  exact (rk_surj h).choose_spec.2
theorem ur_rk {m : Nat} (h : mv m) : ur (rk m) = m := rk_inj (ur_mv (rk_lt h)) h (rk_ur (rk_lt h))
theorem ur_lt {i j : Nat} (h : i < j) (hj : j < 9139) : ur i < ur j := by
  have hi : i < 9139 := by omega
  rcases Nat.lt_trichotomy (ur i) (ur j) with hl | hl | hl
  · exact hl
  · have := rk_ur hi; have := rk_ur hj; rw [hl] at *; omega
  · have h1 := rk_mono (ur_mv hj) (ur_mv hi) hl
    rw [rk_ur hi, rk_ur hj] at h1
    omega
theorem ur_inj {i j : Nat} (hi : i < 9139) (hj : j < 9139) (e : ur i = ur j) : i = j := by
  rw [← rk_ur hi, ← rk_ur hj, e]
/-- the terms whose rank is below i, the highest first -/
noncomputable def td (g : Pf) : Nat → List (Nat × Nat)
  | 0 => []
  | i + 1 => if g (ur i) ≠ 0 then (ur i, g (ur i)) :: td g i else td g i
noncomputable abbrev tp (g : Pf) : List (Nat × Nat) := td g 9139
theorem td_pos {g : Pf} {i : Nat} (h : g (ur i) ≠ 0) : td g (i + 1) = (ur i, g (ur i)) :: td g i := by
  show (if g (ur i) ≠ 0 then _ else _) = _
  rw [if_pos h]
theorem td_zero {g : Pf} {i : Nat} (h : g (ur i) = 0) : td g (i + 1) = td g i := by
  show (if g (ur i) ≠ 0 then _ else _) = _
  rw [if_neg (by rw [h]; exact fun z => z rfl)]
theorem td_len (g : Pf) : ∀ i, (td g i).length ≤ i
  | 0 => Nat.le_refl _
  | i + 1 => by
    have := td_len g i
    by_cases h : g (ur i) = 0
    · rw [td_zero h]; omega
    · rw [td_pos h, List.length_cons]; omega
theorem td_end {g : Pf} {e n : Nat} (he : e ≤ n) (h : ∀ r, e ≤ r → r < n → g (ur r) = 0) : td g n = td g e := by
  induction n with
  | zero => rw [show e = 0 by omega]
  | succ n ih =>
    by_cases hn : e = n + 1
    · rw [hn]
    · rw [td_zero (h n (by omega) (by omega))]
      exact ih (by omega) (fun r h1 h2 => h r h1 (by omega))
theorem td_congr {g g' : Pf} {n : Nat} (h : ∀ r, r < n → g (ur r) = g' (ur r)) : td g n = td g' n := by
  induction n with
  | zero => rfl
  | succ n ih =>
    have h1 := ih (fun r hr => h r (by omega))
    have h2 := h n (by omega)
    by_cases hz : g (ur n) = 0
    · rw [td_zero hz, td_zero (by rw [← h2]; exact hz), h1]
    · rw [td_pos hz, td_pos (by rw [← h2]; exact hz), h1, h2]
theorem td_mem {g : Pf} {n : Nat} {q : Nat × Nat} (h : q ∈ td g n) : ∃ r, r < n ∧ q.1 = ur r ∧ q.2 = g (ur r) ∧ g (ur r) ≠ 0 := by
  induction n with
  | zero => cases h
  | succ n ih =>
    by_cases hz : g (ur n) = 0
    · rw [td_zero hz] at h
      obtain ⟨r, h1, h2⟩ := ih h
      exact ⟨r, by omega, h2⟩
    · rw [td_pos hz] at h
      rcases List.mem_cons.mp h with rfl | h
      · exact ⟨n, by omega, rfl, rfl, hz⟩
      · obtain ⟨r, h1, h2⟩ := ih h
        exact ⟨r, by omega, h2⟩
theorem mem_td {g : Pf} {n r : Nat} (h : r < n) (hz : g (ur r) ≠ 0) : (ur r, g (ur r)) ∈ td g n := by
  induction n with
  | zero => omega
  | succ n ih =>
    by_cases hn : r = n
    · subst hn
      rw [td_pos hz]
      exact List.mem_cons_self
    · have h1 := ih (by omega)
      by_cases hy : g (ur n) = 0
      · rw [td_zero hy]; exact h1
      · rw [td_pos hy]; exact List.mem_cons_of_mem _ h1
/-- sums on a sheet: a multiple of a list of terms, the products of two lists -/
def addL (p f t : Nat) : List (Nat × Nat) → Pf → Pf
  | [], c => c
  | q :: qs, c => addL p f t qs (va_up c (q.1 + t) ((c (q.1 + t) + f * q.2) % p))
def mulL (p : Nat) (R : List (Nat × Nat)) : List (Nat × Nat) → Pf → Pf
  | [], c => c
  | q :: qs, c => mulL p R qs (addL p q.2 q.1 R c)
/-- a number and its prime -/
def pr (p : Nat) : Prop := 2 ≤ p ∧ ∀ d, 2 ≤ d → d * d ≤ p → p % d ≠ 0
theorem pr_dvd {p d : Nat} (hp : pr p) (h : d ∣ p) : d = 1 ∨ d = p := by
  obtain ⟨e, he⟩ := h
  obtain ⟨h2, hd⟩ := hp
  by_cases h1 : d = 1
  · exact Or.inl h1
  · refine Or.inr ?_
    by_cases h1' : e = 1
    · rw [he, h1', Nat.mul_one]
    · exfalso
      have hd0 : d ≠ 0 := fun z => by rw [z, Nat.zero_mul] at he; omega
      have he0 : e ≠ 0 := fun z => by rw [z, Nat.mul_zero] at he; omega
      rcases Nat.le_total d e with hle | hle
      · exact hd d (by omega) (by rw [he]; exact Nat.mul_le_mul_left d hle) (by rw [he]; exact Nat.mul_mod_right d e)
      · exact hd e (by omega) (by rw [he]; exact Nat.mul_le_mul_right e hle) (by rw [he]; exact Nat.mul_mod_left d e)
theorem pr_big : pr 46337 := by
  refine ⟨by decide, fun d h1 h2 => ?_⟩
  have h3 : d < 216 := by
    apply Classical.byContradiction
    intro h
    have := Nat.mul_le_mul (show 216 ≤ d by omega) (show 216 ≤ d by omega)
    omega
  have h4 : ∀ d, d < 216 → 2 ≤ d → 46337 % d ≠ 0 := by decide +kernel
  exact h4 d h3 h1
theorem pr_mul {p a b : Nat} (hp : pr p) (ha : a % p ≠ 0) (hb : b % p ≠ 0) : a * b % p ≠ 0 := by
  intro h
  have hdv : p ∣ a * b := Nat.dvd_of_mod_eq_zero h
  have hg : Nat.gcd p a = 1 := by
    rcases pr_dvd hp (Nat.gcd_dvd_left p a) with h1 | h1
    · exact h1
    · exact absurd (Nat.mod_eq_zero_of_dvd (h1 ▸ Nat.gcd_dvd_right p a)) ha
  have hc : Nat.Coprime p a := hg
  exact hb (Nat.mod_eq_zero_of_dvd (hc.dvd_of_dvd_mul_left hdv))
end
section
/-! What the sums on a sheet come to. -/
/-- the coefficients of a list that fall on m, when t is added to each monomial -/
def cS (t m : Nat) : List (Nat × Nat) → Nat
  | [] => 0
  | q :: qs => (if q.1 + t = m then q.2 else 0) + cS t m qs
theorem addL_cons {p f t : Nat} {q : Nat × Nat} {qs : List (Nat × Nat)} {c : Pf} : addL p f t (q :: qs) c = addL p f t qs (va_up c (q.1 + t) ((c (q.1 + t) + f * q.2) % p)) := rfl
theorem mulL_cons {p : Nat} {R : List (Nat × Nat)} {q : Nat × Nat} {qs : List (Nat × Nat)} {c : Pf} : mulL p R (q :: qs) c = mulL p R qs (addL p q.2 q.1 R c) := rfl
theorem addL_lt {p f t : Nat} (hp : 0 < p) : ∀ {qs : List (Nat × Nat)} {c : Pf}, (∀ m, c m < p) → ∀ m, addL p f t qs c m < p := by
  intro qs
  induction qs with
  | nil => intro c hc; exact hc
  | cons q qs ih =>
    intro c hc
    rw [addL_cons]
    refine ih (fun m => ?_)
    by_cases hm : m = q.1 + t
    · subst hm
      rw [va_up_self]
      exact Nat.mod_lt _ hp
    · rw [va_up_ne _ _ hm]
      exact hc m
theorem addL_val {p f t m : Nat} : ∀ {qs : List (Nat × Nat)} {c : Pf}, c m < p → addL p f t qs c m = (c m + f * cS t m qs) % p := by
  intro qs
  induction qs with
  | nil =>
    intro c hc
    show c m = (c m + f * 0) % p
    rw [Nat.mul_zero, Nat.add_zero, Nat.mod_eq_of_lt hc]
  | cons q qs ih =>
    intro c hc
    rw [addL_cons]
    have hp : 0 < p := by omega
    show _ = (c m + f * ((if q.1 + t = m then q.2 else 0) + cS t m qs)) % p
    by_cases hm : q.1 + t = m
    · rw [ih (by rw [hm, va_up_self]; exact Nat.mod_lt _ hp), hm, va_up_self, if_pos rfl, Nat.mod_add_mod, Nat.mul_add, Nat.add_assoc]
    · rw [ih (by rw [va_up_ne _ _ (fun e => hm e.symm)]; exact hc), va_up_ne _ _ (fun e => hm e.symm), if_neg hm, Nat.zero_add]
theorem cS_zero {t m : Nat} : ∀ {qs : List (Nat × Nat)}, (∀ q ∈ qs, q.1 + t ≠ m) → cS t m qs = 0 := by
  intro qs
  induction qs with
  | nil => intro _; rfl
  | cons q qs ih =>
    intro h
    show (if q.1 + t = m then q.2 else 0) + cS t m qs = 0
    rw [if_neg (h q List.mem_cons_self), ih (fun q' hq => h q' (List.mem_cons_of_mem _ hq))]
/-- in a polynomial's list each monomial stands once -/
theorem cS_td {g : Pf} {t r : Nat} (hr : r < 9139) : ∀ {n : Nat}, n ≤ 9139 → cS t (ur r + t) (td g n) = if r < n then g (ur r) else 0 := by
  intro n
  induction n with
  | zero => intro _; rfl
  | succ n ih =>
    intro hn
    have h1 := ih (by omega)
    by_cases hz : g (ur n) = 0
    · rw [td_zero hz, h1]
      by_cases hrn : r < n
      · rw [if_pos hrn, if_pos (by omega)]
      · by_cases hrn2 : r = n
        · subst hrn2
          rw [if_neg hrn, if_pos (by omega), hz]
        · rw [if_neg hrn, if_neg (by omega)]
    · rw [td_pos hz]
      show (if ur n + t = ur r + t then g (ur n) else 0) + cS t (ur r + t) (td g n) = _
      rw [h1]
      by_cases hrn : r = n
      · subst hrn
        rw [if_pos rfl, if_neg (Nat.lt_irrefl _), if_pos (by omega), Nat.add_zero]
      · have hne : ¬ ur n + t = ur r + t := fun z => hrn (ur_inj hr (by omega) (by omega))
        rw [if_neg hne, Nat.zero_add]
        by_cases hl : r < n
        · rw [if_pos hl, if_pos (by omega)]
        · rw [if_neg hl, if_neg (by omega)]
theorem addL_tp {p f t r : Nat} {g c : Pf} (hr : r < 9139) (hc : c (ur r + t) < p) : addL p f t (tp g) c (ur r + t) = (c (ur r + t) + f * g (ur r)) % p := by
  rw [addL_val hc, cS_td hr (Nat.le_refl _), if_pos hr]
def mS (m : Nat) (R : List (Nat × Nat)) : List (Nat × Nat) → Nat
  | [] => 0
  | q :: qs => q.2 * cS q.1 m R + mS m R qs
theorem mulL_lt {p : Nat} (hp : 0 < p) {R : List (Nat × Nat)} : ∀ {qs : List (Nat × Nat)} {c : Pf}, (∀ m, c m < p) → ∀ m, mulL p R qs c m < p := by
  intro qs
  induction qs with
  | nil => intro c hc; exact hc
  | cons q qs ih => intro c hc; rw [mulL_cons]; exact ih (addL_lt hp hc)
theorem mulL_val {p m : Nat} {R : List (Nat × Nat)} : ∀ {qs : List (Nat × Nat)} {c : Pf}, c m < p → mulL p R qs c m = (c m + mS m R qs) % p := by
  intro qs
  induction qs with
  | nil =>
    intro c hc
    show c m = (c m + 0) % p
    rw [Nat.add_zero, Nat.mod_eq_of_lt hc]
  | cons q qs ih =>
    intro c hc
    rw [mulL_cons]
    have hp : 0 < p := by omega
    have h1 := addL_val (f := q.2) (t := q.1) (qs := R) hc
    rw [ih (by rw [h1]; exact Nat.mod_lt _ hp), h1, Nat.mod_add_mod, Nat.add_assoc]
    rfl
theorem mS_zero {m : Nat} {R : List (Nat × Nat)} : ∀ {qs : List (Nat × Nat)}, (∀ q ∈ qs, ∀ q' ∈ R, q'.1 + q.1 ≠ m) → mS m R qs = 0 := by
  intro qs
  induction qs with
  | nil => intro _; rfl
  | cons q qs ih =>
    intro h
    show q.2 * cS q.1 m R + mS m R qs = 0
    rw [cS_zero (h q List.mem_cons_self), ih (fun q' hq => h q' (List.mem_cons_of_mem _ hq)), Nat.mul_zero]
/-- a product's monomials are sums of its factors' -/
theorem mulL_supp {p m : Nat} (hp : 0 < p) {R qs : List (Nat × Nat)} (h : mulL p R qs (fun _ => 0) m ≠ 0) : ∃ q ∈ qs, ∃ q' ∈ R, q'.1 + q.1 = m := by
  apply Classical.byContradiction
  intro hn
  apply h
  rw [mulL_val (show (fun _ => 0 : Pf) m < p from hp), mS_zero (fun q hq q' hq' e => hn ⟨q, hq, q', hq', e⟩)]
  show (0 + 0) % p = 0
  exact Nat.zero_mod p
/-- a list of terms in order, all ranks below n -/
def bl : Nat → List (Nat × Nat) → Prop
  | _, [] => True
  | n, q :: qs => mv q.1 ∧ rk q.1 < n ∧ q.2 ≠ 0 ∧ bl (rk q.1) qs
theorem bl_lt {n : Nat} {L : List (Nat × Nat)} (h : bl n L) : ∀ q ∈ L, rk q.1 < n ∧ mv q.1 ∧ q.2 ≠ 0 := by
  induction L generalizing n with
  | nil => intro q hq; cases hq
  | cons a L ih =>
    intro q hq
    obtain ⟨h1, h2, h3, h4⟩ := h
    rcases List.mem_cons.mp hq with rfl | hq
    · exact ⟨h2, h1, h3⟩
    · obtain ⟨i1, i2⟩ := ih h4 q hq
      exact ⟨by omega, i2⟩
theorem bl_snoc {n m x : Nat} {L : List (Nat × Nat)} (h : bl n L) (hm : mv m) (hn : rk m < n) (hx : x ≠ 0) (hl : ∀ q ∈ L, rk m < rk q.1) : bl n (L ++ [(m, x)]) := by
  induction L generalizing n with
  | nil => exact ⟨hm, hn, hx, trivial⟩
  | cons a L ih =>
    obtain ⟨h1, h2, h3, h4⟩ := h
    exact ⟨h1, h2, h3, ih h4 (hl a List.mem_cons_self) (fun q hq => hl q (List.mem_cons_of_mem _ hq))⟩
theorem td_of {g : Pf} : ∀ {n : Nat} {L : List (Nat × Nat)}, n ≤ 9139 → bl n L → (∀ r, r < n → g (ur r) = cS 0 (ur r) L) → td g n = L := by
  intro n
  induction n with
  | zero =>
    intro L _ hb _
    cases L with
    | nil => rfl
    | cons q qs => exact absurd hb.2.1 (Nat.not_lt_zero _)
  | succ n ih =>
    intro L hn hb hg
    cases L with
    | nil =>
      rw [td_zero (hg n (by omega))]
      exact ih (by omega) trivial (fun r hr => hg r (by omega))
    | cons q qs =>
      obtain ⟨h1, h2, h3, h4⟩ := hb
      have hq : ur (rk q.1) = q.1 := ur_rk h1
      by_cases hr : rk q.1 = n
      · have hz : cS 0 (ur n) qs = 0 := cS_zero (fun q' hq' e => by
          have h5 := (bl_lt h4 q' hq').1
          rw [Nat.add_zero] at e
          rw [e, rk_ur (by omega)] at h5
          omega)
        have hv : g (ur n) = q.2 := by
          rw [hg n (by omega)]
          show (if q.1 + 0 = ur n then q.2 else 0) + cS 0 (ur n) qs = q.2
          rw [hz, if_pos (by rw [← hr, hq, Nat.add_zero]), Nat.add_zero]
        rw [td_pos (by rw [hv]; exact h3), hv, ih (by omega) (hr ▸ h4) (fun r hlt => by
          rw [hg r (by omega)]
          show (if q.1 + 0 = ur r then q.2 else 0) + cS 0 (ur r) qs = _
          rw [if_neg (fun e => by
            rw [Nat.add_zero] at e
            have h6 : rk q.1 = r := by rw [e, rk_ur (by omega)]
            omega), Nat.zero_add])]
        rw [← hr, hq]
      · have hz : g (ur n) = 0 := by
          rw [hg n (by omega)]
          refine cS_zero (fun q' hq' e => ?_)
          have h5 : rk q'.1 ≤ rk q.1 := by
            rcases List.mem_cons.mp hq' with rfl | hq'
            · exact Nat.le_refl _
            · exact Nat.le_of_lt (bl_lt h4 q' hq').1
          rw [Nat.add_zero] at e
          rw [e, rk_ur (by omega)] at h5
          omega
        rw [td_zero hz]
        exact ih (by omega) ⟨h1, by omega, h3, h4⟩ (fun r hlt => hg r (by omega))
theorem bl_td {g : Pf} : ∀ {n : Nat}, n ≤ 9139 → bl n (td g n) := by
  have up : ∀ {n k : Nat} {L : List (Nat × Nat)}, bl n L → n ≤ k → bl k L := by
    intro n k L h hk
    cases L with
    | nil => trivial
    | cons q qs => exact ⟨h.1, by have := h.2.1; omega, h.2.2⟩
  intro n
  induction n with
  | zero => intro _; trivial
  | succ n ih =>
    intro hn
    by_cases hz : g (ur n) = 0
    · rw [td_zero hz]
      exact up (ih (by omega)) (by omega)
    · rw [td_pos hz]
      refine ⟨ur_mv (by omega), by rw [rk_ur (by omega)]; omega, hz, ?_⟩
      rw [rk_ur (by omega)]
      exact ih (by omega)
end
section
/-! Rows on machine numbers: remainders of any sign, shifts, bits. -/
/-- what a number leaves, never negative -/
def rd (p : Nat) (z : Int) : Nat := (z % (p : Int)).toNat
theorem rd_lt {p : Nat} (hp : 0 < p) (z : Int) : rd p z < p := by
  have h1 := Int.emod_nonneg z (show (p : Int) ≠ 0 by omega)
  have h2 := Int.emod_lt_of_pos z (show (0 : Int) < p by omega)
  unfold rd
  omega
theorem rd_nat (p n : Nat) : rd p (n : Int) = n % p := by
  unfold rd
  rw [← Int.natCast_emod, Int.toNat_natCast]
theorem rd_tm {p : Nat} (hp : 0 < p) (z : Int) : ((0 ≤ z ∨ z.tmod p = 0) → z.tmod p = (rd p z : Nat)) ∧ ((z < 0 ∧ z.tmod p ≠ 0) → z.tmod p + p = (rd p z : Nat)) := by
  have h1 := Int.emod_nonneg z (show (p : Int) ≠ 0 by omega)
  have h2 := Int.emod_lt_of_pos z (show (0 : Int) < p by omega)
  have h3 : ((rd p z : Nat) : Int) = z % p := by unfold rd; omega
  have h4 := Int.tmod_eq_emod (a := z) (b := (p : Int))
  have h5 : ((p : Int).natAbs : Int) = p := by omega
  rw [h3]
  by_cases hd : 0 ≤ z ∨ (p : Int) ∣ z
  · rw [if_pos hd] at h4
    refine ⟨fun _ => by omega, fun h => ?_⟩
    rcases hd with hd | hd
    · omega
    · rw [Int.dvd_iff_emod_eq_zero] at hd
      omega
  · rw [if_neg hd] at h4
    have hz : z % p ≠ 0 := fun q => hd (Or.inr (Int.dvd_iff_emod_eq_zero.mpr q))
    refine ⟨fun h => ?_, fun h => by omega⟩
    rcases h with h | h
    · exact absurd (Or.inl h) hd
    · omega
theorem tm_abs {p : Nat} (hp : 0 < p) (z : Int) : -(p : Int) < z.tmod p ∧ z.tmod p < p ∧ (0 ≤ z → 0 ≤ z.tmod p ∧ z.tmod p ≤ z) ∧ (z < 0 → z ≤ z.tmod p ∧ z.tmod p ≤ 0) := by
  have a1 : ∀ w : Int, 0 ≤ w → 0 ≤ w.tmod p ∧ w.tmod p ≤ w ∧ w.tmod p < p := fun w hw => by
    rw [Int.tmod_eq_emod_of_nonneg hw]
    refine ⟨Int.emod_nonneg w (by omega), ?_, Int.emod_lt_of_pos w (by omega)⟩
    obtain ⟨n, rfl⟩ := Int.eq_ofNat_of_zero_le hw
    rw [← Int.natCast_emod]
    exact Int.ofNat_le.mpr (Nat.mod_le n p)
  by_cases hz : 0 ≤ z
  · obtain ⟨h1, h2, h3⟩ := a1 z hz
    exact ⟨by omega, h3, fun _ => ⟨h1, h2⟩, fun h => by omega⟩
  · obtain ⟨h1, h2, h3⟩ := a1 (-z) (by omega)
    rw [Int.neg_tmod] at h1 h2 h3
    exact ⟨by omega, by omega, fun h => by omega, fun _ => ⟨by omega, by omega⟩⟩
theorem rem32 (x : Int32) {p : Nat} (h0 : 0 < p) (h : p < 2 ^ 31) : (x - x / nI p * nI p).toInt = x.toInt.tmod p := by
  have hne : nI p ≠ -1 := fun q => by
    have h1 := nI_toInt h
    rw [q] at h1
    have h2 : (-1 : Int32).toInt = -1 := by decide +kernel
    omega
  have hd := Int32.toInt_div_of_ne_right x (nI p) hne
  rw [nI_toInt h] at hd
  have hx1 := Int32.le_toInt x
  have hx2 := Int32.toInt_lt x
  obtain ⟨t1, t2, t3, t4⟩ := tm_abs h0 x.toInt
  have hm : x.toInt.tdiv p * p = x.toInt - x.toInt.tmod p := by
    rw [Int.tmod_def, Int.mul_comm]
    omega
  rw [Int32.toInt_sub, Int32.toInt_mul, hd, nI_toInt h, hm]
  rw [Int.bmod_eq_of_le (n := x.toInt - x.toInt.tmod p) (by omega) (by omega)]
  rw [show x.toInt - (x.toInt - x.toInt.tmod p) = x.toInt.tmod p by omega]
  exact Int.bmod_eq_of_le (by omega) (by omega)
theorem rem64 (x : Int64) {p : Nat} (h0 : 0 < p) (h : p < 2 ^ 31) : (x - x / lN p * lN p).toInt = x.toInt.tmod p := by
  have hne : lN p ≠ -1 := fun q => by
    have h1 := lN_toInt h
    rw [q] at h1
    have h2 : (-1 : Int64).toInt = -1 := by decide +kernel
    omega
  have hd := Int64.toInt_div_of_ne_right x (lN p) hne
  rw [lN_toInt h] at hd
  have hx1 := Int64.le_toInt x
  have hx2 := Int64.toInt_lt x
  obtain ⟨t1, t2, t3, t4⟩ := tm_abs h0 x.toInt
  have hm : x.toInt.tdiv p * p = x.toInt - x.toInt.tmod p := by
    rw [Int.tmod_def, Int.mul_comm]
    omega
  rw [Int64.toInt_sub, Int64.toInt_mul, hd, lN_toInt h, hm]
  rw [Int.bmod_eq_of_le (n := x.toInt - x.toInt.tmod p) (by omega) (by omega)]
  rw [show x.toInt - (x.toInt - x.toInt.tmod p) = x.toInt.tmod p by omega]
  exact Int.bmod_eq_of_le (by omega) (by omega)
theorem neg_xor (x : Int32) {p : Nat} (h : p < 2 ^ 31) : 0 ≤ (x ^^^ nI p) ↔ 0 ≤ x := by
  have h1 : ∀ y : Int32, 0 ≤ y ↔ y.toBitVec.msb = false := fun y => by
    rw [Int32.le_iff_toInt_le, BitVec.msb_eq_toInt]
    show 0 ≤ y.toBitVec.toInt ↔ _
    simp
  have h2 : (nI p).toBitVec.msb = false := (h1 _).mp (nI_pos' h)
  rw [h1, h1]
  show (x.toBitVec ^^^ (nI p).toBitVec).msb = false ↔ _
  rw [BitVec.msb_xor, h2, Bool.xor_false]
theorem i32_of {x : Int32} {n : Nat} (h : x.toInt = n) : x = nI n := by
  apply Int32.toInt_inj.mp
  have h2 := Int32.toInt_lt x
  rw [h, nI_toInt (by omega)]
theorem sh_s : ∀ k, k < 32 → ((nI k &&& 31).toBitVec.smod 32).toNat = k := by decide +kernel
theorem sh_l {n k : Nat} (hk : k < 32) (h : n * 2 ^ k < 2 ^ 32) : nI n <<< (nI k &&& 31) = nI (n * 2 ^ k) := pk_shlN _ k (sh_s k hk) h
theorem sh_r {n k : Nat} (hk : k < 32) (h : n < 2 ^ 31) : nI n >>> (nI k &&& 31) = nI (n / 2 ^ k) := pk_shrN h _ k (sh_s k hk)
theorem bt_or (a b : Nat) : nI a ||| nI b = nI (a ||| b) := by
  apply Int32.toBitVec_inj.1
  show BitVec.ofNat 32 a ||| BitVec.ofNat 32 b = BitVec.ofNat 32 (a ||| b)
  rw [BitVec.ofNat_or]
theorem bt_and (a b : Nat) : nI a &&& nI b = nI (a &&& b) := by
  apply Int32.toBitVec_inj.1
  show BitVec.ofNat 32 a &&& BitVec.ofNat 32 b = BitVec.ofNat 32 (a &&& b)
  rw [BitVec.ofNat_and]
theorem bt_xor (a b : Nat) : nI a ^^^ nI b = nI (a ^^^ b) := by
  apply Int32.toBitVec_inj.1
  show BitVec.ofNat 32 a ^^^ BitVec.ofNat 32 b = BitVec.ofNat 32 (a ^^^ b)
  rw [BitVec.ofNat_xor]
/-- an or of numbers whose bits are apart is a sum -/
theorem or_6 {a b : Nat} (h : b < 64) : (a * 64) ||| b = a * 64 + b := by
  have h1 := Nat.two_pow_add_eq_or_of_lt (i := 6) (b := b) (by omega) a
  rw [show (2 : Nat) ^ 6 = 64 from rfl, Nat.mul_comm] at h1
  exact h1.symm
theorem and_63 (a : Nat) : a &&& 63 = a % 64 := Nat.and_two_pow_sub_one_eq_mod a 6
theorem and_1 (a : Nat) : a &&& 1 = a % 2 := Nat.and_two_pow_sub_one_eq_mod a 1
end
section
/-! Words for states; small rows on numbers. -/
theorem ii_p (a : Nat) : nI a + Int32.ofInt 1 = nI (a + 1) := nI_1 a
def dn (n : Nat) : Int32 := nI n - 1
theorem ii_m (a : Nat) : nI a + Int32.ofInt (-1) = dn a := by
  show nI a + (-1) = nI a - 1
  rw [Int32.sub_eq_add_neg]
theorem dn_s (a : Nat) : dn (a + 1) = nI a := nI_pred a
theorem dn_0 : dn 0 < 0 := by decide +kernel
section TPN
variable {p : Program} {l : Launch} {e : Env} {R : Room} {s : State} {m : MethodId} {args : Array Value} {below : List Frame} {meth : Method} {c : Code} {H : Heap} {locs : List Loc} {cells slots : Nat} {Q : State → Prop} {pc : Nat} {ls : Array Slot} {rest : List Value}
theorem tp_n {e1 e2 : Nat} (h : e1 = e2) (k : W p l e R s m args below meth c H locs cells slots Q (F0 m pc ls (.int (nI e2) :: rest))) : W p l e R s m args below meth c H locs cells slots Q (F0 m pc ls (.int (nI e1) :: rest)) := by
  subst h
  exact k
theorem tp_i {e1 e2 : Int32} (h : e1 = e2) (k : W p l e R s m args below meth c H locs cells slots Q (F0 m pc ls (.int e2 :: rest))) : W p l e R s m args below meth c H locs cells slots Q (F0 m pc ls (.int e1 :: rest)) := by
  subst h
  exact k
theorem tp_l {e1 e2 : Int64} (h : e1 = e2) (k : W p l e R s m args below meth c H locs cells slots Q (F0 m pc ls (.long e2 :: rest))) : W p l e R s m args below meth c H locs cells slots Q (F0 m pc ls (.long e1 :: rest)) := by
  subst h
  exact k
end TPN
/-- the field: its prime -/
def fd (M : Hm) (fa p : Nat) : Prop := M fa = some ((1, 0), .inr (0, [.int (nI p)])) ∧ 2 ≤ p ∧ p ≤ 46337
theorem fd_mul {p x y : Nat} (hp : p ≤ 46337) (hx : x < p) (hy : y < p) : x * y ≤ 46336 * 46336 := Nat.mul_le_mul (by omega) (by omega)
/-- the opposite number -/
def ng (p x : Nat) : Nat := if x = 0 then 0 else p - x
theorem ng_lt {p x : Nat} (hp : 0 < p) : ng p x < p := by
  unfold ng
  split <;> omega

set_option maxHeartbeats 4000000 in
set_option maxRecDepth 100000 in
theorem c_F_product (l : Launch) (D : va_G) (Y : Nat → ClassId) (lo : Nat) {M : Hm} {fa p x y : Nat} (hf : fd M fa p) (hxp : x < p) (hyp : y < p) : ct l D Y lo y_F_product b_F_product 3 (some .int) 0 [.ref fa, .int (nI x), .int (nI y)] M (fun r M' => r = some (.int (nI (x * y % p))) ∧ M = M') nx 0 0 := by
  refine ct_of (by decide) (Nat.le_of_ble_eq_true rfl) ?_
  intro pg eg sg mg bw mt cg ls X hst hl
  have X1 := X
  obtain ⟨hx, hb, hml, hrt, hlocks, hown, hnm, hts, hkz, hex⟩ := X1
  have hG : ∀ w ∈ GW, w.before _ sg = true := fun w h => hts w (List.mem_cons_of_mem _ h)
  have hK := hkz.1
  have hl : lv_has ls 3 [(0, .ref fa), (1, .int (nI x)), (2, .int (nI y))] := hl
  obtain ⟨h0, hp2, hp3⟩ := hf
  have hm := fd_mul hp3 hxp hyp
  refine lv_iload_n hx hb dF_product_0 rfl (lv_at hl 1 rfl) ?_
  refine lv_iload_n hx hb dF_product_1 rfl (lv_at hl 2 rfl) ?_
  refine t_imul hx hb dF_product_2 (v := nI (x * y)) (pk_mul _ _) ?_
  refine lv_aload_n hx hb dF_product_3 rfl (lv_at hl 0 rfl) ?_
  refine hp_get hx hb hG in_F hown hK hst h0 rfl 0 (by decide) (hG _ fl_F_13) rfl rfl dF_product_4 ?_
  have hmod := Nat.mod_lt (x * y) (show 0 < p from (by omega))
  refine t_irem hx hb dF_product_7 (nI_ne0 (by omega) (by omega)) (v := nI ((x * y) % p)) (pk_rem (by omega) (by omega) (by omega)) ?_
  exact ct_iret X hst ⟨rfl, rfl⟩ (by omega) (by omega) dF_product_8

set_option maxHeartbeats 4000000 in
set_option maxRecDepth 100000 in
theorem c_F_sumWithProduct (l : Launch) (D : va_G) (Y : Nat → ClassId) (lo : Nat) {M : Hm} {fa p z x y : Nat} (hf : fd M fa p) (hzp : z < p) (hxp : x < p) (hyp : y < p) : ct l D Y lo y_F_sumWithProduct b_F_sumWithProduct 4 (some .int) 0 [.ref fa, .int (nI z), .int (nI x), .int (nI y)] M (fun r M' => r = some (.int (nI ((z + x * y) % p))) ∧ M = M') nx 0 0 := by
  refine ct_of (by decide) (Nat.le_of_ble_eq_true rfl) ?_
  intro pg eg sg mg bw mt cg ls X hst hl
  have X1 := X
  obtain ⟨hx, hb, hml, hrt, hlocks, hown, hnm, hts, hkz, hex⟩ := X1
  have hG : ∀ w ∈ GW, w.before _ sg = true := fun w h => hts w (List.mem_cons_of_mem _ h)
  have hK := hkz.1
  have hl : lv_has ls 4 [(0, .ref fa), (1, .int (nI z)), (2, .int (nI x)), (3, .int (nI y))] := hl
  obtain ⟨h0, hp2, hp3⟩ := hf
  have hm := fd_mul hp3 hxp hyp
  refine lv_iload_n hx hb dF_sumWithProduct_0 rfl (lv_at hl 1 rfl) ?_
  refine lv_iload_n hx hb dF_sumWithProduct_1 rfl (lv_at hl 2 rfl) ?_
  refine lv_iload_n hx hb dF_sumWithProduct_2 rfl (lv_at hl 3 rfl) ?_
  refine t_imul hx hb dF_sumWithProduct_3 (v := nI (x * y)) (pk_mul _ _) ?_
  refine t_iadd hx hb dF_sumWithProduct_4 (v := nI (z + (x * y))) (nI_add _ _) ?_
  refine lv_aload_n hx hb dF_sumWithProduct_5 rfl (lv_at hl 0 rfl) ?_
  refine hp_get hx hb hG in_F hown hK hst h0 rfl 0 (by decide) (hG _ fl_F_13) rfl rfl dF_sumWithProduct_6 ?_
  have hmod := Nat.mod_lt (z + (x * y)) (show 0 < p from (by omega))
  refine t_irem hx hb dF_sumWithProduct_9 (nI_ne0 (by omega) (by omega)) (v := nI ((z + (x * y)) % p)) (pk_rem (by omega) (by omega) (by omega)) ?_
  exact ct_iret X hst ⟨rfl, rfl⟩ (by omega) (by omega) dF_sumWithProduct_10

set_option maxHeartbeats 4000000 in
set_option maxRecDepth 100000 in
theorem c_F_negative (l : Launch) (D : va_G) (Y : Nat → ClassId) (lo : Nat) {M : Hm} {fa p x : Nat} (hf : fd M fa p) (hxp : x < p) : ct l D Y lo y_F_negative b_F_negative 2 (some .int) 0 [.ref fa, .int (nI x)] M (fun r M' => r = some (.int (nI (ng p x))) ∧ M = M') nx 0 0 := by
  refine ct_of (by decide) (Nat.le_of_ble_eq_true rfl) ?_
  intro pg eg sg mg bw mt cg ls X hst hl
  have X1 := X
  obtain ⟨hx, hb, hml, hrt, hlocks, hown, hnm, hts, hkz, hex⟩ := X1
  have hG : ∀ w ∈ GW, w.before _ sg = true := fun w h => hts w (List.mem_cons_of_mem _ h)
  have hK := hkz.1
  have hl : lv_has ls 2 [(0, .ref fa), (1, .int (nI x))] := hl
  obtain ⟨h0, hp2, hp3⟩ := hf
  refine lv_iload_n hx hb dF_negative_0 rfl (lv_at hl 1 rfl) ?_
  refine lv_if_ne hx hb dF_negative_1 (tgt := 8) rfl (fun hc => ?_) (fun hc => ?_)
  · skip
    rw [← nI_0] at hc
    have hc : ¬ x = 0 := fun z => hc ((nI_eq (by omega) (by omega)).mpr z)
    refine lv_aload_n hx hb dF_negative_8 rfl (lv_at hl 0 rfl) ?_
    refine hp_get hx hb hG in_F hown hK hst h0 rfl 0 (by decide) (hG _ fl_F_13) rfl rfl dF_negative_9 ?_
    refine lv_iload_n hx hb dF_negative_12 rfl (lv_at hl 1 rfl) ?_
    refine t_isub hx hb dF_negative_13 (v := nI (p - x)) (pk_sub (by omega)) ?_
    exact ct_iret X hst ⟨by unfold ng; rw [if_neg hc], rfl⟩ (by omega) (by omega) dF_negative_14
  · skip
    rw [← nI_0] at hc
    have hc : x = 0 := (nI_eq (by omega) (by omega)).mp hc
    refine lv_iconst (v := nI 0) hx hb dF_negative_4 (by decide +kernel) ?_
    refine lv_goto hx hb dF_negative_5 (tgt := 14) rfl ?_
    exact ct_iret X hst ⟨by unfold ng; rw [if_pos hc], rfl⟩ (by omega) (by omega) dF_negative_14

set_option maxHeartbeats 4000000 in
set_option maxRecDepth 100000 in
theorem c_F_isPrime (l : Launch) (D : va_G) (Y : Nat → ClassId) (lo : Nat) {M : Hm} {n : Nat} (h2 : 2 ≤ n) (hn : n ≤ 46337) : ct l D Y lo y_F_isPrime b_F_isPrime 2 (some .boolean) 0 [.int (nI n)] M (fun r M' => ∃ b : Nat, r = some (.int (nI b)) ∧ b ≤ 1 ∧ (b = 1 ↔ pr n) ∧ M = M') nx 0 0 := by
  refine ct_of (by decide) (Nat.le_of_ble_eq_true rfl) ?_
  intro pg eg sg mg bw mt cg ls X hst hl
  have X1 := X
  obtain ⟨hx, hb, hml, hrt, hlocks, hown, hnm, hts, hkz, hex⟩ := X1
  have hG : ∀ w ∈ GW, w.before _ sg = true := fun w h => hts w (List.mem_cons_of_mem _ h)
  have hK := hkz.1
  have hl : lv_has ls 2 [(0, .int (nI n))] := hl
  refine lv_iconst (v := nI 2) hx hb dF_isPrime_0 (by decide +kernel) ?_
  refine lv_istore_n (lv' := [(1, .int (nI 2)), (0, .int (nI n))]) hx hb dF_isPrime_1 rfl hl (by decide) rfl (fun ls hl => ?_)
  have LP : ∀ (kk : Nat) (d : Nat) (H : Heap) (locs : List Loc) (ls : Array Slot), kk = 217 - d → (2 ≤ d) → (d ≤ 216) → (∀ d', 2 ≤ d' → d' < d → n % d' ≠ 0) → hp_st D vC lo M sg.heap H locs → lv_has ls 2 [(0, .int (nI n)), (1, .int (nI d))] → cW pg l eg sg mg [.int (nI n)] bw mt cg y_F_isPrime b_F_isPrime 2 (some .boolean) 0 D lo (fun r M' => ∃ b : Nat, r = some (.int (nI b)) ∧ b ≤ 1 ∧ (b = 1 ↔ pr n) ∧ M = M') nx 0 0 H locs 0 0 (F0 mg 2 ls []) := by
    intro kk
    induction kk using Nat.strongRecOn with
    | _ kk ih =>
    intro d H locs ls hkk hd1 hd2 hno hst hl
    have hdd : d * d ≤ 216 * 216 := Nat.mul_le_mul hd2 hd2
    refine lv_iload_n hx hb dF_isPrime_2 rfl (lv_at hl 1 rfl) ?_
    refine lv_iload_n hx hb dF_isPrime_3 rfl (lv_at hl 1 rfl) ?_
    refine t_imul hx hb dF_isPrime_4 (v := nI (d * d)) (pk_mul _ _) ?_
    refine lv_iload_n hx hb dF_isPrime_5 rfl (lv_at hl 0 rfl) ?_
    refine lv_icmp_gt hx hb dF_isPrime_6 (tgt := 23) rfl (fun hc => ?_) (fun hc => ?_)
    · skip
      have hc : n < (d * d) := (nI_ltI (by omega) (by omega)).mp hc
      refine lv_iconst (v := nI 1) hx hb dF_isPrime_23 (by decide +kernel) ?_
      have hpr : pr n := ⟨h2, fun d' h1 h3 => by
          by_cases hlt : d' < d
          · exact hno d' h1 hlt
          · have := Nat.mul_le_mul (show d ≤ d' by omega) (show d ≤ d' by omega)
            omega⟩
      exact ct_zret X hst (by omega) ⟨1, rfl, by omega, iff_of_true rfl hpr, rfl⟩ (by omega) (by omega) dF_isPrime_24
    · skip
      have hc : ¬ n < (d * d) := fun z => hc ((nI_ltI (by omega) (by omega)).mpr z)
      have hd3 : d < 216 := by
        apply Classical.byContradiction
        intro hh
        have := Nat.mul_le_mul (show 216 ≤ d by omega) (show 216 ≤ d by omega)
        omega
      refine lv_iload_n hx hb dF_isPrime_9 rfl (lv_at hl 0 rfl) ?_
      refine lv_iload_n hx hb dF_isPrime_10 rfl (lv_at hl 1 rfl) ?_
      have hmod := Nat.mod_lt n (show 0 < d from (by omega))
      refine t_irem hx hb dF_isPrime_11 (nI_ne0 (by omega) (by omega)) (v := nI (n % d)) (pk_rem (by omega) (by omega) (by omega)) ?_
      refine lv_if_ne hx hb dF_isPrime_12 (tgt := 17) rfl (fun hc => ?_) (fun hc => ?_)
      · skip
        rw [← nI_0] at hc
        have hc2 : ¬ (n % d) = 0 := fun z => hc ((nI_eq (by omega) (by omega)).mpr z)
        refine lv_iinc (lv' := [(1, .int (nI (d + 1))), (0, .int (nI n))]) hx hb dF_isPrime_17 hl (k := 1) rfl (ii_p _) (by decide) rfl (fun ls hl => ?_)
        refine lv_goto hx hb dF_isPrime_20 (tgt := 2) rfl ?_
        exact ih _ (by omega) (d + 1) _ _ _ rfl (by omega) (by omega) (fun d' h1 h3 => by
            by_cases he : d' = d
            · subst he; exact hc2
            · exact hno d' h1 (by omega)) hst (lv_sub hl [1, 0] rfl)
      · skip
        rw [← nI_0] at hc
        have hc2 : (n % d) = 0 := (nI_eq (by omega) (by omega)).mp hc
        refine lv_iconst (v := nI 0) hx hb dF_isPrime_15 (by decide +kernel) ?_
        exact ct_zret X hst (by omega) ⟨0, rfl, by omega, iff_of_false (by decide) (fun hpr => hpr.2 d hd1 (by omega) hc2), rfl⟩ (by omega) (by omega) dF_isPrime_16
  exact LP _ 2 _ _ _ rfl (by omega) (by omega) (fun d' h1 h3 => by omega) hst (lv_sub hl [1, 0] rfl)

set_option maxHeartbeats 4000000 in
set_option maxRecDepth 100000 in
theorem c_Jm_floorMod (l : Launch) (D : va_G) (Y : Nat → ClassId) (lo : Nat) {M : Hm} {p : Nat} (x : Int32) (hp2 : 2 ≤ p) (hp3 : p ≤ 46337) : ct l D Y lo y_Jm_floorMod b_Jm_floorMod 3 (some .int) 0 [.int x, .int (nI p)] M (fun r M' => r = some (.int (nI (rd p x.toInt))) ∧ M = M') nx 0 0 := by
  refine ct_ofF (by decide +kernel) (Nat.le_of_ble_eq_true rfl) ?_
  intro pg eg sg mg bw mt cg ls X hst hl
  have X1 := X
  obtain ⟨hx, hb, hml, hrt, hlocks, hown, hnm, hts, hkz, hex⟩ := X1
  have hG : ∀ w ∈ GW, w.before _ sg = true := fun w h => hts w (List.mem_cons_of_mem _ h)
  have hK := hkz.1
  have hl : lv_has ls 3 [(0, .int x), (1, .int (nI p))] := hl
  refine lv_iload_n hx hb dJm_floorMod_0 rfl (lv_at hl 0 rfl) ?_
  refine lv_iload_n hx hb dJm_floorMod_1 rfl (lv_at hl 1 rfl) ?_
  refine lv_irem hx hb dJm_floorMod_2 (nI_ne0 (by omega) (by omega)) ?_
  have hr := rem32 x (p := p) (by omega) (by omega)
  obtain ⟨t1, t2, t3, t4⟩ := tm_abs (p := p) (by omega) x.toInt
  obtain ⟨u1, u2⟩ := rd_tm (p := p) (by omega) x.toInt
  have hlt := rd_lt (p := p) (by omega) x.toInt
  generalize x - x / nI p * nI p = q at hr ⊢
  refine lv_istore_n (lv' := [(2, .int q), (0, .int x), (1, .int (nI p))]) hx hb dJm_floorMod_3 rfl hl (by decide) rfl (fun ls hl => ?_)
  refine lv_iload_n hx hb dJm_floorMod_4 rfl (lv_at hl 1 rfl) ?_
  refine lv_iload_n hx hb dJm_floorMod_5 rfl (lv_at hl 2 rfl) ?_
  refine lv_ixor hx hb dJm_floorMod_6 ?_
  refine lv_if_ge hx hb dJm_floorMod_7 (tgt := 18) rfl (fun hc => ?_) (fun hc => ?_)
  · skip
    have hge : 0 ≤ x.toInt := by
      have h9 := (neg_xor x (by omega)).mp hc
      rwa [Int32.le_iff_toInt_le, Int32.toInt_zero] at h9
    refine lv_iload_n hx hb dJm_floorMod_18 rfl (lv_at hl 0 rfl) ?_
    exact ct_iret X hst ⟨by rw [i32_of (hr.trans (u1 (Or.inl hge)))], rfl⟩ (by omega) (by omega) dJm_floorMod_19
  · skip
    have hge : ¬ 0 ≤ x.toInt := fun h9 => hc ((neg_xor x (by omega)).mpr (by rw [Int32.le_iff_toInt_le, Int32.toInt_zero]; exact h9))
    refine lv_iload_n hx hb dJm_floorMod_10 rfl (lv_at hl 0 rfl) ?_
    refine lv_if_eq hx hb dJm_floorMod_11 (tgt := 18) rfl (fun hc => ?_) (fun hc => ?_)
    · skip
      have hq : x.toInt.tmod p = 0 := by rw [← hr, hc]; rfl
      refine lv_iload_n hx hb dJm_floorMod_18 rfl (lv_at hl 0 rfl) ?_
      exact ct_iret X hst ⟨by rw [i32_of (hr.trans (u1 (Or.inr hq)))], rfl⟩ (by omega) (by omega) dJm_floorMod_19
    · skip
      have hq : x.toInt.tmod p ≠ 0 := fun h9 => hc (Int32.toInt_inj.mp (by rw [hr, h9]; rfl))
      refine lv_iload_n hx hb dJm_floorMod_14 rfl (lv_at hl 0 rfl) ?_
      refine lv_iload_n hx hb dJm_floorMod_15 rfl (lv_at hl 2 rfl) ?_
      refine t_iadd hx hb dJm_floorMod_16 (v := q + (nI p)) rfl ?_
      exact ct_iret X hst ⟨by
        refine congrArg (fun v => some (Value.int v)) (i32_of ?_)
        rw [Int32.toInt_add, hr, nI_toInt (by omega), u2 ⟨by omega, hq⟩]
        exact Int.bmod_eq_of_le (by omega) (by omega), rfl⟩ (by omega) (by omega) dJm_floorMod_17

set_option maxHeartbeats 4000000 in
set_option maxRecDepth 100000 in
theorem c_F_reduced (l : Launch) (D : va_G) (Y : Nat → ClassId) (lo : Nat) {M : Hm} {fa p : Nat} (x : Int32) (hf : fd M fa p) : ct l D Y lo y_F_reduced b_F_reduced 2 (some .int) 1 [.ref fa, .int x] M (fun r M' => r = some (.int (nI (rd p x.toInt))) ∧ M = M') nx 0 0 := by
  refine ct_of (by decide) (Nat.le_of_ble_eq_true rfl) ?_
  intro pg eg sg mg bw mt cg ls X hst hl
  have X1 := X
  obtain ⟨hx, hb, hml, hrt, hlocks, hown, hnm, hts, hkz, hex⟩ := X1
  have hG : ∀ w ∈ GW, w.before _ sg = true := fun w h => hts w (List.mem_cons_of_mem _ h)
  have hK := hkz.1
  have hl : lv_has ls 2 [(0, .ref fa), (1, .int x)] := hl
  obtain ⟨h0, hp2, hp3⟩ := hf
  refine lv_iload_n hx hb dF_reduced_0 rfl (lv_at hl 1 rfl) ?_
  refine lv_aload_n hx hb dF_reduced_1 rfl (lv_at hl 0 rfl) ?_
  refine hp_get hx hb hG in_F hown hK hst h0 rfl 0 (by decide) (hG _ fl_F_13) rfl rfl dF_reduced_2 ?_
  refine ct_callS (av2 := [.int x, .int (nI p)]) (rest := []) X hst (c_Jm_floorMod l D Y lo x hp2 hp3) wc_Jm_floorMod ml_F_28 ws_Jm_floorMod wn_Jm md_Jm_floorMod (by decide) hl.1 rfl (Nat.le_of_ble_eq_true rfl) ⟨by omega, by omega⟩ (fun _ _ h => h.elim) dF_reduced_5 (fun r M' H locs hp hst => ?_)
  obtain ⟨rfl, rfl⟩ := hp
  exact ct_iret X hst ⟨rfl, rfl⟩ (by omega) (by omega) dF_reduced_8

/-- p is the least prime from x on, or the greatest one allowed -/
def lpr (x : Int32) (p : Nat) : Prop := pr p ∧ p ≤ 46337 ∧ (x.toInt ≤ p ∨ p = 46337) ∧ ∀ q, pr q → q < p → (q : Int) < x.toInt
theorem lpr_eq {x : Int32} {p q : Nat} (h : lpr x p) (h' : lpr x q) : p = q := by
  obtain ⟨a1, a2, a3, a4⟩ := h
  obtain ⟨b1, b2, b3, b4⟩ := h'
  rcases Nat.lt_trichotomy p q with hl | hl | hl
  · have := b4 p a1 hl; omega
  · exact hl
  · have := a4 q b1 hl; omega

set_option maxHeartbeats 4000000 in
set_option maxRecDepth 100000 in
theorem c_F_leastPrime (l : Launch) (D : va_G) (Y : Nat → ClassId) (lo : Nat) {M : Hm} (x : Int32) : ct l D Y lo y_F_leastPrime b_F_leastPrime 2 (some .int) 1 [.int x] M (fun r M' => ∃ p : Nat, r = some (.int (nI p)) ∧ lpr x p ∧ M = M') nx 0 0 := by
  refine ct_of (by decide) (Nat.le_of_ble_eq_true rfl) ?_
  intro pg eg sg mg bw mt cg ls X hst hl
  have X1 := X
  obtain ⟨hx, hb, hml, hrt, hlocks, hown, hnm, hts, hkz, hex⟩ := X1
  have hG : ∀ w ∈ GW, w.before _ sg = true := fun w h => hts w (List.mem_cons_of_mem _ h)
  have hK := hkz.1
  have hl : lv_has ls 2 [(0, .int x)] := hl
  refine lv_iload_n hx hb dF_leastPrime_0 rfl (lv_at hl 0 rfl) ?_
  refine lv_iconst (v := nI 2) hx hb dF_leastPrime_1 (by decide +kernel) ?_
  refine va_mmax hx hb (by rw [hml]; exact hl.1.symm) hown (hG _ ml_F_17) (hG _ ws_Jm_max) (hG _ wn_Jm) (hG _ wc_Jm_max) (Nat.le_of_ble_eq_true rfl) (Nat.le_of_ble_eq_true rfl) (by show _ ≤ _; omega) (by show _ ≤ _; omega) dF_leastPrime_2 ?_
  obtain ⟨n0, hn0, hn1, hn2, hn3⟩ : ∃ n0 : Nat, (if x < nI 2 then nI 2 else x) = nI n0 ∧ 2 ≤ n0 ∧ n0 < 2 ^ 31 ∧ (x.toInt ≤ n0 ∧ (n0 = 2 ∨ (n0 : Int) = x.toInt)) := by
    have h2 : (nI 2).toInt = 2 := nI_toInt (by omega)
    by_cases hx2 : x < nI 2
    · rw [if_pos hx2]
      rw [Int32.lt_iff_toInt_lt, h2] at hx2
      exact ⟨2, rfl, by omega, by omega, by omega, Or.inl rfl⟩
    · rw [if_neg hx2]
      rw [Int32.lt_iff_toInt_lt, h2] at hx2
      have hb2 := Int32.toInt_lt x
      exact ⟨x.toInt.toNat, i32_of (by omega), by omega, by omega, by omega, Or.inr (by omega)⟩
  rw [hn0]
  refine lv_istore_n (lv' := [(1, .int (nI n0)), (0, .int x)]) hx hb dF_leastPrime_5 rfl hl (by decide) rfl (fun ls hl => ?_)
  have LP : ∀ (kk : Nat) (n : Nat) (H : Heap) (locs : List Loc) (ls : Array Slot), kk = 2 ^ 31 - n → (2 ≤ n) → (n < 2 ^ 31) → (x.toInt ≤ n) → (∀ q, pr q → q < n → (q : Int) < x.toInt) → hp_st D vC lo M sg.heap H locs → lv_has ls 2 [(0, .int x), (1, .int (nI n))] → cW pg l eg sg mg [.int x] bw mt cg y_F_leastPrime b_F_leastPrime 2 (some .int) 1 D lo (fun r M' => ∃ p : Nat, r = some (.int (nI p)) ∧ lpr x p ∧ M = M') nx 0 0 H locs 0 0 (F0 mg 6 ls []) := by
    intro kk
    induction kk using Nat.strongRecOn with
    | _ kk ih =>
    intro n H locs ls hkk h1 h3 h4 hno hst hl
    refine lv_iload_n hx hb dF_leastPrime_6 rfl (lv_at hl 1 rfl) ?_
    refine lv_ldc (v := nI 46337) hx hb hown (hG _ kc_F_23) dF_leastPrime_7 ?_
    refine lv_icmp_ge hx hb dF_leastPrime_9 (tgt := 27) rfl (fun hc => ?_) (fun hc => ?_)
    · skip
      have hc : 46337 ≤ n := (nI_leI (by omega) (by omega)).mp hc
      refine lv_ldc (v := nI 46337) hx hb hown (hG _ kc_F_23) dF_leastPrime_27 ?_
      exact ct_iret X hst ⟨46337, rfl, ⟨pr_big, by omega, Or.inr rfl, fun q hq hlt => hno q hq (by omega)⟩, rfl⟩ (by omega) (by omega) dF_leastPrime_29
    · skip
      have hc : ¬ 46337 ≤ n := fun z => hc ((nI_leI (by omega) (by omega)).mpr z)
      refine lv_iload_n hx hb dF_leastPrime_12 rfl (lv_at hl 1 rfl) ?_
      refine ct_callS (av2 := [.int (nI n)]) (rest := []) X hst (c_F_isPrime l D Y lo (n := n) (by omega) (by omega)) wc_F_isPrime ml_F_24 ws_F_isPrime wn_F md_F_isPrime (by decide) hl.1 rfl (Nat.le_of_ble_eq_true rfl) ⟨by omega, by omega⟩ (fun _ _ h => h.elim) dF_leastPrime_13 (fun r M' H locs hp hst => ?_)
      obtain ⟨b, rfl, hb1, hb2, rfl⟩ := hp
      refine lv_if_eq hx hb dF_leastPrime_16 (tgt := 21) rfl (fun hc => ?_) (fun hc => ?_)
      · skip
        rw [← nI_0] at hc
        have hcb : b = 0 := (nI_eq (by omega) (by omega)).mp hc
        refine lv_iinc (lv' := [(1, .int (nI (n + 1))), (0, .int x)]) hx hb dF_leastPrime_21 hl (k := 1) rfl (ii_p _) (by decide) rfl (fun ls hl => ?_)
        refine lv_goto hx hb dF_leastPrime_24 (tgt := 6) rfl ?_
        exact ih _ (by omega) (n + 1) _ _ _ rfl (by omega) (by omega) (by omega) (fun q hq hlt => by
            by_cases he : q = n
            · subst he
              have := hb2.mpr hq
              omega
            · exact hno q hq (by omega)) hst (lv_sub hl [1, 0] rfl)
      · skip
        rw [← nI_0] at hc
        have hcb : ¬ b = 0 := fun z => hc ((nI_eq (by omega) (by omega)).mpr z)
        refine lv_iload_n hx hb dF_leastPrime_19 rfl (lv_at hl 1 rfl) ?_
        exact ct_iret X hst ⟨n, rfl, ⟨hb2.mp (by omega), by omega, Or.inl (by omega), fun q hq hlt => hno q hq hlt⟩, rfl⟩ (by omega) (by omega) dF_leastPrime_20
  exact LP _ n0 _ _ _ rfl hn1 hn2 hn3.1 (fun q hq hlt => by
    have := hq.1
    omega) hst (lv_sub hl [1, 0] rfl)

set_option maxHeartbeats 4000000 in
set_option maxRecDepth 100000 in
theorem c_F_init (l : Launch) (D : va_G) (Y : Nat → ClassId) (lo : Nat) {M : Hm} {fa : Nat} (x : Int32) (h0 : M fa = some ((1, 0), .inr (0, [.int (nI 0)]))) : ct l D Y lo y_F_init b_F_init 2 none 2 [.ref fa, .int x] M (fun r M' => ∃ p : Nat, r = none ∧ lpr x p ∧ fd M' fa p ∧ hp_off (fun i => i = 1) M M') nx 0 0 := by
  refine ct_of (by decide) (Nat.le_of_ble_eq_true rfl) ?_
  intro pg eg sg mg bw mt cg ls X hst hl
  have X1 := X
  obtain ⟨hx, hb, hml, hrt, hlocks, hown, hnm, hts, hkz, hex⟩ := X1
  have hG : ∀ w ∈ GW, w.before _ sg = true := fun w h => hts w (List.mem_cons_of_mem _ h)
  have hK := hkz.1
  have hl : lv_has ls 2 [(0, .ref fa), (1, .int x)] := hl
  have hin : mt.name = "<init>" := hnm
  refine lv_aload_n hx hb dF_init_0 rfl (lv_at hl 0 rfl) ?_
  refine W.objInit hx hb hown (hG _ ml_F_1) (hG _ wi_Jo_init) (hG _ wc_Jo_init) rfl (by rw [hml]; exact hl.1) rfl dF_init_1 (Nat.le_of_ble_eq_true rfl) (Nat.le_of_ble_eq_true rfl) ?_
  refine W.eq (g2 := F0 mg 4 ls []) rfl ?_
  refine lv_aload_n hx hb dF_init_4 rfl (lv_at hl 0 rfl) ?_
  refine lv_iload_n hx hb dF_init_5 rfl (lv_at hl 1 rfl) ?_
  refine ct_callS (av2 := [.int x]) (rest := [.ref fa]) X hst (c_F_leastPrime l D Y lo x) wc_F_leastPrime ml_F_7 ws_F_leastPrime wn_F md_F_leastPrime (by decide) hl.1 rfl (Nat.le_of_ble_eq_true rfl) ⟨by omega, by omega⟩ (fun _ _ h => h.elim) dF_init_6 (fun r M' H locs hp hst => ?_)
  obtain ⟨p, rfl, hlp, rfl⟩ := hp
  refine hp_putF hx hb hG in_F ty_F tyok_F nm_F hown hK hst h0 rfl 0 (by decide) (hG _ fl_F_13) rfl rfl hin rfl rfl rfl (Nat.le_of_ble_eq_true rfl) dF_init_9 (fs' := [.int (nI p)]) rfl (fun H locs hst => ?_)
  generalize hM2 : hp_up M fa ((1, 0), .inr (0, [.int (nI p)])) = M1 at hst
  have f3 : M1 fa = some ((1, 0), .inr (0, [.int (nI p)])) := by rw [← hM2]; exact hp_up_self _ _ _
  have o4 : hp_off (fun i => i = 1) M M1 := by rw [← hM2]; exact hp_off.up h0 rfl
  exact ct_vret X hst ⟨p, rfl, hlp, ⟨f3, hlp.1.1, hlp.2.1⟩, o4⟩ (by omega) (by omega) dF_init_12

theorem inv_odd {p r s e : Nat} (h : e % 2 = 1) : (r * s % p * (s * s % p) ^ (e / 2)) % p = (r * s ^ e) % p := by
  have h1 : (s * s % p) ^ (e / 2) % p = (s * s) ^ (e / 2) % p := (Nat.pow_mod (s * s) (e / 2) p).symm
  rw [Nat.mul_mod, h1, Nat.mod_mod, ← Nat.mul_mod]
  have h2 : s ^ e = s * (s * s) ^ (e / 2) := by
    have h3 : e = 2 * (e / 2) + 1 := by omega
    have h4 : s * s = s ^ 2 := (Nat.pow_two s).symm
    rw [h4, ← Nat.pow_mul, ← Nat.pow_succ']
    exact congrArg _ h3
  rw [h2, Nat.mul_assoc]
theorem inv_even {p r s e : Nat} (h : e % 2 = 0) : (r * (s * s % p) ^ (e / 2)) % p = (r * s ^ e) % p := by
  have h1 : (s * s % p) ^ (e / 2) % p = (s * s) ^ (e / 2) % p := (Nat.pow_mod (s * s) (e / 2) p).symm
  rw [Nat.mul_mod, h1, ← Nat.mul_mod]
  have h2 : s ^ e = (s * s) ^ (e / 2) := by
    have h3 : e = 2 * (e / 2) := by omega
    have h4 : s * s = s ^ 2 := (Nat.pow_two s).symm
    rw [h4, ← Nat.pow_mul]
    exact congrArg _ h3
  rw [h2]

set_option maxHeartbeats 4000000 in
set_option maxRecDepth 100000 in
theorem c_F_inverse (l : Launch) (D : va_G) (Y : Nat → ClassId) (lo : Nat) {M : Hm} {fa p x : Nat} (hf : fd M fa p) (hxp : x < p) : ct l D Y lo y_F_inverse b_F_inverse 5 (some .int) 1 [.ref fa, .int (nI x)] M (fun r M' => r = some (.int (nI (x ^ (p - 2) % p))) ∧ M = M') nx 0 0 := by
  refine ct_of (by decide) (Nat.le_of_ble_eq_true rfl) ?_
  intro pg eg sg mg bw mt cg ls X hst hl
  have X1 := X
  obtain ⟨hx, hb, hml, hrt, hlocks, hown, hnm, hts, hkz, hex⟩ := X1
  have hG : ∀ w ∈ GW, w.before _ sg = true := fun w h => hts w (List.mem_cons_of_mem _ h)
  have hK := hkz.1
  have hl : lv_has ls 5 [(0, .ref fa), (1, .int (nI x))] := hl
  have hf0 := hf
  obtain ⟨h0, hp2, hp3⟩ := hf
  refine lv_iconst (v := nI 1) hx hb dF_inverse_0 (by decide +kernel) ?_
  refine lv_istore_n (lv' := [(2, .int (nI 1)), (0, .ref fa), (1, .int (nI x))]) hx hb dF_inverse_1 rfl hl (by decide) rfl (fun ls hl => ?_)
  refine lv_iload_n hx hb dF_inverse_2 rfl (lv_at hl 2 rfl) ?_
  refine lv_istore_n (lv' := [(3, .int (nI x)), (2, .int (nI 1)), (0, .ref fa), (1, .int (nI x))]) hx hb dF_inverse_3 rfl hl (by decide) rfl (fun ls hl => ?_)
  refine lv_aload_n hx hb dF_inverse_4 rfl (lv_at hl 2 rfl) ?_
  refine hp_get hx hb hG in_F hown hK hst h0 rfl 0 (by decide) (hG _ fl_F_13) rfl rfl dF_inverse_5 ?_
  refine lv_iconst (v := nI 2) hx hb dF_inverse_8 (by decide +kernel) ?_
  refine t_isub hx hb dF_inverse_9 (v := nI (p - 2)) (pk_sub (by omega)) ?_
  refine lv_istore (lv' := [(4, .int (nI (p - 2))), (3, .int (nI x)), (2, .int (nI 1)), (0, .ref fa), (1, .int (nI x))]) hx hb dF_inverse_10 hl (by decide) rfl (fun ls hl => ?_)
  have LP : ∀ (kk : Nat) (r sq ex : Nat) (H : Heap) (locs : List Loc) (ls : Array Slot), kk = ex → (r < p) → (sq < p) → (ex ≤ p) → (r * sq ^ ex % p = x ^ (p - 2) % p) → hp_st D vC lo M sg.heap H locs → lv_has ls 5 [(0, .ref fa), (1, .int (nI x)), (2, .int (nI r)), (3, .int (nI sq)), (4, .int (nI ex))] → cW pg l eg sg mg [.ref fa, .int (nI x)] bw mt cg y_F_inverse b_F_inverse 5 (some .int) 1 D lo (fun r M' => r = some (.int (nI (x ^ (p - 2) % p))) ∧ M = M') nx 0 0 H locs 0 0 (F0 mg 12 ls []) := by
    intro kk
    induction kk using Nat.strongRecOn with
    | _ kk ih =>
    intro r sq ex H locs ls hkk hr hsq hex hinv hst hl
    refine lv_iload hx hb dF_inverse_12 (lv_at hl 4 rfl) ?_
    refine lv_if_le hx hb dF_inverse_14 (tgt := 47) rfl (fun hc => ?_) (fun hc => ?_)
    · skip
      rw [← nI_0] at hc
      have hc : ex ≤ 0 := (nI_leI (by omega) (by omega)).mp hc
      have h9 : ex = 0 := by omega
      subst h9
      rw [Nat.pow_zero, Nat.mul_one, Nat.mod_eq_of_lt hr] at hinv
      refine lv_iload_n hx hb dF_inverse_47 rfl (lv_at hl 2 rfl) ?_
      exact ct_iret X hst ⟨by rw [hinv], rfl⟩ (by omega) (by omega) dF_inverse_48
    · skip
      rw [← nI_0] at hc
      have hc : ¬ ex ≤ 0 := fun z => hc ((nI_leI (by omega) (by omega)).mpr z)
      refine lv_iload hx hb dF_inverse_17 (lv_at hl 4 rfl) ?_
      refine lv_iconst (v := nI 1) hx hb dF_inverse_19 (by decide +kernel) ?_
      refine lv_iand hx hb dF_inverse_20 ?_
      refine tp_i (e2 := nI (ex &&& 1)) (bt_and _ _) ?_
      refine tp_n (e2 := ex % 2) (and_1 ex) ?_
      refine lv_if_eq hx hb dF_inverse_21 (tgt := 31) rfl (fun hc => ?_) (fun hc => ?_)
      · skip
        rw [← nI_0] at hc
        have hc2 : (ex % 2) = 0 := (nI_eq (by omega) (by omega)).mp hc
        refine lv_aload_n hx hb dF_inverse_31 rfl (lv_at hl 0 rfl) ?_
        refine lv_iload_n hx hb dF_inverse_32 rfl (lv_at hl 3 rfl) ?_
        refine lv_iload_n hx hb dF_inverse_33 rfl (lv_at hl 3 rfl) ?_
        refine ct_callV (av2 := [.int (nI sq), .int (nI sq)]) (rest := []) (b := fa) X hst (c_F_product l D Y lo hf0 hsq hsq) h0 rfl wc_F_product ml_F_31 wi_F_product wl_F_product wn_F md_F_product (by decide) hl.1 rfl (Nat.le_of_ble_eq_true rfl) ⟨by omega, by omega⟩ (fun _ _ h => h.elim) dF_inverse_34 (fun r M' H locs hp hst => ?_)
        obtain ⟨rfl, rfl⟩ := hp
        refine lv_istore_n (lv' := [(3, .int (nI (sq * sq % p))), (0, .ref fa), (1, .int (nI x)), (2, .int (nI r)), (4, .int (nI ex))]) hx hb dF_inverse_37 rfl hl (by decide) rfl (fun ls hl => ?_)
        refine lv_iload hx hb dF_inverse_38 (lv_at hl 4 rfl) ?_
        refine lv_iconst (v := nI 1) hx hb dF_inverse_40 (by decide +kernel) ?_
        refine lv_ishr hx hb dF_inverse_41 ?_
        refine tp_i (e2 := nI (ex / 2)) (sh_r (by omega) (by omega)) ?_
        refine lv_istore (lv' := [(4, .int (nI (ex / 2))), (3, .int (nI (sq * sq % p))), (0, .ref fa), (1, .int (nI x)), (2, .int (nI r))]) hx hb dF_inverse_42 hl (by decide) rfl (fun ls hl => ?_)
        refine lv_goto hx hb dF_inverse_44 (tgt := 12) rfl ?_
        exact ih _ (by omega) r (sq * sq % p) (ex / 2) _ _ _ rfl hr (Nat.mod_lt _ (by omega)) (by omega) (by rw [inv_even hc2]; exact hinv) hst (lv_sub hl [2, 3, 4, 1, 0] rfl)
      · skip
        rw [← nI_0] at hc
        have hc2 : ¬ (ex % 2) = 0 := fun z => hc ((nI_eq (by omega) (by omega)).mpr z)
        refine lv_aload_n hx hb dF_inverse_24 rfl (lv_at hl 0 rfl) ?_
        refine lv_iload_n hx hb dF_inverse_25 rfl (lv_at hl 2 rfl) ?_
        refine lv_iload_n hx hb dF_inverse_26 rfl (lv_at hl 3 rfl) ?_
        refine ct_callV (av2 := [.int (nI r), .int (nI sq)]) (rest := []) (b := fa) X hst (c_F_product l D Y lo hf0 hr hsq) h0 rfl wc_F_product ml_F_31 wi_F_product wl_F_product wn_F md_F_product (by decide) hl.1 rfl (Nat.le_of_ble_eq_true rfl) ⟨by omega, by omega⟩ (fun _ _ h => h.elim) dF_inverse_27 (fun r M' H locs hp hst => ?_)
        obtain ⟨rfl, rfl⟩ := hp
        refine lv_istore_n (lv' := [(2, .int (nI (r * sq % p))), (0, .ref fa), (1, .int (nI x)), (3, .int (nI sq)), (4, .int (nI ex))]) hx hb dF_inverse_30 rfl hl (by decide) rfl (fun ls hl => ?_)
        refine lv_aload_n hx hb dF_inverse_31 rfl (lv_at hl 1 rfl) ?_
        refine lv_iload_n hx hb dF_inverse_32 rfl (lv_at hl 3 rfl) ?_
        refine lv_iload_n hx hb dF_inverse_33 rfl (lv_at hl 3 rfl) ?_
        refine ct_callV (av2 := [.int (nI sq), .int (nI sq)]) (rest := []) (b := fa) X hst (c_F_product l D Y lo hf0 hsq hsq) h0 rfl wc_F_product ml_F_31 wi_F_product wl_F_product wn_F md_F_product (by decide) hl.1 rfl (Nat.le_of_ble_eq_true rfl) ⟨by omega, by omega⟩ (fun _ _ h => h.elim) dF_inverse_34 (fun r M' H locs hp hst => ?_)
        obtain ⟨rfl, rfl⟩ := hp
        refine lv_istore_n (lv' := [(3, .int (nI (sq * sq % p))), (2, .int (nI (r * sq % p))), (0, .ref fa), (1, .int (nI x)), (4, .int (nI ex))]) hx hb dF_inverse_37 rfl hl (by decide) rfl (fun ls hl => ?_)
        refine lv_iload hx hb dF_inverse_38 (lv_at hl 4 rfl) ?_
        refine lv_iconst (v := nI 1) hx hb dF_inverse_40 (by decide +kernel) ?_
        refine lv_ishr hx hb dF_inverse_41 ?_
        refine tp_i (e2 := nI (ex / 2)) (sh_r (by omega) (by omega)) ?_
        refine lv_istore (lv' := [(4, .int (nI (ex / 2))), (3, .int (nI (sq * sq % p))), (2, .int (nI (r * sq % p))), (0, .ref fa), (1, .int (nI x))]) hx hb dF_inverse_42 hl (by decide) rfl (fun ls hl => ?_)
        refine lv_goto hx hb dF_inverse_44 (tgt := 12) rfl ?_
        exact ih _ (by omega) (r * sq % p) (sq * sq % p) (ex / 2) _ _ _ rfl (Nat.mod_lt _ (by omega)) (Nat.mod_lt _ (by omega)) (by omega) (by rw [inv_odd (by omega)]; exact hinv) hst (lv_sub hl [3, 4, 2, 1, 0] rfl)
  exact LP _ 1 x (p - 2) _ _ _ rfl (by omega) hxp (by omega) (by rw [Nat.one_mul]) hst (lv_sub hl [3, 4, 2, 1, 0] rfl)
end
section
/-! Monomials: contracts in the words of part 07. -/
def vv (v : Nat) : Nat := 262144 + 64 ^ (2 - v)
theorem xe_lt (m v : Nat) : xe m v < 64 := by
  unfold xe
  split
  · omega
  · split <;> omega
theorem co3 {P : Nat → Prop} (h0 : P 0) (h1 : P 1) (h2 : P 2) {i : Nat} (hi : i < 3) : P i := by
  rcases (show i = 0 ∨ i = 1 ∨ i = 2 by omega) with rfl | rfl | rfl
  · exact h0
  · exact h1
  · exact h2

set_option maxHeartbeats 4000000 in
set_option maxRecDepth 100000 in
theorem c_Q_of (l : Launch) (D : va_G) (Y : Nat → ClassId) (lo : Nat) {M : Hm} {a b c : Nat} (h : a + b + c ≤ 36) : ct l D Y lo y_Q_of b_Q_of 3 (some .int) 0 [.int (nI a), .int (nI b), .int (nI c)] M (fun r M' => r = some (.int (nI (mp a b c))) ∧ M = M') nx 0 0 := by
  refine ct_of (by decide) (Nat.le_of_ble_eq_true rfl) ?_
  intro pg eg sg mg bw mt cg ls X hst hl
  have X1 := X
  obtain ⟨hx, hb, hml, hrt, hlocks, hown, hnm, hts, hkz, hex⟩ := X1
  have hG : ∀ w ∈ GW, w.before _ sg = true := fun w h => hts w (List.mem_cons_of_mem _ h)
  have hK := hkz.1
  have hl : lv_has ls 3 [(0, .int (nI a)), (1, .int (nI b)), (2, .int (nI c))] := hl
  refine lv_iload_n hx hb dQ_of_0 rfl (lv_at hl 0 rfl) ?_
  refine lv_iload_n hx hb dQ_of_1 rfl (lv_at hl 1 rfl) ?_
  refine t_iadd hx hb dQ_of_2 (v := nI (a + b)) (nI_add _ _) ?_
  refine lv_iload_n hx hb dQ_of_3 rfl (lv_at hl 2 rfl) ?_
  refine t_iadd hx hb dQ_of_4 (v := nI ((a + b) + c)) (nI_add _ _) ?_
  refine lv_bipush (v := nI 6) hx hb dQ_of_5 (by decide +kernel) ?_
  refine lv_ishl hx hb dQ_of_7 ?_
  refine tp_i (e2 := nI (((a + b) + c) * 64)) (sh_l (by omega) (by omega)) ?_
  refine lv_iload_n hx hb dQ_of_8 rfl (lv_at hl 0 rfl) ?_
  refine lv_ior hx hb dQ_of_9 ?_
  refine tp_i (e2 := nI ((((a + b) + c) * 64) ||| a)) (bt_or _ _) ?_
  refine tp_n (e2 := (a + b + c) * 64 + a) (or_6 (by omega)) ?_
  refine lv_bipush (v := nI 6) hx hb dQ_of_10 (by decide +kernel) ?_
  refine lv_ishl hx hb dQ_of_12 ?_
  refine tp_i (e2 := nI (((a + b + c) * 64 + a) * 64)) (sh_l (by omega) (by omega)) ?_
  refine lv_iload_n hx hb dQ_of_13 rfl (lv_at hl 1 rfl) ?_
  refine lv_ior hx hb dQ_of_14 ?_
  refine tp_i (e2 := nI ((((a + b + c) * 64 + a) * 64) ||| b)) (bt_or _ _) ?_
  refine tp_n (e2 := ((a + b + c) * 64 + a) * 64 + b) (or_6 (by omega)) ?_
  refine lv_bipush (v := nI 6) hx hb dQ_of_15 (by decide +kernel) ?_
  refine lv_ishl hx hb dQ_of_17 ?_
  refine tp_i (e2 := nI ((((a + b + c) * 64 + a) * 64 + b) * 64)) (sh_l (by omega) (by omega)) ?_
  refine lv_iload_n hx hb dQ_of_18 rfl (lv_at hl 2 rfl) ?_
  refine lv_ior hx hb dQ_of_19 ?_
  refine tp_i (e2 := nI (((((a + b + c) * 64 + a) * 64 + b) * 64) ||| c)) (bt_or _ _) ?_
  refine tp_n (e2 := mp a b c) (by rw [or_6 (by omega)]; unfold mp; omega) ?_
  exact ct_iret X hst ⟨rfl, rfl⟩ (by omega) (by omega) dQ_of_20

set_option maxHeartbeats 4000000 in
set_option maxRecDepth 100000 in
theorem c_Q_exponent (l : Launch) (D : va_G) (Y : Nat → ClassId) (lo : Nat) {M : Hm} {k v : Nat} (hk : k < 2 ^ 31) (hv : v < 3) : ct l D Y lo y_Q_exponent b_Q_exponent 2 (some .int) 0 [.int (nI k), .int (nI v)] M (fun r M' => r = some (.int (nI (xe k v))) ∧ M = M') nx 0 0 := by
  refine ct_of (by decide) (Nat.le_of_ble_eq_true rfl) ?_
  intro pg eg sg mg bw mt cg ls X hst hl
  have X1 := X
  obtain ⟨hx, hb, hml, hrt, hlocks, hown, hnm, hts, hkz, hex⟩ := X1
  have hG : ∀ w ∈ GW, w.before _ sg = true := fun w h => hts w (List.mem_cons_of_mem _ h)
  have hK := hkz.1
  have hl : lv_has ls 2 [(0, .int (nI k)), (1, .int (nI v))] := hl
  refine lv_iload_n hx hb dQ_exponent_0 rfl (lv_at hl 0 rfl) ?_
  refine lv_iconst (v := nI 2) hx hb dQ_exponent_1 (by decide +kernel) ?_
  refine lv_iload_n hx hb dQ_exponent_2 rfl (lv_at hl 1 rfl) ?_
  refine t_isub hx hb dQ_exponent_3 (v := nI (2 - v)) (pk_sub (by omega)) ?_
  refine lv_bipush (v := nI 6) hx hb dQ_exponent_4 (by decide +kernel) ?_
  refine t_imul hx hb dQ_exponent_6 (v := nI ((2 - v) * 6)) (pk_mul _ _) ?_
  refine lv_ishr hx hb dQ_exponent_7 ?_
  refine tp_i (e2 := nI (k / 2 ^ ((2 - v) * 6))) (sh_r (by omega) (by omega)) ?_
  refine lv_bipush (v := nI 63) hx hb dQ_exponent_8 (by decide +kernel) ?_
  refine lv_iand hx hb dQ_exponent_10 ?_
  refine tp_i (e2 := nI ((k / 2 ^ ((2 - v) * 6)) &&& 63)) (bt_and _ _) ?_
  refine tp_n (e2 := xe k v) (by
    rw [and_63]
    refine co3 (P := fun v => k / 2 ^ ((2 - v) * 6) % 64 = xe k v) ?_ ?_ ?_ hv
    · rfl
    · rfl
    · show k / 1 % 64 = k % 64
      rw [Nat.div_one]) ?_
  exact ct_iret X hst ⟨rfl, rfl⟩ (by omega) (by omega) dQ_exponent_11

set_option maxHeartbeats 4000000 in
set_option maxRecDepth 100000 in
theorem c_Q_ofVariable (l : Launch) (D : va_G) (Y : Nat → ClassId) (lo : Nat) {M : Hm} {v : Nat} (hv : v < 3) : ct l D Y lo y_Q_ofVariable b_Q_ofVariable 1 (some .int) 0 [.int (nI v)] M (fun r M' => r = some (.int (nI (vv v))) ∧ M = M') nx 0 0 := by
  refine ct_of (by decide) (Nat.le_of_ble_eq_true rfl) ?_
  intro pg eg sg mg bw mt cg ls X hst hl
  have X1 := X
  obtain ⟨hx, hb, hml, hrt, hlocks, hown, hnm, hts, hkz, hex⟩ := X1
  have hG : ∀ w ∈ GW, w.before _ sg = true := fun w h => hts w (List.mem_cons_of_mem _ h)
  have hK := hkz.1
  have hl : lv_has ls 1 [(0, .int (nI v))] := hl
  refine lv_ldc (v := nI 262144) hx hb hown (hG _ kc_Q_9) dQ_ofVariable_0 ?_
  refine lv_iconst (v := nI 1) hx hb dQ_ofVariable_2 (by decide +kernel) ?_
  refine lv_iconst (v := nI 2) hx hb dQ_ofVariable_3 (by decide +kernel) ?_
  refine lv_iload_n hx hb dQ_ofVariable_4 rfl (lv_at hl 0 rfl) ?_
  refine t_isub hx hb dQ_ofVariable_5 (v := nI (2 - v)) (pk_sub (by omega)) ?_
  refine lv_bipush (v := nI 6) hx hb dQ_ofVariable_6 (by decide +kernel) ?_
  refine t_imul hx hb dQ_ofVariable_8 (v := nI ((2 - v) * 6)) (pk_mul _ _) ?_
  refine lv_ishl hx hb dQ_ofVariable_9 ?_
  refine tp_i (e2 := nI (1 * 2 ^ ((2 - v) * 6))) (sh_l (by omega) (by
    refine co3 (P := fun v => 1 * 2 ^ ((2 - v) * 6) < 2 ^ 32) ?_ ?_ ?_ hv <;> decide)) ?_
  refine lv_ior hx hb dQ_ofVariable_10 ?_
  refine tp_i (e2 := nI (262144 ||| (1 * 2 ^ ((2 - v) * 6)))) (bt_or _ _) ?_
  refine tp_n (e2 := vv v) (by
    refine co3 (P := fun v => 262144 ||| 1 * 2 ^ ((2 - v) * 6) = vv v) ?_ ?_ ?_ hv <;> decide +kernel) ?_
  exact ct_iret X hst ⟨rfl, rfl⟩ (by omega) (by omega) dQ_ofVariable_11

set_option maxHeartbeats 4000000 in
set_option maxRecDepth 100000 in
theorem c_Q_sumAndFirst (l : Launch) (D : va_G) (Y : Nat → ClassId) (lo : Nat) {M : Hm} {k : Nat} (hk : k < 2 ^ 31) : ct l D Y lo y_Q_sumAndFirst b_Q_sumAndFirst 1 (some .int) 0 [.int (nI k)] M (fun r M' => r = some (.int (nI (k / 4096))) ∧ M = M') nx 0 0 := by
  refine ct_of (by decide) (Nat.le_of_ble_eq_true rfl) ?_
  intro pg eg sg mg bw mt cg ls X hst hl
  have X1 := X
  obtain ⟨hx, hb, hml, hrt, hlocks, hown, hnm, hts, hkz, hex⟩ := X1
  have hG : ∀ w ∈ GW, w.before _ sg = true := fun w h => hts w (List.mem_cons_of_mem _ h)
  have hK := hkz.1
  have hl : lv_has ls 1 [(0, .int (nI k))] := hl
  refine lv_iload_n hx hb dQ_sumAndFirst_0 rfl (lv_at hl 0 rfl) ?_
  refine lv_bipush (v := nI 12) hx hb dQ_sumAndFirst_1 (by decide +kernel) ?_
  refine lv_ishr hx hb dQ_sumAndFirst_3 ?_
  refine tp_i (e2 := nI (k / 4096)) (sh_r (by omega) (by omega)) ?_
  exact ct_iret X hst ⟨rfl, rfl⟩ (by omega) (by omega) dQ_sumAndFirst_4

theorem wo_le {k v : Nat} (hk : mv k) (hv : v < 3) : xe k v * vv v ≤ k := by
  obtain ⟨a, b, c, h, rfl⟩ := mv_of hk
  have e0 := mp_x0 (show a + b + c < 64 by omega)
  have e1 := mp_x1 (show a + b + c < 64 by omega)
  have e2 := mp_x2 (show a + b + c < 64 by omega)
  refine co3 (P := fun v => xe (mp a b c) v * vv v ≤ mp a b c) ?_ ?_ ?_ hv
  · rw [e0]; show a * (262144 + 4096) ≤ mp a b c; unfold mp; omega
  · rw [e1]; show b * (262144 + 64) ≤ mp a b c; unfold mp; omega
  · rw [e2]; show c * (262144 + 1) ≤ mp a b c; unfold mp; omega

set_option maxHeartbeats 4000000 in
set_option maxRecDepth 100000 in
theorem c_Q_without (l : Launch) (D : va_G) (Y : Nat → ClassId) (lo : Nat) {M : Hm} {k v : Nat} (hk : mv k) (hv : v < 3) : ct l D Y lo y_Q_without b_Q_without 2 (some .int) 1 [.int (nI k), .int (nI v)] M (fun r M' => r = some (.int (nI (k - xe k v * vv v))) ∧ M = M') nx 0 0 := by
  refine ct_of (by decide) (Nat.le_of_ble_eq_true rfl) ?_
  intro pg eg sg mg bw mt cg ls X hst hl
  have X1 := X
  obtain ⟨hx, hb, hml, hrt, hlocks, hown, hnm, hts, hkz, hex⟩ := X1
  have hG : ∀ w ∈ GW, w.before _ sg = true := fun w h => hts w (List.mem_cons_of_mem _ h)
  have hK := hkz.1
  have hl : lv_has ls 2 [(0, .int (nI k)), (1, .int (nI v))] := hl
  have hk1 := mv_lt hk
  have hk2 := wo_le hk hv
  refine lv_iload_n hx hb dQ_without_0 rfl (lv_at hl 0 rfl) ?_
  refine lv_iload_n hx hb dQ_without_1 rfl (lv_at hl 0 rfl) ?_
  refine lv_iload_n hx hb dQ_without_2 rfl (lv_at hl 1 rfl) ?_
  refine ct_callS (av2 := [.int (nI k), .int (nI v)]) (rest := [.int (nI k)]) X hst (c_Q_exponent l D Y lo (k := k) (v := v) (by omega) hv) wc_Q_exponent ml_Q_10 ws_Q_exponent wn_Q md_Q_exponent (by decide) hl.1 rfl (Nat.le_of_ble_eq_true rfl) ⟨by omega, by omega⟩ (fun _ _ h => h.elim) dQ_without_3 (fun r M' H locs hp hst => ?_)
  obtain ⟨rfl, rfl⟩ := hp
  refine lv_iload_n hx hb dQ_without_6 rfl (lv_at hl 1 rfl) ?_
  refine ct_callS (av2 := [.int (nI v)]) (rest := [.int (nI (xe k v)), .int (nI k)]) X hst (c_Q_ofVariable l D Y lo (v := v) hv) wc_Q_ofVariable ml_Q_14 ws_Q_ofVariable wn_Q md_Q_ofVariable (by decide) hl.1 rfl (Nat.le_of_ble_eq_true rfl) ⟨by omega, by omega⟩ (fun _ _ h => h.elim) dQ_without_7 (fun r M' H locs hp hst => ?_)
  obtain ⟨rfl, rfl⟩ := hp
  refine t_imul hx hb dQ_without_10 (v := nI ((xe k v) * (vv v))) (pk_mul _ _) ?_
  refine t_isub hx hb dQ_without_11 (v := nI (k - ((xe k v) * (vv v)))) (pk_sub (by omega)) ?_
  exact ct_iret X hst ⟨rfl, rfl⟩ (by omega) (by omega) dQ_without_12

set_option maxHeartbeats 4000000 in
set_option maxRecDepth 100000 in
theorem c_Q_isMultiple (l : Launch) (D : va_G) (Y : Nat → ClassId) (lo : Nat) {M : Hm} {k q : Nat} (hk : k < 2 ^ 31) (hq : q < 2 ^ 31) : ct l D Y lo y_Q_isMultiple b_Q_isMultiple 2 (some .boolean) 1 [.int (nI k), .int (nI q)] M (fun r M' => ∃ b : Nat, r = some (.int (nI b)) ∧ b ≤ 1 ∧ (b = 1 ↔ (xe q 0 ≤ xe k 0 ∧ xe q 1 ≤ xe k 1 ∧ xe q 2 ≤ xe k 2)) ∧ M = M') nx 0 0 := by
  refine ct_of (by decide) (Nat.le_of_ble_eq_true rfl) ?_
  intro pg eg sg mg bw mt cg ls X hst hl
  have X1 := X
  obtain ⟨hx, hb, hml, hrt, hlocks, hown, hnm, hts, hkz, hex⟩ := X1
  have hG : ∀ w ∈ GW, w.before _ sg = true := fun w h => hts w (List.mem_cons_of_mem _ h)
  have hK := hkz.1
  have hl : lv_has ls 2 [(0, .int (nI k)), (1, .int (nI q))] := hl
  have a0 := xe_lt k 0
  have b0 := xe_lt q 0
  have a1 := xe_lt k 1
  have b1 := xe_lt q 1
  have a2 := xe_lt k 2
  have b2 := xe_lt q 2
  refine lv_iload_n hx hb dQ_isMultiple_0 rfl (lv_at hl 0 rfl) ?_
  refine lv_iconst (v := nI 0) hx hb dQ_isMultiple_1 (by decide +kernel) ?_
  refine ct_callS (av2 := [.int (nI k), .int (nI 0)]) (rest := []) X hst (c_Q_exponent l D Y lo (k := k) (v := 0) hk (by omega)) wc_Q_exponent ml_Q_10 ws_Q_exponent wn_Q md_Q_exponent (by decide) hl.1 rfl (Nat.le_of_ble_eq_true rfl) ⟨by omega, by omega⟩ (fun _ _ h => h.elim) dQ_isMultiple_2 (fun r M' H locs hp hst => ?_)
  obtain ⟨rfl, rfl⟩ := hp
  refine lv_iload_n hx hb dQ_isMultiple_5 rfl (lv_at hl 1 rfl) ?_
  refine lv_iconst (v := nI 0) hx hb dQ_isMultiple_6 (by decide +kernel) ?_
  refine ct_callS (av2 := [.int (nI q), .int (nI 0)]) (rest := [.int (nI (xe k 0))]) X hst (c_Q_exponent l D Y lo (k := q) (v := 0) hq (by omega)) wc_Q_exponent ml_Q_10 ws_Q_exponent wn_Q md_Q_exponent (by decide) hl.1 rfl (Nat.le_of_ble_eq_true rfl) ⟨by omega, by omega⟩ (fun _ _ h => h.elim) dQ_isMultiple_7 (fun r M' H locs hp hst => ?_)
  obtain ⟨rfl, rfl⟩ := hp
  refine lv_icmp_lt hx hb dQ_isMultiple_10 (tgt := 43) rfl (fun hc => ?_) (fun hc => ?_)
  · skip
    have hc0 : (xe k 0) < (xe q 0) := (nI_ltI (by omega) (by omega)).mp hc
    refine lv_iconst (v := nI 0) hx hb dQ_isMultiple_43 (by decide +kernel) ?_
    exact ct_zret X hst (by omega) ⟨0, rfl, by omega, iff_of_false (by omega) (by omega), rfl⟩ (by omega) (by omega) dQ_isMultiple_44
  · skip
    have hc0 : ¬ (xe k 0) < (xe q 0) := fun z => hc ((nI_ltI (by omega) (by omega)).mpr z)
    refine lv_iload_n hx hb dQ_isMultiple_13 rfl (lv_at hl 0 rfl) ?_
    refine lv_iconst (v := nI 1) hx hb dQ_isMultiple_14 (by decide +kernel) ?_
    refine ct_callS (av2 := [.int (nI k), .int (nI 1)]) (rest := []) X hst (c_Q_exponent l D Y lo (k := k) (v := 1) hk (by omega)) wc_Q_exponent ml_Q_10 ws_Q_exponent wn_Q md_Q_exponent (by decide) hl.1 rfl (Nat.le_of_ble_eq_true rfl) ⟨by omega, by omega⟩ (fun _ _ h => h.elim) dQ_isMultiple_15 (fun r M' H locs hp hst => ?_)
    obtain ⟨rfl, rfl⟩ := hp
    refine lv_iload_n hx hb dQ_isMultiple_18 rfl (lv_at hl 1 rfl) ?_
    refine lv_iconst (v := nI 1) hx hb dQ_isMultiple_19 (by decide +kernel) ?_
    refine ct_callS (av2 := [.int (nI q), .int (nI 1)]) (rest := [.int (nI (xe k 1))]) X hst (c_Q_exponent l D Y lo (k := q) (v := 1) hq (by omega)) wc_Q_exponent ml_Q_10 ws_Q_exponent wn_Q md_Q_exponent (by decide) hl.1 rfl (Nat.le_of_ble_eq_true rfl) ⟨by omega, by omega⟩ (fun _ _ h => h.elim) dQ_isMultiple_20 (fun r M' H locs hp hst => ?_)
    obtain ⟨rfl, rfl⟩ := hp
    refine lv_icmp_lt hx hb dQ_isMultiple_23 (tgt := 43) rfl (fun hc => ?_) (fun hc => ?_)
    · skip
      have hc1 : (xe k 1) < (xe q 1) := (nI_ltI (by omega) (by omega)).mp hc
      refine lv_iconst (v := nI 0) hx hb dQ_isMultiple_43 (by decide +kernel) ?_
      exact ct_zret X hst (by omega) ⟨0, rfl, by omega, iff_of_false (by omega) (by omega), rfl⟩ (by omega) (by omega) dQ_isMultiple_44
    · skip
      have hc1 : ¬ (xe k 1) < (xe q 1) := fun z => hc ((nI_ltI (by omega) (by omega)).mpr z)
      refine lv_iload_n hx hb dQ_isMultiple_26 rfl (lv_at hl 0 rfl) ?_
      refine lv_iconst (v := nI 2) hx hb dQ_isMultiple_27 (by decide +kernel) ?_
      refine ct_callS (av2 := [.int (nI k), .int (nI 2)]) (rest := []) X hst (c_Q_exponent l D Y lo (k := k) (v := 2) hk (by omega)) wc_Q_exponent ml_Q_10 ws_Q_exponent wn_Q md_Q_exponent (by decide) hl.1 rfl (Nat.le_of_ble_eq_true rfl) ⟨by omega, by omega⟩ (fun _ _ h => h.elim) dQ_isMultiple_28 (fun r M' H locs hp hst => ?_)
      obtain ⟨rfl, rfl⟩ := hp
      refine lv_iload_n hx hb dQ_isMultiple_31 rfl (lv_at hl 1 rfl) ?_
      refine lv_iconst (v := nI 2) hx hb dQ_isMultiple_32 (by decide +kernel) ?_
      refine ct_callS (av2 := [.int (nI q), .int (nI 2)]) (rest := [.int (nI (xe k 2))]) X hst (c_Q_exponent l D Y lo (k := q) (v := 2) hq (by omega)) wc_Q_exponent ml_Q_10 ws_Q_exponent wn_Q md_Q_exponent (by decide) hl.1 rfl (Nat.le_of_ble_eq_true rfl) ⟨by omega, by omega⟩ (fun _ _ h => h.elim) dQ_isMultiple_33 (fun r M' H locs hp hst => ?_)
      obtain ⟨rfl, rfl⟩ := hp
      refine lv_icmp_lt hx hb dQ_isMultiple_36 (tgt := 43) rfl (fun hc => ?_) (fun hc => ?_)
      · skip
        have hc2 : (xe k 2) < (xe q 2) := (nI_ltI (by omega) (by omega)).mp hc
        refine lv_iconst (v := nI 0) hx hb dQ_isMultiple_43 (by decide +kernel) ?_
        exact ct_zret X hst (by omega) ⟨0, rfl, by omega, iff_of_false (by omega) (by omega), rfl⟩ (by omega) (by omega) dQ_isMultiple_44
      · skip
        have hc2 : ¬ (xe k 2) < (xe q 2) := fun z => hc ((nI_ltI (by omega) (by omega)).mpr z)
        refine lv_iconst (v := nI 1) hx hb dQ_isMultiple_39 (by decide +kernel) ?_
        refine lv_goto hx hb dQ_isMultiple_40 (tgt := 44) rfl ?_
        exact ct_zret X hst (by omega) ⟨1, rfl, by omega, iff_of_true rfl (by omega), rfl⟩ (by omega) (by omega) dQ_isMultiple_44

set_option maxHeartbeats 4000000 in
set_option maxRecDepth 100000 in
theorem c_Q_exists (l : Launch) (D : va_G) (Y : Nat → ClassId) (lo : Nat) {M : Hm} {a b c : Nat} (ha : a < 2 ^ 31) (hb9 : b < 2 ^ 31) (hc9 : c < 2 ^ 31) : ct l D Y lo y_Q_exists b_Q_exists 3 (some .boolean) 0 [.int (nI a), .int (nI b), .int (nI c)] M (fun r M' => ∃ z : Nat, r = some (.int (nI z)) ∧ z ≤ 1 ∧ (z = 1 ↔ a + b + c ≤ 36) ∧ M = M') nx 0 0 := by
  refine ct_of (by decide) (Nat.le_of_ble_eq_true rfl) ?_
  intro pg eg sg mg bw mt cg ls X hst hl
  have X1 := X
  obtain ⟨hx, hb, hml, hrt, hlocks, hown, hnm, hts, hkz, hex⟩ := X1
  have hG : ∀ w ∈ GW, w.before _ sg = true := fun w h => hts w (List.mem_cons_of_mem _ h)
  have hK := hkz.1
  have hl : lv_has ls 3 [(0, .int (nI a)), (1, .int (nI b)), (2, .int (nI c))] := hl
  refine lv_iload_n hx hb dQ_exists_0 rfl (lv_at hl 0 rfl) ?_
  refine lv_bipush (v := nI 36) hx hb dQ_exists_1 (by decide +kernel) ?_
  refine lv_icmp_gt hx hb dQ_exists_3 (tgt := 32) rfl (fun hc => ?_) (fun hc => ?_)
  · skip
    have hc1 : 36 < a := (nI_ltI (by omega) (by omega)).mp hc
    refine lv_iconst (v := nI 0) hx hb dQ_exists_32 (by decide +kernel) ?_
    exact ct_zret X hst (by omega) ⟨0, rfl, by omega, iff_of_false (by omega) (by omega), rfl⟩ (by omega) (by omega) dQ_exists_33
  · skip
    have hc1 : ¬ 36 < a := fun z => hc ((nI_ltI (by omega) (by omega)).mpr z)
    refine lv_iload_n hx hb dQ_exists_6 rfl (lv_at hl 1 rfl) ?_
    refine lv_bipush (v := nI 36) hx hb dQ_exists_7 (by decide +kernel) ?_
    refine lv_icmp_gt hx hb dQ_exists_9 (tgt := 32) rfl (fun hc => ?_) (fun hc => ?_)
    · skip
      have hc2 : 36 < b := (nI_ltI (by omega) (by omega)).mp hc
      refine lv_iconst (v := nI 0) hx hb dQ_exists_32 (by decide +kernel) ?_
      exact ct_zret X hst (by omega) ⟨0, rfl, by omega, iff_of_false (by omega) (by omega), rfl⟩ (by omega) (by omega) dQ_exists_33
    · skip
      have hc2 : ¬ 36 < b := fun z => hc ((nI_ltI (by omega) (by omega)).mpr z)
      refine lv_iload_n hx hb dQ_exists_12 rfl (lv_at hl 2 rfl) ?_
      refine lv_bipush (v := nI 36) hx hb dQ_exists_13 (by decide +kernel) ?_
      refine lv_icmp_gt hx hb dQ_exists_15 (tgt := 32) rfl (fun hc => ?_) (fun hc => ?_)
      · skip
        have hc3 : 36 < c := (nI_ltI (by omega) (by omega)).mp hc
        refine lv_iconst (v := nI 0) hx hb dQ_exists_32 (by decide +kernel) ?_
        exact ct_zret X hst (by omega) ⟨0, rfl, by omega, iff_of_false (by omega) (by omega), rfl⟩ (by omega) (by omega) dQ_exists_33
      · skip
        have hc3 : ¬ 36 < c := fun z => hc ((nI_ltI (by omega) (by omega)).mpr z)
        refine lv_iload_n hx hb dQ_exists_18 rfl (lv_at hl 0 rfl) ?_
        refine lv_iload_n hx hb dQ_exists_19 rfl (lv_at hl 1 rfl) ?_
        refine t_iadd hx hb dQ_exists_20 (v := nI (a + b)) (nI_add _ _) ?_
        refine lv_iload_n hx hb dQ_exists_21 rfl (lv_at hl 2 rfl) ?_
        refine t_iadd hx hb dQ_exists_22 (v := nI ((a + b) + c)) (nI_add _ _) ?_
        refine lv_bipush (v := nI 36) hx hb dQ_exists_23 (by decide +kernel) ?_
        refine lv_icmp_gt hx hb dQ_exists_25 (tgt := 32) rfl (fun hc => ?_) (fun hc => ?_)
        · skip
          have hc4 : 36 < ((a + b) + c) := (nI_ltI (by omega) (by omega)).mp hc
          refine lv_iconst (v := nI 0) hx hb dQ_exists_32 (by decide +kernel) ?_
          exact ct_zret X hst (by omega) ⟨0, rfl, by omega, iff_of_false (by omega) (by omega), rfl⟩ (by omega) (by omega) dQ_exists_33
        · skip
          have hc4 : ¬ 36 < ((a + b) + c) := fun z => hc ((nI_ltI (by omega) (by omega)).mpr z)
          refine lv_iconst (v := nI 1) hx hb dQ_exists_28 (by decide +kernel) ?_
          refine lv_goto hx hb dQ_exists_29 (tgt := 33) rfl ?_
          exact ct_zret X hst (by omega) ⟨1, rfl, by omega, iff_of_true rfl (by omega), rfl⟩ (by omega) (by omega) dQ_exists_33
end
section
/-! The JDK's methods that the class calls: Math.min, Arrays.copyOf, Arrays.fill, Integer.bitCount. -/
theorem rm_c {d mc ms x : Nat} (h : x ≤ mc) : x ≤ (rmL d mc ms).cells := h
theorem rm_s {d mc ms x : Nat} (h : x ≤ ms) : x ≤ (rmL d mc ms).slots := h
theorem hp_up_up (M : Hm) (a : Nat) (x y : (Nat × Nat) × va_E) : hp_up (hp_up M a x) a y = hp_up M a y := by
  funext z
  by_cases hz : z = a
  · subst hz; rw [hp_up_self, hp_up_self]
  · rw [hp_up_ne hz, hp_up_ne hz, hp_up_ne hz]
theorem hp_up_id {M : Hm} {a : Nat} {x : (Nat × Nat) × va_E} (h : M a = some x) : hp_up M a x = M := by
  funext z
  by_cases hz : z = a
  · subst hz; rw [hp_up_self, h]
  · rw [hp_up_ne hz]
section HPC
variable {p : Program} {l : Launch} {e : Env} {R : Room} {s : State} {m : MethodId} {args : Array Value} {below : List Frame} {meth : Method} {c : Code} {H : Heap} {locs : List Loc} {cells slots : Nat} {Q : State → Prop}
variable {cc : ByteArray} {pc : Nat} {ls : Array Slot} {rest : List Value} {D : va_G} {cl : List vw_C} {a : Nat} {tys : List (ClassId × FieldType)} {H0 : Heap} {lo : Nat} {M : Hm} {t : Nat × Nat} {Y : Nat → ClassId}
theorem hp_copyi (hexec : p.tables.exec = Jvm.exec) (hb : c.code = cc) (hml : c.maxLocals = ls.size) {own : String} {index : Nat} (hown : s.vm.findClass own = some m.cls) (hlink : (Cond.methodLink own index arraycopyName).before args s = true) (hnat : (Cond.native arraycopyName).before args s = true) (hstat : (Cond.static arraycopyName).before args s = true) (hini : (Cond.initialized "java/lang/System").before args s = true)
    (hK : va_K D cl tys s) (ht : tys[0]? = some (Y 0, .int)) (hst : hp_st D cl lo M H0 H locs) {a0 n0 n1 n : Nat} {u : Nat × Nat} {f g : Nat → Nat} (h0 : M a0 = some (u, e_n Y n0 f)) (h1 : M a = some (t, e_n Y n1 g)) (hn0 : n ≤ n0) (hn1 : n ≤ n1) (hn : n < 2 ^ 31)
    (hframes : 1 ≤ R.frames) (hlocals : (rest.map fun v => v.category).sum + (nativeFrameWords "java/lang/System" "arraycopy" 5 + 11) ≤ R.locals) (hdg : decode cc pc = .ok (.invokestatic index, 3))
    (kk : ∀ (H1 : Heap) (locs1 : List Loc), hp_st D cl lo (hp_up M a (t, e_n Y n1 (fun k => if k < n then f k else g k))) H0 H1 locs1 → W p l e R s m args below meth c H1 locs1 cells slots Q (F0 m (pc + 3) ls rest)) : W p l e R s m args below meth c H locs cells slots Q (F0 m pc ls (.int (nI n) :: .int (nI 0) :: .ref a :: .int (nI 0) :: .ref a0 :: rest)) := by
  obtain ⟨k0, hk0⟩ := hst.ix h0
  obtain ⟨k1, hk1⟩ := hst.ix h1
  have z0 : (nI 0).toNatClampNeg = 0 := nI_clamp (by omega)
  have zn : (nI n).toNatClampNeg = n := nI_clamp hn
  refine va_copyi hexec hb hml hown hlink hnat hstat hini hK hst.P hst.Dd hst.2.1 k0 k1 0 0 hk0 hk1 ht ht rfl (nI_pos (by omega)) (nI_pos (by omega)) (nI_pos hn) (by rw [z0, zn]; omega) (by rw [z0, zn]; omega) (fun i _ => rfl) hframes hlocals hdg (fun H1 locs1 hP _ hS => kk H1 locs1 (hst.set hk1 h1 ?_ hS))
  have hf : va_cpy (fun k => nI (f k)) (fun k => nI (g k)) (nI 0).toNatClampNeg (nI 0).toNatClampNeg (nI n).toNatClampNeg = fun k => nI (if k < n then f k else g k) := by
    rw [z0, zn]
    funext k
    by_cases hk : k < n
    · rw [pk_cpy_in (by omega) (by omega), if_pos hk]
      congr 2
      omega
    · rw [pk_cpy_out (by omega), if_neg hk]
  rw [hf] at hP
  exact hP
end HPC

set_option maxHeartbeats 4000000 in
set_option maxRecDepth 100000 in
theorem c_Jm_min (l : Launch) (D : va_G) (Y : Nat → ClassId) (lo : Nat) {M : Hm} {x y : Nat} (hx9 : x < 2 ^ 31) (hy9 : y < 2 ^ 31) : ct l D Y lo y_Jm_min b_Jm_min 2 (some .int) 0 [.int (nI x), .int (nI y)] M (fun r M' => r = some (.int (nI (min x y))) ∧ M = M') nx 0 0 := by
  refine ct_ofF (by decide +kernel) (Nat.le_of_ble_eq_true rfl) ?_
  intro pg eg sg mg bw mt cg ls X hst hl
  have X1 := X
  obtain ⟨hx, hb, hml, hrt, hlocks, hown, hnm, hts, hkz, hex⟩ := X1
  have hG : ∀ w ∈ GW, w.before _ sg = true := fun w h => hts w (List.mem_cons_of_mem _ h)
  have hK := hkz.1
  have hl : lv_has ls 2 [(0, .int (nI x)), (1, .int (nI y))] := hl
  refine lv_iload_n hx hb dJm_min_0 rfl (lv_at hl 0 rfl) ?_
  refine lv_iload_n hx hb dJm_min_1 rfl (lv_at hl 1 rfl) ?_
  refine lv_icmp_gt hx hb dJm_min_2 (tgt := 9) rfl (fun hc => ?_) (fun hc => ?_)
  · skip
    have hc : y < x := (nI_ltI (by omega) (by omega)).mp hc
    refine lv_iload_n hx hb dJm_min_9 rfl (lv_at hl 1 rfl) ?_
    exact ct_iret X hst ⟨by rw [Nat.min_eq_right (by omega)], rfl⟩ (by omega) (by omega) dJm_min_10
  · skip
    have hc : ¬ y < x := fun z => hc ((nI_ltI (by omega) (by omega)).mpr z)
    refine lv_iload_n hx hb dJm_min_5 rfl (lv_at hl 0 rfl) ?_
    refine lv_goto hx hb dJm_min_6 (tgt := 10) rfl ?_
    exact ct_iret X hst ⟨by rw [Nat.min_eq_left (by omega)], rfl⟩ (by omega) (by omega) dJm_min_10

set_option maxHeartbeats 4000000 in
set_option maxRecDepth 100000 in
theorem c_Ja_copyOf (l : Launch) (D : va_G) (Y : Nat → ClassId) (lo : Nat) {M : Hm} {a n k : Nat} {f : Nat → Nat} {t : Nat × Nat} (u : Nat × Nat) (ha : M a = some (t, e_n Y n f)) (hne : ¬ k = n) (hk : n ≤ k) (hk9 : k ≤ 1000000) : ct l D Y lo y_Ja_copyOf b_Ja_copyOf 3 (some (.array .int)) 1 [.ref a, .int (nI k)] M (fun r M' => ∃ q : Nat, r = some (.ref q) ∧ M q = none ∧ M' = hp_up M q (u, e_n Y k (fun j => if j < n then f j else 0))) nx 1 k := by
  refine ct_of (by decide) (Nat.le_of_ble_eq_true rfl) ?_
  intro pg eg sg mg bw mt cg ls X hst hl
  have X1 := X
  obtain ⟨hx, hb, hml, hrt, hlocks, hown, hnm, hts, hkz, hex⟩ := X1
  have hG : ∀ w ∈ GW, w.before _ sg = true := fun w h => hts w (List.mem_cons_of_mem _ h)
  have hK := hkz.1
  have hl : lv_has ls 3 [(0, .ref a), (1, .int (nI k))] := hl
  refine lv_iload_n hx hb dJa_copyOf_0 rfl (lv_at hl 1 rfl) ?_
  refine lv_aload_n hx hb dJa_copyOf_1 rfl (lv_at hl 0 rfl) ?_
  refine hp_alen hx hb hK rfl hst ha dJa_copyOf_2 ?_
  refine lv_icmp_ne hx hb dJa_copyOf_3 (tgt := 14) rfl (fun hc => ?_) (fun hc => ?_)
  · skip
    have hc : ¬ k = n := fun z => hc ((nI_eq (by omega) (by omega)).mpr z)
    refine lv_iload_n hx hb dJa_copyOf_14 rfl (lv_at hl 1 rfl) ?_
    refine hp_newi hx hb (hG _ ac_int) hK rfl hst u (N' := k) (by omega) (rm_c (by omega)) (rm_s (by omega)) dJa_copyOf_15 (fun q1 H hq2 hst => ?_)
    generalize hM4 : hp_up M q1 (u, e_n Y k (fun _ => 0)) = M3 at hst
    have f5 : M3 q1 = some (u, e_n Y k (fun _ => 0)) := by rw [← hM4]; exact hp_up_self _ _ _
    have f6 : M3 a = some (t, e_n Y n f) := by rw [← hM4]; exact hp_kf hq2 ha
    refine lv_astore_n (lv' := [(2, .ref q1), (0, .ref a), (1, .int (nI k))]) hx hb dJa_copyOf_17 rfl hl (by decide) rfl (fun ls hl => ?_)
    refine lv_aload_n hx hb dJa_copyOf_18 rfl (lv_at hl 1 rfl) ?_
    refine lv_iconst (v := nI 0) hx hb dJa_copyOf_19 (by decide +kernel) ?_
    refine lv_aload_n hx hb dJa_copyOf_20 rfl (lv_at hl 0 rfl) ?_
    refine lv_iconst (v := nI 0) hx hb dJa_copyOf_21 (by decide +kernel) ?_
    refine lv_aload_n hx hb dJa_copyOf_22 rfl (lv_at hl 1 rfl) ?_
    refine hp_alen hx hb hK rfl hst f6 dJa_copyOf_23 ?_
    refine lv_iload_n hx hb dJa_copyOf_24 rfl (lv_at hl 2 rfl) ?_
    refine ct_callS (av2 := [.int (nI n), .int (nI k)]) (rest := [.int (nI 0), .ref q1, .int (nI 0), .ref a]) X hst (c_Jm_min l D Y lo (x := n) (y := k) (by omega) (by omega)) wc_Jm_min ml_Ja_304 ws_Jm_min wn_Jm md_Jm_min (by decide) hl.1 rfl (Nat.le_of_ble_eq_true rfl) ⟨by omega, by omega⟩ (fun _ _ h => h.elim) dJa_copyOf_25 (fun r M' H locs hp hst => ?_)
    obtain ⟨rfl, rfl⟩ := hp
    refine tp_n (e2 := n) (Nat.min_eq_left hk) ?_
    refine hp_copyi hx hb (by rw [hml]; exact hl.1.symm) hown (hG _ ml_Ja_150) (hG _ wv_arraycopy) (hG _ ws_arraycopy) (hG _ wn_Js) hK rfl hst f6 f5 (Nat.le_refl _) hk (by omega) (Nat.le_of_ble_eq_true rfl) (Nat.le_of_ble_eq_true rfl) dJa_copyOf_28 (fun H locs hst => ?_)
    refine lv_aload_n hx hb dJa_copyOf_31 rfl (lv_at hl 0 rfl) ?_
    have hM9 : hp_up M3 q1 (u, e_n Y k (fun j => if j < n then f j else (fun _ => 0) j)) = hp_up M q1 (u, e_n Y k (fun j => if j < n then f j else 0)) := by
      rw [← hM4]
      funext z
      by_cases hz : z = q1
      · subst hz; rw [hp_up_self, hp_up_self]
      · rw [hp_up_ne hz, hp_up_ne hz, hp_up_ne hz]
    rw [hM9] at hst
    exact ct_aret (Or.inr ⟨_, rfl⟩) X hst ⟨q1, rfl, hq2, rfl⟩ (by omega) (by omega) dJa_copyOf_32
  · skip
    have hc : k = n := (nI_eq (by omega) (by omega)).mp hc
    exact absurd hc hne

set_option maxHeartbeats 4000000 in
set_option maxRecDepth 100000 in
theorem c_Ja_rangeCheck (l : Launch) (D : va_G) (Y : Nat → ClassId) (lo : Nat) {M : Hm} {n i j : Nat} (h1 : i ≤ j) (h2 : j ≤ n) (hn : n < 2 ^ 31) : ct l D Y lo y_Ja_rangeCheck b_Ja_rangeCheck 3 none 0 [.int (nI n), .int (nI i), .int (nI j)] M (fun r M' => r = none ∧ M = M') nx 0 0 := by
  refine ct_of (by decide) (Nat.le_of_ble_eq_true rfl) ?_
  intro pg eg sg mg bw mt cg ls X hst hl
  have X1 := X
  obtain ⟨hx, hb, hml, hrt, hlocks, hown, hnm, hts, hkz, hex⟩ := X1
  have hG : ∀ w ∈ GW, w.before _ sg = true := fun w h => hts w (List.mem_cons_of_mem _ h)
  have hK := hkz.1
  have hl : lv_has ls 3 [(0, .int (nI n)), (1, .int (nI i)), (2, .int (nI j))] := hl
  refine lv_iload_n hx hb dJa_rangeCheck_0 rfl (lv_at hl 1 rfl) ?_
  refine lv_iload_n hx hb dJa_rangeCheck_1 rfl (lv_at hl 2 rfl) ?_
  refine lv_icmp_le hx hb dJa_rangeCheck_2 (tgt := 46) rfl (fun hc => ?_) (fun hc => ?_)
  · skip
    have hc : i ≤ j := (nI_leI (by omega) (by omega)).mp hc
    refine lv_iload_n hx hb dJa_rangeCheck_46 rfl (lv_at hl 1 rfl) ?_
    refine lv_if_ge hx hb dJa_rangeCheck_47 (tgt := 59) rfl (fun hc => ?_) (fun hc => ?_)
    · skip
      rw [← nI_0] at hc
      have hc2 : 0 ≤ i := (nI_leI (by omega) (by omega)).mp hc
      refine lv_iload_n hx hb dJa_rangeCheck_59 rfl (lv_at hl 2 rfl) ?_
      refine lv_iload_n hx hb dJa_rangeCheck_60 rfl (lv_at hl 0 rfl) ?_
      refine lv_icmp_le hx hb dJa_rangeCheck_61 (tgt := 73) rfl (fun hc => ?_) (fun hc => ?_)
      · skip
        have hc3 : j ≤ n := (nI_leI (by omega) (by omega)).mp hc
        exact ct_vret X hst ⟨rfl, rfl⟩ (by omega) (by omega) dJa_rangeCheck_73
      · skip
        have hc3 : ¬ j ≤ n := fun z => hc ((nI_leI (by omega) (by omega)).mpr z)
        exact absurd h2 hc3
    · skip
      rw [← nI_0] at hc
      have hc2 : ¬ 0 ≤ i := fun z => hc ((nI_leI (by omega) (by omega)).mpr z)
      exact absurd (Nat.zero_le _) hc2
  · skip
    have hc : ¬ i ≤ j := fun z => hc ((nI_leI (by omega) (by omega)).mpr z)
    exact absurd h1 hc

set_option maxHeartbeats 4000000 in
set_option maxRecDepth 100000 in
theorem c_Ja_fill (l : Launch) (D : va_G) (Y : Nat → ClassId) (lo : Nat) {M : Hm} {a n k : Nat} {g : Nat → Nat} {t : Nat × Nat} (ha : M a = some (t, e_n Y n g)) (hk : k ≤ n) (hn : n < 2 ^ 31) : ct l D Y lo y_Ja_fill b_Ja_fill 5 none 1 [.ref a, .int (nI 0), .int (nI k), .int (nI 0)] M (fun r M' => r = none ∧ M' = hp_up M a (t, e_n Y n (fun j => if j < k then 0 else g j))) nx 0 0 := by
  refine ct_of (by decide) (Nat.le_of_ble_eq_true rfl) ?_
  intro pg eg sg mg bw mt cg ls X hst hl
  have X1 := X
  obtain ⟨hx, hb, hml, hrt, hlocks, hown, hnm, hts, hkz, hex⟩ := X1
  have hG : ∀ w ∈ GW, w.before _ sg = true := fun w h => hts w (List.mem_cons_of_mem _ h)
  have hK := hkz.1
  have hl : lv_has ls 5 [(0, .ref a), (1, .int (nI 0)), (2, .int (nI k)), (3, .int (nI 0))] := hl
  refine lv_aload_n hx hb dJa_fill_0 rfl (lv_at hl 0 rfl) ?_
  refine hp_alen hx hb hK rfl hst ha dJa_fill_1 ?_
  refine lv_iload_n hx hb dJa_fill_2 rfl (lv_at hl 1 rfl) ?_
  refine lv_iload_n hx hb dJa_fill_3 rfl (lv_at hl 2 rfl) ?_
  refine ct_callS (av2 := [.int (nI n), .int (nI 0), .int (nI k)]) (rest := []) X hst (c_Ja_rangeCheck l D Y lo (n := n) (i := 0) (j := k) (by omega) hk hn) wc_Ja_rangeCheck ml_Ja_13 ws_Ja_rangeCheck wn_Ja md_Ja_rangeCheck (by decide) hl.1 rfl (Nat.le_of_ble_eq_true rfl) ⟨by omega, by omega⟩ (fun _ _ h => h.elim) dJa_fill_4 (fun r M' H locs hp hst => ?_)
  obtain ⟨rfl, rfl⟩ := hp
  refine lv_iload_n hx hb dJa_fill_7 rfl (lv_at hl 1 rfl) ?_
  refine lv_istore (lv' := [(4, .int (nI 0)), (0, .ref a), (1, .int (nI 0)), (2, .int (nI k)), (3, .int (nI 0))]) hx hb dJa_fill_8 hl (by decide) rfl (fun ls hl => ?_)
  have LP : ∀ (kk : Nat) (i : Nat) (g1 : Nat → Nat) (M1 : Hm) (H : Heap) (locs : List Loc) (ls : Array Slot), kk = k - i → (M1 = hp_up M a (t, e_n Y n g1)) → (i ≤ k) → (∀ j, g1 j = if j < i then 0 else g j) → hp_st D vC lo M1 sg.heap H locs → lv_has ls 5 [(0, .ref a), (1, .int (nI 0)), (2, .int (nI k)), (3, .int (nI 0)), (4, .int (nI i))] → cW pg l eg sg mg [.ref a, .int (nI 0), .int (nI k), .int (nI 0)] bw mt cg y_Ja_fill b_Ja_fill 5 none 1 D lo (fun r M' => r = none ∧ M' = hp_up M a (t, e_n Y n (fun j => if j < k then 0 else g j))) nx 0 0 H locs 0 0 (F0 mg 10 ls []) := by
    intro kk
    induction kk using Nat.strongRecOn with
    | _ kk ihLP =>
    intro i g1 M1 H locs ls hkk hM1 hi hg1 hst hl
    have ha1 : M1 a = some (t, e_n Y n g1) := by rw [hM1]; exact hp_up_self _ _ _
    refine lv_iload hx hb dJa_fill_10 (lv_at hl 4 rfl) ?_
    refine lv_iload_n hx hb dJa_fill_12 rfl (lv_at hl 2 rfl) ?_
    refine lv_icmp_ge hx hb dJa_fill_13 (tgt := 27) rfl (fun hc => ?_) (fun hc => ?_)
    · skip
      have hc : k ≤ i := (nI_leI (by omega) (by omega)).mp hc
      have hg : g1 = fun j => if j < k then 0 else g j := by
        funext j
        rw [hg1 j]
        have : i = k := by omega
        rw [this]
      subst hg
      exact ct_vret X hst ⟨rfl, hM1⟩ (by omega) (by omega) dJa_fill_27
    · skip
      have hc : ¬ k ≤ i := fun z => hc ((nI_leI (by omega) (by omega)).mpr z)
      refine lv_aload_n hx hb dJa_fill_16 rfl (lv_at hl 0 rfl) ?_
      refine lv_iload hx hb dJa_fill_17 (lv_at hl 4 rfl) ?_
      refine lv_iload_n hx hb dJa_fill_19 rfl (lv_at hl 3 rfl) ?_
      refine hp_iast hx hb hK rfl hst ha1 (j := i) (v := 0) (by omega) (by omega) dJa_fill_20 (fun H locs hst => ?_)
      generalize hM2 : hp_up M1 a (t, e_n Y n (va_up g1 i 0)) = M1 at hst
      have f3 : M1 a = some (t, e_n Y n (va_up g1 i 0)) := by rw [← hM2]; exact hp_up_self _ _ _
      refine lv_iinc (lv' := [(4, .int (nI (i + 1))), (0, .ref a), (1, .int (nI 0)), (2, .int (nI k)), (3, .int (nI 0))]) hx hb dJa_fill_21 hl (k := 4) rfl (ii_p _) (by decide) rfl (fun ls hl => ?_)
      refine lv_goto hx hb dJa_fill_24 (tgt := 10) rfl ?_
      exact ihLP _ (by omega) (i + 1) (va_up g1 i 0) M1 _ _ _ rfl (by rw [← hM2, hM1]; exact hp_up_up _ _ _ _) (by omega) (fun j => by
          by_cases hj : j = i
          · subst hj; rw [va_up_self, if_pos (by omega)]
          · rw [va_up_ne _ _ hj, hg1 j]
            by_cases h9 : j < i
            · rw [if_pos h9, if_pos (by omega)]
            · rw [if_neg h9, if_neg (by omega)]) hst (lv_sub hl [1, 2, 3, 4, 0] rfl)
  exact LP _ 0 g M _ _ _ rfl (hp_up_id ha).symm (by omega) (fun j => by rw [if_neg (by omega)]) hst (lv_sub hl [1, 2, 3, 4, 0] rfl)

/-- what Integer.bitCount does to its int, step by step -/
def bc1 (x : Int32) : Int32 := x - ((x.toUInt32 >>> ((nI 1).toUInt32 &&& Int32.toUInt32 31)).toInt32 &&& 1431655765)
def bc2 (x : Int32) : Int32 := (x &&& 858993459) + ((x.toUInt32 >>> ((nI 2).toUInt32 &&& Int32.toUInt32 31)).toInt32 &&& 858993459)
def bc3 (x : Int32) : Int32 := (x + (x.toUInt32 >>> ((nI 4).toUInt32 &&& Int32.toUInt32 31)).toInt32) &&& 252645135
def bc4 (x : Int32) : Int32 := x + (x.toUInt32 >>> ((nI 8).toUInt32 &&& Int32.toUInt32 31)).toInt32
def bc5 (x : Int32) : Int32 := x + (x.toUInt32 >>> ((nI 16).toUInt32 &&& Int32.toUInt32 31)).toInt32
/-- how many bits of n are set (n below 512) -/
def pcn (n : Nat) : Nat := n % 2 + n / 2 % 2 + n / 4 % 2 + n / 8 % 2 + n / 16 % 2 + n / 32 % 2 + n / 64 % 2 + n / 128 % 2 + n / 256 % 2
theorem bc_all : ∀ n, n < 512 → (bc5 (bc4 (bc3 (bc2 (bc1 (nI n)))))) &&& nI 63 = nI (pcn n) := by decide +kernel

set_option maxHeartbeats 4000000 in
set_option maxRecDepth 100000 in
theorem c_Ji_bitCount (l : Launch) (D : va_G) (Y : Nat → ClassId) (lo : Nat) {M : Hm} {n : Nat} (hn : n < 512) : ct l D Y lo y_Ji_bitCount b_Ji_bitCount 1 (some .int) 0 [.int (nI n)] M (fun r M' => r = some (.int (nI (pcn n))) ∧ M = M') nx 0 0 := by
  refine ct_of (by decide) (Nat.le_of_ble_eq_true rfl) ?_
  intro pg eg sg mg bw mt cg ls X hst hl
  have X1 := X
  obtain ⟨hx, hb, hml, hrt, hlocks, hown, hnm, hts, hkz, hex⟩ := X1
  have hG : ∀ w ∈ GW, w.before _ sg = true := fun w h => hts w (List.mem_cons_of_mem _ h)
  have hK := hkz.1
  have hl : lv_has ls 1 [(0, .int (nI n))] := hl
  refine lv_iload_n hx hb dJi_bitCount_0 rfl (lv_at hl 0 rfl) ?_
  refine lv_iload_n hx hb dJi_bitCount_1 rfl (lv_at hl 0 rfl) ?_
  refine lv_iconst (v := nI 1) hx hb dJi_bitCount_2 (by decide +kernel) ?_
  refine lv_iushr hx hb dJi_bitCount_3 (v := ((nI n).toUInt32 >>> ((nI 1).toUInt32 &&& Int32.toUInt32 31)).toInt32) rfl ?_
  refine lv_ldcw (v := (1431655765 : Int32)) hx hb hown (hG _ kc_Ji_265) dJi_bitCount_4 ?_
  refine lv_iand hx hb dJi_bitCount_7 ?_
  refine lv_isub hx hb dJi_bitCount_8 ?_
  refine lv_topi (fun x1 e1 => ?_)
  refine lv_istore_n (lv' := [(0, .int x1)]) hx hb dJi_bitCount_9 rfl hl (by decide) rfl (fun ls hl => ?_)
  refine lv_iload_n hx hb dJi_bitCount_10 rfl (lv_at hl 0 rfl) ?_
  refine lv_ldcw (v := (858993459 : Int32)) hx hb hown (hG _ kc_Ji_266) dJi_bitCount_11 ?_
  refine lv_iand hx hb dJi_bitCount_14 ?_
  refine lv_iload_n hx hb dJi_bitCount_15 rfl (lv_at hl 0 rfl) ?_
  refine lv_iconst (v := nI 2) hx hb dJi_bitCount_16 (by decide +kernel) ?_
  refine lv_iushr hx hb dJi_bitCount_17 (v := (x1.toUInt32 >>> ((nI 2).toUInt32 &&& Int32.toUInt32 31)).toInt32) rfl ?_
  refine lv_ldcw (v := (858993459 : Int32)) hx hb hown (hG _ kc_Ji_266) dJi_bitCount_18 ?_
  refine lv_iand hx hb dJi_bitCount_21 ?_
  refine lv_iadd hx hb dJi_bitCount_22 ?_
  refine lv_topi (fun x2 e2 => ?_)
  refine lv_istore_n (lv' := [(0, .int x2)]) hx hb dJi_bitCount_23 rfl hl (by decide) rfl (fun ls hl => ?_)
  refine lv_iload_n hx hb dJi_bitCount_24 rfl (lv_at hl 0 rfl) ?_
  refine lv_iload_n hx hb dJi_bitCount_25 rfl (lv_at hl 0 rfl) ?_
  refine lv_iconst (v := nI 4) hx hb dJi_bitCount_26 (by decide +kernel) ?_
  refine lv_iushr hx hb dJi_bitCount_27 (v := (x2.toUInt32 >>> ((nI 4).toUInt32 &&& Int32.toUInt32 31)).toInt32) rfl ?_
  refine lv_iadd hx hb dJi_bitCount_28 ?_
  refine lv_ldcw (v := (252645135 : Int32)) hx hb hown (hG _ kc_Ji_267) dJi_bitCount_29 ?_
  refine lv_iand hx hb dJi_bitCount_32 ?_
  refine lv_topi (fun x3 e3 => ?_)
  refine lv_istore_n (lv' := [(0, .int x3)]) hx hb dJi_bitCount_33 rfl hl (by decide) rfl (fun ls hl => ?_)
  refine lv_iload_n hx hb dJi_bitCount_34 rfl (lv_at hl 0 rfl) ?_
  refine lv_iload_n hx hb dJi_bitCount_35 rfl (lv_at hl 0 rfl) ?_
  refine lv_bipush (v := nI 8) hx hb dJi_bitCount_36 (by decide +kernel) ?_
  refine lv_iushr hx hb dJi_bitCount_38 (v := (x3.toUInt32 >>> ((nI 8).toUInt32 &&& Int32.toUInt32 31)).toInt32) rfl ?_
  refine lv_iadd hx hb dJi_bitCount_39 ?_
  refine lv_topi (fun x4 e4 => ?_)
  refine lv_istore_n (lv' := [(0, .int x4)]) hx hb dJi_bitCount_40 rfl hl (by decide) rfl (fun ls hl => ?_)
  refine lv_iload_n hx hb dJi_bitCount_41 rfl (lv_at hl 0 rfl) ?_
  refine lv_iload_n hx hb dJi_bitCount_42 rfl (lv_at hl 0 rfl) ?_
  refine lv_bipush (v := nI 16) hx hb dJi_bitCount_43 (by decide +kernel) ?_
  refine lv_iushr hx hb dJi_bitCount_45 (v := (x4.toUInt32 >>> ((nI 16).toUInt32 &&& Int32.toUInt32 31)).toInt32) rfl ?_
  refine lv_iadd hx hb dJi_bitCount_46 ?_
  refine lv_topi (fun x5 e5 => ?_)
  refine lv_istore_n (lv' := [(0, .int x5)]) hx hb dJi_bitCount_47 rfl hl (by decide) rfl (fun ls hl => ?_)
  refine lv_iload_n hx hb dJi_bitCount_48 rfl (lv_at hl 0 rfl) ?_
  refine lv_bipush (v := nI 63) hx hb dJi_bitCount_49 (by decide +kernel) ?_
  refine lv_iand hx hb dJi_bitCount_51 ?_
  have hfin := bc_all n hn
  have g1 : x1 = bc1 (nI n) := e1
  have g2 : x2 = bc2 x1 := e2
  have g3 : x3 = bc3 x2 := e3
  have g4 : x4 = bc4 x3 := e4
  have g5 : x5 = bc5 x4 := e5
  rw [← g1, ← g2, ← g3, ← g4, ← g5] at hfin
  rw [hfin]
  exact ct_iret X hst ⟨rfl, rfl⟩ (by omega) (by omega) dJi_bitCount_52
end
section
/-! Polynomial objects: po says that h holds the terms L, in rows of cap places. -/
theorem mx9 {a b : Nat} (ha : a < 2 ^ 31) (hb : b < 2 ^ 31) : (if nI a < nI b then nI b else nI a) = nI (max a b) := by
  by_cases h : a < b
  · rw [if_pos ((nI_ltI ha hb).mpr h), Nat.max_eq_right (by omega)]
  · rw [if_neg (fun z => h ((nI_ltI ha hb).mp z)), Nat.max_eq_left (by omega)]
def po (Y : Nat → ClassId) (M : Hm) (id h cap : Nat) (L : List (Nat × Nat)) : Prop :=
  ∃ (a b : Nat) (fa fb : Nat → Nat), M h = some ((id, 0), .inr (1, [.ref a, .ref b, .int (nI L.length)])) ∧ M a = some ((id, 1), e_n Y cap fa) ∧ M b = some ((id, 2), e_n Y cap fb) ∧
    (∀ (k : Nat) (q : Nat × Nat), L[k]? = some q → fa k = q.1 ∧ fb k = q.2) ∧ L.length ≤ cap ∧ 16 ≤ cap ∧ cap ≤ 65536
theorem po.off {Y : Nat → ClassId} {M M' : Hm} {id h cap : Nat} {L : List (Nat × Nat)} {S : Nat → Prop} (hp : po Y M id h cap L) (ho : hp_off S M M') (hS : ¬ S id) : po Y M' id h cap L := by
  obtain ⟨a, b, fa, fb, h0, h1, h2, h3⟩ := hp
  exact ⟨a, b, fa, fb, ho.of h0 hS, ho.of h1 hS, ho.of h2 hS, h3⟩
theorem po.cell {Y : Nat → ClassId} {M : Hm} {id h cap : Nat} {L : List (Nat × Nat)} (hp : po Y M id h cap L) : ∃ fs : List Value, M h = some ((id, 0), .inr (1, fs)) := by
  obtain ⟨a, b, fa, fb, h0, -⟩ := hp
  exact ⟨_, h0⟩
/-- the room behind one more term -/
def gc1 (n cap : Nat) : Nat := if n = cap then 2 * cap else cap
/-- the greatest exponent of a variable in a list, above g -/
def dgl (v : Nat) : List (Nat × Nat) → Nat → Nat
  | [], g => g
  | q :: qs, g => dgl v qs (max g (xe q.1 v))
def cfo (k : Nat) : List (Nat × Nat) → Nat
  | [] => 0
  | q :: qs => if q.1 = k then q.2 else cfo k qs
theorem dgl_lt {v g : Nat} : ∀ {L : List (Nat × Nat)}, g < 64 → dgl v L g < 64 := by
  intro L
  induction L generalizing g with
  | nil => intro h; exact h
  | cons q qs ih =>
    intro h
    have := xe_lt q.1 v
    exact ih (by omega)
theorem dr_cons {L : List (Nat × Nat)} {i : Nat} (h : i < L.length) : ∃ q, L[i]? = some q ∧ q ∈ L ∧ L.drop i = q :: L.drop (i + 1) := by
  refine ⟨L[i], List.getElem?_eq_getElem h, List.getElem_mem h, List.drop_eq_getElem_cons h⟩

set_option maxHeartbeats 4000000 in
set_option maxRecDepth 100000 in
theorem c_P_clear (l : Launch) (D : va_G) (Y : Nat → ClassId) (lo : Nat) {M : Hm} {id h cap : Nat} {L : List (Nat × Nat)} (hp : po Y M id h cap L) : ct l D Y lo y_P_clear b_P_clear 1 none 0 [.ref h] M (fun r M' => r = none ∧ po Y M' id h cap [] ∧ hp_off (fun i => i = id) M M') nx 0 0 := by
  refine ct_of (by decide) (Nat.le_of_ble_eq_true rfl) ?_
  intro pg eg sg mg bw mt cg ls X hst hl
  have X1 := X
  obtain ⟨hx, hb, hml, hrt, hlocks, hown, hnm, hts, hkz, hex⟩ := X1
  have hG : ∀ w ∈ GW, w.before _ sg = true := fun w h => hts w (List.mem_cons_of_mem _ h)
  have hK := hkz.1
  have hl : lv_has ls 1 [(0, .ref h)] := hl
  obtain ⟨a, b, fa, fb, h0, h1, h2, hL, hn, hc1, hc2⟩ := hp
  refine lv_aload_n hx hb dP_clear_0 rfl (lv_at hl 0 rfl) ?_
  refine lv_iconst (v := nI 0) hx hb dP_clear_1 (by decide +kernel) ?_
  refine hp_put hx hb hG in_P ty_P tyok_P nm_P hown hK hst h0 rfl 2 (by decide) (hG _ fl_P_16) rfl rfl rfl rfl (Nat.le_of_ble_eq_true rfl) dP_clear_2 (fs' := [.ref a, .ref b, .int (nI 0)]) rfl (fun H locs hst => ?_)
  generalize hM2 : hp_up M h ((id, 0), .inr (1, [.ref a, .ref b, .int (nI 0)])) = M1 at hst
  have f3 : M1 h = some ((id, 0), .inr (1, [.ref a, .ref b, .int (nI 0)])) := by rw [← hM2]; exact hp_up_self _ _ _
  have f4 : M1 a = some ((id, 1), e_n Y cap fa) := by rw [← hM2]; exact hp_kt h0 h1 (tg2 (by decide))
  have f5 : M1 b = some ((id, 2), e_n Y cap fb) := by rw [← hM2]; exact hp_kt h0 h2 (tg2 (by decide))
  have o6 : hp_off (fun i => i = id) M M1 := by rw [← hM2]; exact hp_off.up h0 rfl
  exact ct_vret X hst ⟨rfl, ⟨a, b, fa, fb, f3, f4, f5, (fun k q hq => by cases hq), Nat.zero_le _, hc1, hc2⟩, o6⟩ (by omega) (by omega) dP_clear_5

set_option maxHeartbeats 4000000 in
set_option maxRecDepth 100000 in
theorem c_P_init (l : Launch) (D : va_G) (Y : Nat → ClassId) (lo : Nat) {M : Hm} {id h : Nat} (h0 : M h = some ((id, 0), .inr (1, [.null, .null, .int (nI 0)]))) : ct l D Y lo y_P_init b_P_init 1 none 1 [.ref h] M (fun r M' => r = none ∧ po Y M' id h 16 [] ∧ hp_off (fun i => i = id) M M') nx 2 32 := by
  refine ct_of (by decide) (Nat.le_of_ble_eq_true rfl) ?_
  intro pg eg sg mg bw mt cg ls X hst hl
  have X1 := X
  obtain ⟨hx, hb, hml, hrt, hlocks, hown, hnm, hts, hkz, hex⟩ := X1
  have hG : ∀ w ∈ GW, w.before _ sg = true := fun w h => hts w (List.mem_cons_of_mem _ h)
  have hK := hkz.1
  have hl : lv_has ls 1 [(0, .ref h)] := hl
  have hin : mt.name = "<init>" := hnm
  refine lv_aload_n hx hb dP_init_0 rfl (lv_at hl 0 rfl) ?_
  refine W.objInit hx hb hown (hG _ ml_P_1) (hG _ wi_Jo_init) (hG _ wc_Jo_init) rfl (by rw [hml]; exact hl.1) rfl dP_init_1 (Nat.le_of_ble_eq_true rfl) (Nat.le_of_ble_eq_true rfl) ?_
  refine W.eq (g2 := F0 mg 4 ls []) rfl ?_
  refine lv_aload_n hx hb dP_init_4 rfl (lv_at hl 0 rfl) ?_
  refine lv_bipush (v := nI 16) hx hb dP_init_5 (by decide +kernel) ?_
  refine hp_newi hx hb (hG _ ac_int) hK rfl hst (id, 1) (N' := 16) (by omega) (rm_c (by omega)) (rm_s (by omega)) dP_init_7 (fun q1 H hq2 hst => ?_)
  generalize hM4 : hp_up M q1 ((id, 1), e_n Y 16 (fun _ => 0)) = M3 at hst
  have f5 : M3 q1 = some ((id, 1), e_n Y 16 (fun _ => 0)) := by rw [← hM4]; exact hp_up_self _ _ _
  have f6 : M3 h = some ((id, 0), .inr (1, [.null, .null, .int (nI 0)])) := by rw [← hM4]; exact hp_kf hq2 h0
  have o7 : hp_off (fun i => i = id) M M3 := by rw [← hM4]; exact hp_off.nw hq2 rfl
  refine hp_put hx hb hG in_P ty_P tyok_P nm_P hown hK hst f6 rfl 0 (by decide) (hG _ fl_P_9) rfl rfl rfl rfl (Nat.le_of_ble_eq_true rfl) dP_init_9 (fs' := [.ref q1, .null, .int (nI 0)]) rfl (fun H locs hst => ?_)
  generalize hM9 : hp_up M3 h ((id, 0), .inr (1, [.ref q1, .null, .int (nI 0)])) = M8 at hst
  have f10 : M8 h = some ((id, 0), .inr (1, [.ref q1, .null, .int (nI 0)])) := by rw [← hM9]; exact hp_up_self _ _ _
  have f11 : M8 q1 = some ((id, 1), e_n Y 16 (fun _ => 0)) := by rw [← hM9]; exact hp_kt f6 f5 (tg2 (by decide))
  have o12 : hp_off (fun i => i = id) M M8 := by rw [← hM9]; exact hp_off.tr o7 (hp_off.up f6 rfl)
  refine lv_aload_n hx hb dP_init_12 rfl (lv_at hl 0 rfl) ?_
  refine lv_bipush (v := nI 16) hx hb dP_init_13 (by decide +kernel) ?_
  refine hp_newi hx hb (hG _ ac_int) hK rfl hst (id, 2) (N' := 16) (by omega) (rm_c (by omega)) (rm_s (by omega)) dP_init_15 (fun q13 H hq14 hst => ?_)
  generalize hM16 : hp_up M8 q13 ((id, 2), e_n Y 16 (fun _ => 0)) = M15 at hst
  have f17 : M15 q13 = some ((id, 2), e_n Y 16 (fun _ => 0)) := by rw [← hM16]; exact hp_up_self _ _ _
  have f18 : M15 q1 = some ((id, 1), e_n Y 16 (fun _ => 0)) := by rw [← hM16]; exact hp_kf hq14 f11
  have f19 : M15 h = some ((id, 0), .inr (1, [.ref q1, .null, .int (nI 0)])) := by rw [← hM16]; exact hp_kf hq14 f10
  have o20 : hp_off (fun i => i = id) M M15 := by rw [← hM16]; exact hp_off.tr o12 (hp_off.nw hq14 rfl)
  refine hp_put hx hb hG in_P ty_P tyok_P nm_P hown hK hst f19 rfl 1 (by decide) (hG _ fl_P_13) rfl rfl rfl rfl (Nat.le_of_ble_eq_true rfl) dP_init_17 (fs' := [.ref q1, .ref q13, .int (nI 0)]) rfl (fun H locs hst => ?_)
  generalize hM22 : hp_up M15 h ((id, 0), .inr (1, [.ref q1, .ref q13, .int (nI 0)])) = M21 at hst
  have f23 : M21 h = some ((id, 0), .inr (1, [.ref q1, .ref q13, .int (nI 0)])) := by rw [← hM22]; exact hp_up_self _ _ _
  have f24 : M21 q1 = some ((id, 1), e_n Y 16 (fun _ => 0)) := by rw [← hM22]; exact hp_kt f19 f18 (tg2 (by decide))
  have f25 : M21 q13 = some ((id, 2), e_n Y 16 (fun _ => 0)) := by rw [← hM22]; exact hp_kt f19 f17 (tg2 (by decide))
  have o26 : hp_off (fun i => i = id) M M21 := by rw [← hM22]; exact hp_off.tr o20 (hp_off.up f19 rfl)
  exact ct_vret X hst ⟨rfl, ⟨q1, q13, _, _, f23, f24, f25, (fun k q hq => by cases hq), Nat.zero_le _, by omega, by omega⟩, o26⟩ (by omega) (by omega) dP_init_20

set_option maxHeartbeats 4000000 in
set_option maxRecDepth 100000 in
theorem c_P_append (l : Launch) (D : va_G) (Y : Nat → ClassId) (lo : Nat) {M : Hm} {id h cap : Nat} {L : List (Nat × Nat)} (hp : po Y M id h cap L) {mo co : Nat} (hcap : cap ≤ 32768) : ct l D Y lo y_P_append b_P_append 3 none 2 [.ref h, .int (nI mo), .int (nI co)] M (fun r M' => r = none ∧ po Y M' id h (gc1 L.length cap) (L ++ [(mo, co)]) ∧ hp_off (fun i => i = id) M M') nx (gc1 L.length cap - cap) (4 * (gc1 L.length cap - cap)) := by
  refine ct_of (by decide) (Nat.le_of_ble_eq_true rfl) ?_
  intro pg eg sg mg bw mt cg ls X hst hl
  have X1 := X
  obtain ⟨hx, hb, hml, hrt, hlocks, hown, hnm, hts, hkz, hex⟩ := X1
  have hG : ∀ w ∈ GW, w.before _ sg = true := fun w h => hts w (List.mem_cons_of_mem _ h)
  have hK := hkz.1
  have hl : lv_has ls 3 [(0, .ref h), (1, .int (nI mo)), (2, .int (nI co))] := hl
  obtain ⟨a, b, fa, fb, h0, h1, h2, hL, hn, hc1, hc2⟩ := hp
  refine lv_aload_n hx hb dP_append_0 rfl (lv_at hl 0 rfl) ?_
  refine hp_get hx hb hG in_P hown hK hst h0 rfl 2 (by decide) (hG _ fl_P_16) rfl rfl dP_append_1 ?_
  refine lv_aload_n hx hb dP_append_4 rfl (lv_at hl 0 rfl) ?_
  refine hp_get hx hb hG in_P hown hK hst h0 rfl 0 (by decide) (hG _ fl_P_9) rfl rfl dP_append_5 ?_
  refine hp_alen hx hb hK rfl hst h1 dP_append_8 ?_
  refine lv_icmp_ne hx hb dP_append_9 (tgt := 46) rfl (fun hc => ?_) (fun hc => ?_)
  · skip
    have hc : ¬ L.length = cap := fun z => hc ((nI_eq (by omega) (by omega)).mpr z)
    have hg : gc1 L.length cap = cap := if_neg hc
    refine lv_aload_n hx hb dP_append_46 rfl (lv_at hl 0 rfl) ?_
    refine hp_get hx hb hG in_P hown hK hst h0 rfl 0 (by decide) (hG _ fl_P_9) rfl rfl dP_append_47 ?_
    refine lv_aload_n hx hb dP_append_50 rfl (lv_at hl 0 rfl) ?_
    refine hp_get hx hb hG in_P hown hK hst h0 rfl 2 (by decide) (hG _ fl_P_16) rfl rfl dP_append_51 ?_
    refine lv_iload_n hx hb dP_append_54 rfl (lv_at hl 1 rfl) ?_
    refine hp_iast hx hb hK rfl hst h1 (j := L.length) (v := mo) (by omega) (by omega) dP_append_55 (fun H locs hst => ?_)
    generalize hM2 : hp_up M a ((id, 1), e_n Y cap (va_up fa L.length mo)) = M1 at hst
    have f3 : M1 a = some ((id, 1), e_n Y cap (va_up fa L.length mo)) := by rw [← hM2]; exact hp_up_self _ _ _
    have f4 : M1 h = some ((id, 0), .inr (1, [.ref a, .ref b, .int (nI L.length)])) := by rw [← hM2]; exact hp_kt h1 h0 (tg2 (by decide))
    have f5 : M1 b = some ((id, 2), e_n Y cap fb) := by rw [← hM2]; exact hp_kt h1 h2 (tg2 (by decide))
    have o6 : hp_off (fun i => i = id) M M1 := by rw [← hM2]; exact hp_off.up h1 rfl
    refine lv_aload_n hx hb dP_append_56 rfl (lv_at hl 0 rfl) ?_
    refine hp_get hx hb hG in_P hown hK hst f4 rfl 1 (by decide) (hG _ fl_P_13) rfl rfl dP_append_57 ?_
    refine lv_aload_n hx hb dP_append_60 rfl (lv_at hl 0 rfl) ?_
    refine hp_get hx hb hG in_P hown hK hst f4 rfl 2 (by decide) (hG _ fl_P_16) rfl rfl dP_append_61 ?_
    refine lv_iload_n hx hb dP_append_64 rfl (lv_at hl 2 rfl) ?_
    refine hp_iast hx hb hK rfl hst f5 (j := L.length) (v := co) (by omega) (by omega) dP_append_65 (fun H locs hst => ?_)
    generalize hM8 : hp_up M1 b ((id, 2), e_n Y cap (va_up fb L.length co)) = M7 at hst
    have f9 : M7 b = some ((id, 2), e_n Y cap (va_up fb L.length co)) := by rw [← hM8]; exact hp_up_self _ _ _
    have f10 : M7 h = some ((id, 0), .inr (1, [.ref a, .ref b, .int (nI L.length)])) := by rw [← hM8]; exact hp_kt f5 f4 (tg2 (by decide))
    have f11 : M7 a = some ((id, 1), e_n Y cap (va_up fa L.length mo)) := by rw [← hM8]; exact hp_kt f5 f3 (tg2 (by decide))
    have o12 : hp_off (fun i => i = id) M M7 := by rw [← hM8]; exact hp_off.tr o6 (hp_off.up f5 rfl)
    refine lv_aload_n hx hb dP_append_66 rfl (lv_at hl 0 rfl) ?_
    refine lv_dup hx hb dP_append_67 rfl ?_
    refine hp_get hx hb hG in_P hown hK hst f10 rfl 2 (by decide) (hG _ fl_P_16) rfl rfl dP_append_68 ?_
    refine lv_iconst (v := nI 1) hx hb dP_append_71 (by decide +kernel) ?_
    refine t_iadd hx hb dP_append_72 (v := nI (L.length + 1)) (nI_add _ _) ?_
    refine hp_put hx hb hG in_P ty_P tyok_P nm_P hown hK hst f10 rfl 2 (by decide) (hG _ fl_P_16) rfl rfl rfl rfl (Nat.le_of_ble_eq_true rfl) dP_append_73 (fs' := [.ref a, .ref b, .int (nI (L.length + 1))]) rfl (fun H locs hst => ?_)
    generalize hM14 : hp_up M7 h ((id, 0), .inr (1, [.ref a, .ref b, .int (nI (L.length + 1))])) = M13 at hst
    have f15 : M13 h = some ((id, 0), .inr (1, [.ref a, .ref b, .int (nI (L.length + 1))])) := by rw [← hM14]; exact hp_up_self _ _ _
    have f16 : M13 a = some ((id, 1), e_n Y cap (va_up fa L.length mo)) := by rw [← hM14]; exact hp_kt f10 f11 (tg2 (by decide))
    have f17 : M13 b = some ((id, 2), e_n Y cap (va_up fb L.length co)) := by rw [← hM14]; exact hp_kt f10 f9 (tg2 (by decide))
    have o18 : hp_off (fun i => i = id) M M13 := by rw [← hM14]; exact hp_off.tr o12 (hp_off.up f10 rfl)
    have hlen : (L ++ [(mo, co)]).length = L.length + 1 := by rw [List.length_append]; rfl
    have hcont : ∀ (k : Nat) (q : Nat × Nat), (L ++ [(mo, co)])[k]? = some q → (va_up fa L.length mo) k = q.1 ∧ (va_up fb L.length co) k = q.2 := by
      intro k q hq
      by_cases hk : k < L.length
      · rw [List.getElem?_append_left hk] at hq
        rw [va_up_ne _ _ (by omega), va_up_ne _ _ (by omega)]
        obtain ⟨i1, i2⟩ := hL k q hq
        exact ⟨i1, i2⟩
      · have hk2 : k < L.length + 1 := by
          have := (List.getElem?_eq_some_iff.mp hq).1
          omega
        have hk3 : k = L.length := by omega
        subst hk3
        rw [List.getElem?_append_right (Nat.le_refl _), Nat.sub_self] at hq
        cases hq
        exact ⟨va_up_self _ _ _, va_up_self _ _ _⟩
    exact ct_vret X hst ⟨rfl, ⟨a, b, _, _, (by rw [hlen]; exact f15), (by rw [hg]; exact f16), (by rw [hg]; exact f17), hcont, (by rw [hlen, hg]; omega), (by rw [hg]; omega), (by rw [hg]; omega)⟩, o18⟩ (by omega) (by omega) dP_append_76
  · skip
    have hc : L.length = cap := (nI_eq (by omega) (by omega)).mp hc
    have hg : gc1 L.length cap = 2 * cap := if_pos hc
    have hg2 : 2 * L.length = 2 * cap := by omega
    refine lv_aload_n hx hb dP_append_12 rfl (lv_at hl 0 rfl) ?_
    refine lv_aload_n hx hb dP_append_13 rfl (lv_at hl 0 rfl) ?_
    refine hp_get hx hb hG in_P hown hK hst h0 rfl 0 (by decide) (hG _ fl_P_9) rfl rfl dP_append_14 ?_
    refine lv_iconst (v := nI 2) hx hb dP_append_17 (by decide +kernel) ?_
    refine lv_aload_n hx hb dP_append_18 rfl (lv_at hl 0 rfl) ?_
    refine hp_get hx hb hG in_P hown hK hst h0 rfl 2 (by decide) (hG _ fl_P_16) rfl rfl dP_append_19 ?_
    refine t_imul hx hb dP_append_22 (v := nI (2 * L.length)) (pk_mul _ _) ?_
    refine ct_callS (av2 := [.ref a, .int (nI (2 * L.length))]) (rest := [.ref h]) X hst (c_Ja_copyOf l D Y lo (id, 1) h1 (k := 2 * L.length) (by omega) (by omega) (by omega)) wc_Ja_copyOf ml_P_20 ws_Ja_copyOf wn_Ja md_Ja_copyOf (by decide) hl.1 rfl (Nat.le_of_ble_eq_true rfl) ⟨by omega, by omega⟩ (fun _ _ h => h.elim) dP_append_23 (fun r M' H locs hp hst => ?_)
    obtain ⟨qa, rfl, hqa, rfl⟩ := hp
    rw [hg2] at hst
    generalize hM2 : hp_up M qa ((id, 1), e_n Y (2 * cap) (fun j => if j < cap then fa j else 0)) = M1 at hst
    have f3 : M1 qa = some ((id, 1), e_n Y (2 * cap) (fun j => if j < cap then fa j else 0)) := by rw [← hM2]; exact hp_up_self _ _ _
    have f4 : M1 h = some ((id, 0), .inr (1, [.ref a, .ref b, .int (nI L.length)])) := by rw [← hM2]; exact hp_kf hqa h0
    have f5 : M1 a = some ((id, 1), e_n Y cap fa) := by rw [← hM2]; exact hp_kf hqa h1
    have f6 : M1 b = some ((id, 2), e_n Y cap fb) := by rw [← hM2]; exact hp_kf hqa h2
    have o7 : hp_off (fun i => i = id) M M1 := by rw [← hM2]; exact hp_off.nw hqa rfl
    refine hp_put hx hb hG in_P ty_P tyok_P nm_P hown hK hst f4 rfl 0 (by decide) (hG _ fl_P_9) rfl rfl rfl rfl (Nat.le_of_ble_eq_true rfl) dP_append_26 (fs' := [.ref qa, .ref b, .int (nI L.length)]) rfl (fun H locs hst => ?_)
    generalize hM9 : hp_up M1 h ((id, 0), .inr (1, [.ref qa, .ref b, .int (nI L.length)])) = M8 at hst
    have f10 : M8 h = some ((id, 0), .inr (1, [.ref qa, .ref b, .int (nI L.length)])) := by rw [← hM9]; exact hp_up_self _ _ _
    have f11 : M8 b = some ((id, 2), e_n Y cap fb) := by rw [← hM9]; exact hp_kt f4 f6 (tg2 (by decide))
    have f12 : M8 qa = some ((id, 1), e_n Y (2 * cap) (fun j => if j < cap then fa j else 0)) := by rw [← hM9]; exact hp_kt f4 f3 (tg2 (by decide))
    have o13 : hp_off (fun i => i = id) M M8 := by rw [← hM9]; exact hp_off.tr o7 (hp_off.up f4 rfl)
    refine lv_aload_n hx hb dP_append_29 rfl (lv_at hl 0 rfl) ?_
    refine lv_aload_n hx hb dP_append_30 rfl (lv_at hl 0 rfl) ?_
    refine hp_get hx hb hG in_P hown hK hst f10 rfl 1 (by decide) (hG _ fl_P_13) rfl rfl dP_append_31 ?_
    refine lv_iconst (v := nI 2) hx hb dP_append_34 (by decide +kernel) ?_
    refine lv_aload_n hx hb dP_append_35 rfl (lv_at hl 0 rfl) ?_
    refine hp_get hx hb hG in_P hown hK hst f10 rfl 2 (by decide) (hG _ fl_P_16) rfl rfl dP_append_36 ?_
    refine t_imul hx hb dP_append_39 (v := nI (2 * L.length)) (pk_mul _ _) ?_
    refine ct_callS (av2 := [.ref b, .int (nI (2 * L.length))]) (rest := [.ref h]) X hst (c_Ja_copyOf l D Y lo (id, 2) f11 (k := 2 * L.length) (by omega) (by omega) (by omega)) wc_Ja_copyOf ml_P_20 ws_Ja_copyOf wn_Ja md_Ja_copyOf (by decide) hl.1 rfl (Nat.le_of_ble_eq_true rfl) ⟨by omega, by omega⟩ (fun _ _ h => h.elim) dP_append_40 (fun r M' H locs hp hst => ?_)
    obtain ⟨qb, rfl, hqb, rfl⟩ := hp
    rw [hg2] at hst
    generalize hM15 : hp_up M8 qb ((id, 2), e_n Y (2 * cap) (fun j => if j < cap then fb j else 0)) = M14 at hst
    have f16 : M14 qb = some ((id, 2), e_n Y (2 * cap) (fun j => if j < cap then fb j else 0)) := by rw [← hM15]; exact hp_up_self _ _ _
    have f17 : M14 b = some ((id, 2), e_n Y cap fb) := by rw [← hM15]; exact hp_kf hqb f11
    have f18 : M14 qa = some ((id, 1), e_n Y (2 * cap) (fun j => if j < cap then fa j else 0)) := by rw [← hM15]; exact hp_kf hqb f12
    have f19 : M14 h = some ((id, 0), .inr (1, [.ref qa, .ref b, .int (nI L.length)])) := by rw [← hM15]; exact hp_kf hqb f10
    have o20 : hp_off (fun i => i = id) M M14 := by rw [← hM15]; exact hp_off.tr o13 (hp_off.nw hqb rfl)
    refine hp_put hx hb hG in_P ty_P tyok_P nm_P hown hK hst f19 rfl 1 (by decide) (hG _ fl_P_13) rfl rfl rfl rfl (Nat.le_of_ble_eq_true rfl) dP_append_43 (fs' := [.ref qa, .ref qb, .int (nI L.length)]) rfl (fun H locs hst => ?_)
    generalize hM22 : hp_up M14 h ((id, 0), .inr (1, [.ref qa, .ref qb, .int (nI L.length)])) = M21 at hst
    have f23 : M21 h = some ((id, 0), .inr (1, [.ref qa, .ref qb, .int (nI L.length)])) := by rw [← hM22]; exact hp_up_self _ _ _
    have f24 : M21 qa = some ((id, 1), e_n Y (2 * cap) (fun j => if j < cap then fa j else 0)) := by rw [← hM22]; exact hp_kt f19 f18 (tg2 (by decide))
    have f25 : M21 qb = some ((id, 2), e_n Y (2 * cap) (fun j => if j < cap then fb j else 0)) := by rw [← hM22]; exact hp_kt f19 f16 (tg2 (by decide))
    have o26 : hp_off (fun i => i = id) M M21 := by rw [← hM22]; exact hp_off.tr o20 (hp_off.up f19 rfl)
    refine lv_aload_n hx hb dP_append_46 rfl (lv_at hl 0 rfl) ?_
    refine hp_get hx hb hG in_P hown hK hst f23 rfl 0 (by decide) (hG _ fl_P_9) rfl rfl dP_append_47 ?_
    refine lv_aload_n hx hb dP_append_50 rfl (lv_at hl 0 rfl) ?_
    refine hp_get hx hb hG in_P hown hK hst f23 rfl 2 (by decide) (hG _ fl_P_16) rfl rfl dP_append_51 ?_
    refine lv_iload_n hx hb dP_append_54 rfl (lv_at hl 1 rfl) ?_
    refine hp_iast hx hb hK rfl hst f24 (j := L.length) (v := mo) (by omega) (by omega) dP_append_55 (fun H locs hst => ?_)
    generalize hM28 : hp_up M21 qa ((id, 1), e_n Y (2 * cap) (va_up (fun j => if j < cap then fa j else 0) L.length mo)) = M27 at hst
    have f29 : M27 qa = some ((id, 1), e_n Y (2 * cap) (va_up (fun j => if j < cap then fa j else 0) L.length mo)) := by rw [← hM28]; exact hp_up_self _ _ _
    have f30 : M27 qb = some ((id, 2), e_n Y (2 * cap) (fun j => if j < cap then fb j else 0)) := by rw [← hM28]; exact hp_kt f24 f25 (tg2 (by decide))
    have f31 : M27 h = some ((id, 0), .inr (1, [.ref qa, .ref qb, .int (nI L.length)])) := by rw [← hM28]; exact hp_kt f24 f23 (tg2 (by decide))
    have o32 : hp_off (fun i => i = id) M M27 := by rw [← hM28]; exact hp_off.tr o26 (hp_off.up f24 rfl)
    refine lv_aload_n hx hb dP_append_56 rfl (lv_at hl 0 rfl) ?_
    refine hp_get hx hb hG in_P hown hK hst f31 rfl 1 (by decide) (hG _ fl_P_13) rfl rfl dP_append_57 ?_
    refine lv_aload_n hx hb dP_append_60 rfl (lv_at hl 0 rfl) ?_
    refine hp_get hx hb hG in_P hown hK hst f31 rfl 2 (by decide) (hG _ fl_P_16) rfl rfl dP_append_61 ?_
    refine lv_iload_n hx hb dP_append_64 rfl (lv_at hl 2 rfl) ?_
    refine hp_iast hx hb hK rfl hst f30 (j := L.length) (v := co) (by omega) (by omega) dP_append_65 (fun H locs hst => ?_)
    generalize hM34 : hp_up M27 qb ((id, 2), e_n Y (2 * cap) (va_up (fun j => if j < cap then fb j else 0) L.length co)) = M33 at hst
    have f35 : M33 qb = some ((id, 2), e_n Y (2 * cap) (va_up (fun j => if j < cap then fb j else 0) L.length co)) := by rw [← hM34]; exact hp_up_self _ _ _
    have f36 : M33 h = some ((id, 0), .inr (1, [.ref qa, .ref qb, .int (nI L.length)])) := by rw [← hM34]; exact hp_kt f30 f31 (tg2 (by decide))
    have f37 : M33 qa = some ((id, 1), e_n Y (2 * cap) (va_up (fun j => if j < cap then fa j else 0) L.length mo)) := by rw [← hM34]; exact hp_kt f30 f29 (tg2 (by decide))
    have o38 : hp_off (fun i => i = id) M M33 := by rw [← hM34]; exact hp_off.tr o32 (hp_off.up f30 rfl)
    refine lv_aload_n hx hb dP_append_66 rfl (lv_at hl 0 rfl) ?_
    refine lv_dup hx hb dP_append_67 rfl ?_
    refine hp_get hx hb hG in_P hown hK hst f36 rfl 2 (by decide) (hG _ fl_P_16) rfl rfl dP_append_68 ?_
    refine lv_iconst (v := nI 1) hx hb dP_append_71 (by decide +kernel) ?_
    refine t_iadd hx hb dP_append_72 (v := nI (L.length + 1)) (nI_add _ _) ?_
    refine hp_put hx hb hG in_P ty_P tyok_P nm_P hown hK hst f36 rfl 2 (by decide) (hG _ fl_P_16) rfl rfl rfl rfl (Nat.le_of_ble_eq_true rfl) dP_append_73 (fs' := [.ref qa, .ref qb, .int (nI (L.length + 1))]) rfl (fun H locs hst => ?_)
    generalize hM40 : hp_up M33 h ((id, 0), .inr (1, [.ref qa, .ref qb, .int (nI (L.length + 1))])) = M39 at hst
    have f41 : M39 h = some ((id, 0), .inr (1, [.ref qa, .ref qb, .int (nI (L.length + 1))])) := by rw [← hM40]; exact hp_up_self _ _ _
    have f42 : M39 qa = some ((id, 1), e_n Y (2 * cap) (va_up (fun j => if j < cap then fa j else 0) L.length mo)) := by rw [← hM40]; exact hp_kt f36 f37 (tg2 (by decide))
    have f43 : M39 qb = some ((id, 2), e_n Y (2 * cap) (va_up (fun j => if j < cap then fb j else 0) L.length co)) := by rw [← hM40]; exact hp_kt f36 f35 (tg2 (by decide))
    have o44 : hp_off (fun i => i = id) M M39 := by rw [← hM40]; exact hp_off.tr o38 (hp_off.up f36 rfl)
    have hlen : (L ++ [(mo, co)]).length = L.length + 1 := by rw [List.length_append]; rfl
    have hcont : ∀ (k : Nat) (q : Nat × Nat), (L ++ [(mo, co)])[k]? = some q → (va_up (fun j => if j < cap then fa j else 0) L.length mo) k = q.1 ∧ (va_up (fun j => if j < cap then fb j else 0) L.length co) k = q.2 := by
      intro k q hq
      by_cases hk : k < L.length
      · rw [List.getElem?_append_left hk] at hq
        rw [va_up_ne _ _ (by omega), va_up_ne _ _ (by omega)]
        obtain ⟨i1, i2⟩ := hL k q hq
        exact ⟨(by rw [if_pos (by omega)]; exact i1), (by rw [if_pos (by omega)]; exact i2)⟩
      · have hk2 : k < L.length + 1 := by
          have := (List.getElem?_eq_some_iff.mp hq).1
          omega
        have hk3 : k = L.length := by omega
        subst hk3
        rw [List.getElem?_append_right (Nat.le_refl _), Nat.sub_self] at hq
        cases hq
        exact ⟨va_up_self _ _ _, va_up_self _ _ _⟩
    exact ct_vret X hst ⟨rfl, ⟨qa, qb, _, _, (by rw [hlen]; exact f41), (by rw [hg]; exact f42), (by rw [hg]; exact f43), hcont, (by rw [hlen, hg]; omega), (by rw [hg]; omega), (by rw [hg]; omega)⟩, o44⟩ (by omega) (by omega) dP_append_76

set_option maxHeartbeats 4000000 in
set_option maxRecDepth 100000 in
theorem c_P_isZero (l : Launch) (D : va_G) (Y : Nat → ClassId) (lo : Nat) {M : Hm} {id h cap : Nat} {L : List (Nat × Nat)} (hp : po Y M id h cap L) : ct l D Y lo y_P_isZero b_P_isZero 1 (some .boolean) 0 [.ref h] M (fun r M' => ∃ b : Nat, r = some (.int (nI b)) ∧ b ≤ 1 ∧ (b = 1 ↔ L = []) ∧ M = M') nx 0 0 := by
  refine ct_of (by decide) (Nat.le_of_ble_eq_true rfl) ?_
  intro pg eg sg mg bw mt cg ls X hst hl
  have X1 := X
  obtain ⟨hx, hb, hml, hrt, hlocks, hown, hnm, hts, hkz, hex⟩ := X1
  have hG : ∀ w ∈ GW, w.before _ sg = true := fun w h => hts w (List.mem_cons_of_mem _ h)
  have hK := hkz.1
  have hl : lv_has ls 1 [(0, .ref h)] := hl
  obtain ⟨a, b, fa, fb, h0, h1, h2, hL, hn, hc1, hc2⟩ := hp
  refine lv_aload_n hx hb dP_isZero_0 rfl (lv_at hl 0 rfl) ?_
  refine hp_get hx hb hG in_P hown hK hst h0 rfl 2 (by decide) (hG _ fl_P_16) rfl rfl dP_isZero_1 ?_
  refine lv_if_ne hx hb dP_isZero_4 (tgt := 11) rfl (fun hc => ?_) (fun hc => ?_)
  · skip
    rw [← nI_0] at hc
    have hc : ¬ L.length = 0 := fun z => hc ((nI_eq (by omega) (by omega)).mpr z)
    refine lv_iconst (v := nI 0) hx hb dP_isZero_11 (by decide +kernel) ?_
    exact ct_zret X hst (by omega) ⟨0, rfl, by omega, iff_of_false (by omega) (fun z => by rw [z] at hc; exact hc rfl), rfl⟩ (by omega) (by omega) dP_isZero_12
  · skip
    rw [← nI_0] at hc
    have hc : L.length = 0 := (nI_eq (by omega) (by omega)).mp hc
    refine lv_iconst (v := nI 1) hx hb dP_isZero_7 (by decide +kernel) ?_
    refine lv_goto hx hb dP_isZero_8 (tgt := 12) rfl ?_
    exact ct_zret X hst (by omega) ⟨1, rfl, by omega, iff_of_true rfl (List.length_eq_zero_iff.mp hc), rfl⟩ (by omega) (by omega) dP_isZero_12

set_option maxHeartbeats 4000000 in
set_option maxRecDepth 100000 in
theorem c_P_degreeIn (l : Launch) (D : va_G) (Y : Nat → ClassId) (lo : Nat) {M : Hm} {id h cap : Nat} {L : List (Nat × Nat)} (hp : po Y M id h cap L) {v : Nat} (hv : v < 3) (hmo : ∀ q ∈ L, q.1 < 2 ^ 31) : ct l D Y lo y_P_degreeIn b_P_degreeIn 4 (some .int) 1 [.ref h, .int (nI v)] M (fun r M' => r = some (.int (nI (dgl v L 0))) ∧ M = M') nx 0 0 := by
  refine ct_of (by decide) (Nat.le_of_ble_eq_true rfl) ?_
  intro pg eg sg mg bw mt cg ls X hst hl
  have X1 := X
  obtain ⟨hx, hb, hml, hrt, hlocks, hown, hnm, hts, hkz, hex⟩ := X1
  have hG : ∀ w ∈ GW, w.before _ sg = true := fun w h => hts w (List.mem_cons_of_mem _ h)
  have hK := hkz.1
  have hl : lv_has ls 4 [(0, .ref h), (1, .int (nI v))] := hl
  obtain ⟨a, b, fa, fb, h0, h1, h2, hL, hn, hc1, hc2⟩ := hp
  refine lv_iconst (v := nI 0) hx hb dP_degreeIn_0 (by decide +kernel) ?_
  refine lv_istore_n (lv' := [(2, .int (nI 0)), (0, .ref h), (1, .int (nI v))]) hx hb dP_degreeIn_1 rfl hl (by decide) rfl (fun ls hl => ?_)
  refine lv_iconst (v := nI 0) hx hb dP_degreeIn_2 (by decide +kernel) ?_
  refine lv_istore_n (lv' := [(3, .int (nI 0)), (2, .int (nI 0)), (0, .ref h), (1, .int (nI v))]) hx hb dP_degreeIn_3 rfl hl (by decide) rfl (fun ls hl => ?_)
  have LP : ∀ (kk : Nat) (g i : Nat) (H : Heap) (locs : List Loc) (ls : Array Slot), kk = L.length - i → (g < 64) → (i ≤ L.length) → (dgl v (L.drop i) g = dgl v L 0) → hp_st D vC lo M sg.heap H locs → lv_has ls 4 [(0, .ref h), (1, .int (nI v)), (2, .int (nI g)), (3, .int (nI i))] → cW pg l eg sg mg [.ref h, .int (nI v)] bw mt cg y_P_degreeIn b_P_degreeIn 4 (some .int) 1 D lo (fun r M' => r = some (.int (nI (dgl v L 0))) ∧ M = M') nx 0 0 H locs 0 0 (F0 mg 4 ls []) := by
    intro kk
    induction kk using Nat.strongRecOn with
    | _ kk ih =>
    intro g i H locs ls hkk hg hi hinv hst hl
    refine lv_iload_n hx hb dP_degreeIn_4 rfl (lv_at hl 3 rfl) ?_
    refine lv_aload_n hx hb dP_degreeIn_5 rfl (lv_at hl 0 rfl) ?_
    refine hp_get hx hb hG in_P hown hK hst h0 rfl 2 (by decide) (hG _ fl_P_16) rfl rfl dP_degreeIn_6 ?_
    refine lv_icmp_ge hx hb dP_degreeIn_9 (tgt := 33) rfl (fun hc => ?_) (fun hc => ?_)
    · skip
      have hc : L.length ≤ i := (nI_leI (by omega) (by omega)).mp hc
      rw [List.drop_eq_nil_of_le (by omega)] at hinv
      have hinv : g = dgl v L 0 := hinv
      refine lv_iload_n hx hb dP_degreeIn_33 rfl (lv_at hl 2 rfl) ?_
      exact ct_iret X hst ⟨by rw [hinv], rfl⟩ (by omega) (by omega) dP_degreeIn_34
    · skip
      have hc : ¬ L.length ≤ i := fun z => hc ((nI_leI (by omega) (by omega)).mpr z)
      obtain ⟨q, hq1, hq2, hq3⟩ := dr_cons (L := L) (i := i) (by omega)
      obtain ⟨i1, i2⟩ := hL i q hq1
      have hm := hmo q hq2
      have hx9 := xe_lt q.1 v
      refine lv_iload_n hx hb dP_degreeIn_12 rfl (lv_at hl 2 rfl) ?_
      refine lv_aload_n hx hb dP_degreeIn_13 rfl (lv_at hl 0 rfl) ?_
      refine hp_get hx hb hG in_P hown hK hst h0 rfl 0 (by decide) (hG _ fl_P_9) rfl rfl dP_degreeIn_14 ?_
      refine lv_iload_n hx hb dP_degreeIn_17 rfl (lv_at hl 3 rfl) ?_
      refine hp_iald hx hb hK rfl hst h1 (j := i) (by omega) (by omega) dP_degreeIn_18 ?_
      refine tp_n (e2 := q.1) i1 ?_
      refine lv_iload_n hx hb dP_degreeIn_19 rfl (lv_at hl 1 rfl) ?_
      refine ct_callS (av2 := [.int (nI q.1), .int (nI v)]) (rest := [.int (nI g)]) X hst (c_Q_exponent l D Y lo (k := q.1) (v := v) (by omega) hv) wc_Q_exponent ml_P_35 ws_Q_exponent wn_Q md_Q_exponent (by decide) hl.1 rfl (Nat.le_of_ble_eq_true rfl) ⟨by omega, by omega⟩ (fun _ _ h => h.elim) dP_degreeIn_20 (fun r M' H locs hp hst => ?_)
      obtain ⟨rfl, rfl⟩ := hp
      refine va_mmax hx hb (by rw [hml]; exact hl.1.symm) hown (hG _ ml_P_39) (hG _ ws_Jm_max) (hG _ wn_Jm) (hG _ wc_Jm_max) (Nat.le_of_ble_eq_true rfl) (Nat.le_of_ble_eq_true rfl) (by show _ ≤ _; omega) (by show _ ≤ _; omega) dP_degreeIn_23 ?_
      refine tp_i (e2 := nI (max g (xe q.1 v))) (mx9 (by omega) (by omega)) ?_
      refine lv_istore_n (lv' := [(2, .int (nI (max g (xe q.1 v)))), (0, .ref h), (1, .int (nI v)), (3, .int (nI i))]) hx hb dP_degreeIn_26 rfl hl (by decide) rfl (fun ls hl => ?_)
      refine lv_iinc (lv' := [(3, .int (nI (i + 1))), (2, .int (nI (max g (xe q.1 v)))), (0, .ref h), (1, .int (nI v))]) hx hb dP_degreeIn_27 hl (k := 3) rfl (ii_p _) (by decide) rfl (fun ls hl => ?_)
      refine lv_goto hx hb dP_degreeIn_30 (tgt := 4) rfl ?_
      exact ih _ (by omega) (max g (xe q.1 v)) (i + 1) _ _ _ rfl (by omega) (by omega) (by rw [hq3] at hinv; exact hinv) hst (lv_sub hl [2, 3, 1, 0] rfl)
  exact LP _ 0 0 _ _ _ rfl (by omega) (by omega) rfl hst (lv_sub hl [2, 3, 1, 0] rfl)

set_option maxHeartbeats 4000000 in
set_option maxRecDepth 100000 in
theorem c_P_coefficientOf (l : Launch) (D : va_G) (Y : Nat → ClassId) (lo : Nat) {M : Hm} {id h cap : Nat} {L : List (Nat × Nat)} (hp : po Y M id h cap L) {k9 : Nat} (hk9 : k9 < 2 ^ 31) (hmo : ∀ q ∈ L, q.1 < 2 ^ 31) : ct l D Y lo y_P_coefficientOf b_P_coefficientOf 3 (some .int) 0 [.ref h, .int (nI k9)] M (fun r M' => r = some (.int (nI (cfo k9 L))) ∧ M = M') nx 0 0 := by
  refine ct_of (by decide) (Nat.le_of_ble_eq_true rfl) ?_
  intro pg eg sg mg bw mt cg ls X hst hl
  have X1 := X
  obtain ⟨hx, hb, hml, hrt, hlocks, hown, hnm, hts, hkz, hex⟩ := X1
  have hG : ∀ w ∈ GW, w.before _ sg = true := fun w h => hts w (List.mem_cons_of_mem _ h)
  have hK := hkz.1
  have hl : lv_has ls 3 [(0, .ref h), (1, .int (nI k9))] := hl
  obtain ⟨a, b, fa, fb, h0, h1, h2, hL, hn, hc1, hc2⟩ := hp
  refine lv_iconst (v := nI 0) hx hb dP_coefficientOf_0 (by decide +kernel) ?_
  refine lv_istore_n (lv' := [(2, .int (nI 0)), (0, .ref h), (1, .int (nI k9))]) hx hb dP_coefficientOf_1 rfl hl (by decide) rfl (fun ls hl => ?_)
  have LP : ∀ (kk : Nat) (i : Nat) (H : Heap) (locs : List Loc) (ls : Array Slot), kk = L.length - i → (i ≤ L.length) → (cfo k9 (L.drop i) = cfo k9 L) → hp_st D vC lo M sg.heap H locs → lv_has ls 3 [(0, .ref h), (1, .int (nI k9)), (2, .int (nI i))] → cW pg l eg sg mg [.ref h, .int (nI k9)] bw mt cg y_P_coefficientOf b_P_coefficientOf 3 (some .int) 0 D lo (fun r M' => r = some (.int (nI (cfo k9 L))) ∧ M = M') nx 0 0 H locs 0 0 (F0 mg 2 ls []) := by
    intro kk
    induction kk using Nat.strongRecOn with
    | _ kk ih =>
    intro i H locs ls hkk hi hinv hst hl
    refine lv_iload_n hx hb dP_coefficientOf_2 rfl (lv_at hl 2 rfl) ?_
    refine lv_aload_n hx hb dP_coefficientOf_3 rfl (lv_at hl 0 rfl) ?_
    refine hp_get hx hb hG in_P hown hK hst h0 rfl 2 (by decide) (hG _ fl_P_16) rfl rfl dP_coefficientOf_4 ?_
    refine lv_icmp_ge hx hb dP_coefficientOf_7 (tgt := 33) rfl (fun hc => ?_) (fun hc => ?_)
    · skip
      have hc : L.length ≤ i := (nI_leI (by omega) (by omega)).mp hc
      rw [List.drop_eq_nil_of_le (by omega)] at hinv
      have hinv : 0 = cfo k9 L := hinv
      refine lv_iconst (v := nI 0) hx hb dP_coefficientOf_33 (by decide +kernel) ?_
      exact ct_iret X hst ⟨by rw [← hinv], rfl⟩ (by omega) (by omega) dP_coefficientOf_34
    · skip
      have hc : ¬ L.length ≤ i := fun z => hc ((nI_leI (by omega) (by omega)).mpr z)
      obtain ⟨q, hq1, hq2, hq3⟩ := dr_cons (L := L) (i := i) (by omega)
      obtain ⟨i1, i2⟩ := hL i q hq1
      have hm := hmo q hq2
      refine lv_aload_n hx hb dP_coefficientOf_10 rfl (lv_at hl 0 rfl) ?_
      refine hp_get hx hb hG in_P hown hK hst h0 rfl 0 (by decide) (hG _ fl_P_9) rfl rfl dP_coefficientOf_11 ?_
      refine lv_iload_n hx hb dP_coefficientOf_14 rfl (lv_at hl 2 rfl) ?_
      refine hp_iald hx hb hK rfl hst h1 (j := i) (by omega) (by omega) dP_coefficientOf_15 ?_
      refine tp_n (e2 := q.1) i1 ?_
      refine lv_iload_n hx hb dP_coefficientOf_16 rfl (lv_at hl 1 rfl) ?_
      refine lv_icmp_ne hx hb dP_coefficientOf_17 (tgt := 27) rfl (fun hc => ?_) (fun hc => ?_)
      · skip
        have hc3 : ¬ q.1 = k9 := fun z => hc ((nI_eq (by omega) (by omega)).mpr z)
        refine lv_iinc (lv' := [(2, .int (nI (i + 1))), (0, .ref h), (1, .int (nI k9))]) hx hb dP_coefficientOf_27 hl (k := 2) rfl (ii_p _) (by decide) rfl (fun ls hl => ?_)
        refine lv_goto hx hb dP_coefficientOf_30 (tgt := 2) rfl ?_
        exact ih _ (by omega) (i + 1) _ _ _ rfl (by omega) (by
            rw [hq3] at hinv
            have h9 : (if q.1 = k9 then q.2 else cfo k9 (L.drop (i + 1))) = cfo k9 L := hinv
            rwa [if_neg hc3] at h9) hst (lv_sub hl [1, 2, 0] rfl)
      · skip
        have hc3 : q.1 = k9 := (nI_eq (by omega) (by omega)).mp hc
        refine lv_aload_n hx hb dP_coefficientOf_20 rfl (lv_at hl 0 rfl) ?_
        refine hp_get hx hb hG in_P hown hK hst h0 rfl 1 (by decide) (hG _ fl_P_13) rfl rfl dP_coefficientOf_21 ?_
        refine lv_iload_n hx hb dP_coefficientOf_24 rfl (lv_at hl 2 rfl) ?_
        refine hp_iald hx hb hK rfl hst h2 (j := i) (by omega) (by omega) dP_coefficientOf_25 ?_
        refine tp_n (e2 := q.2) i2 ?_
        exact ct_iret X hst ⟨by
          rw [hq3] at hinv
          have h9 : (if q.1 = k9 then q.2 else cfo k9 (L.drop (i + 1))) = cfo k9 L := hinv
          rw [if_pos hc3] at h9
          rw [h9], rfl⟩ (by omega) (by omega) dP_coefficientOf_26
  exact LP _ 0 _ _ _ rfl (by omega) rfl hst (lv_sub hl [1, 2, 0] rfl)

set_option maxHeartbeats 4000000 in
set_option maxRecDepth 100000 in
theorem c_P_matches (l : Launch) (D : va_G) (Y : Nat → ClassId) (lo : Nat) {M : Hm} {id h cap : Nat} {L : List (Nat × Nat)} (hp : po Y M id h cap L) {id2 ha2 cap2 : Nat} {L2 : List (Nat × Nat)} (hp2 : po Y M id2 ha2 cap2 L2) (hmo : ∀ q ∈ L, q.1 < 2 ^ 31 ∧ q.2 < 2 ^ 31) (hmo2 : ∀ q ∈ L2, q.1 < 2 ^ 31 ∧ q.2 < 2 ^ 31) : ct l D Y lo y_P_matches b_P_matches 3 (some .boolean) 0 [.ref h, .ref ha2] M (fun r M' => ∃ b : Nat, r = some (.int (nI b)) ∧ b ≤ 1 ∧ (b = 1 ↔ L = L2) ∧ M = M') nx 0 0 := by
  refine ct_of (by decide) (Nat.le_of_ble_eq_true rfl) ?_
  intro pg eg sg mg bw mt cg ls X hst hl
  have X1 := X
  obtain ⟨hx, hb, hml, hrt, hlocks, hown, hnm, hts, hkz, hex⟩ := X1
  have hG : ∀ w ∈ GW, w.before _ sg = true := fun w h => hts w (List.mem_cons_of_mem _ h)
  have hK := hkz.1
  have hl : lv_has ls 3 [(0, .ref h), (1, .ref ha2)] := hl
  obtain ⟨a, b, fa, fb, h0, h1, h2, hL, hn, hc1, hc2⟩ := hp
  obtain ⟨a2, b2, fa2, fb2, h02, h12, h22, hL2, hn2, hc12, hc22⟩ := hp2
  refine lv_aload_n hx hb dP_matches_0 rfl (lv_at hl 0 rfl) ?_
  refine hp_get hx hb hG in_P hown hK hst h0 rfl 2 (by decide) (hG _ fl_P_16) rfl rfl dP_matches_1 ?_
  refine lv_aload_n hx hb dP_matches_4 rfl (lv_at hl 1 rfl) ?_
  refine hp_get hx hb hG in_P hown hK hst h02 rfl 2 (by decide) (hG _ fl_P_16) rfl rfl dP_matches_5 ?_
  refine lv_icmp_eq hx hb dP_matches_8 (tgt := 13) rfl (fun hc => ?_) (fun hc => ?_)
  · skip
    have hc : L.length = L2.length := (nI_eq (by omega) (by omega)).mp hc
    refine lv_iconst (v := nI 0) hx hb dP_matches_13 (by decide +kernel) ?_
    refine lv_istore_n (lv' := [(2, .int (nI 0)), (0, .ref h), (1, .ref ha2)]) hx hb dP_matches_14 rfl hl (by decide) rfl (fun ls hl => ?_)
    have LP : ∀ (kk : Nat) (i : Nat) (H : Heap) (locs : List Loc) (ls : Array Slot), kk = L.length - i → (i ≤ L.length) → (L.drop i = L2.drop i ↔ L = L2) → hp_st D vC lo M sg.heap H locs → lv_has ls 3 [(0, .ref h), (1, .ref ha2), (2, .int (nI i))] → cW pg l eg sg mg [.ref h, .ref ha2] bw mt cg y_P_matches b_P_matches 3 (some .boolean) 0 D lo (fun r M' => ∃ b : Nat, r = some (.int (nI b)) ∧ b ≤ 1 ∧ (b = 1 ↔ L = L2) ∧ M = M') nx 0 0 H locs 0 0 (F0 mg 15 ls []) := by
      intro kk
      induction kk using Nat.strongRecOn with
      | _ kk ih =>
      intro i H locs ls hkk hi hinv hst hl
      refine lv_iload_n hx hb dP_matches_15 rfl (lv_at hl 2 rfl) ?_
      refine lv_aload_n hx hb dP_matches_16 rfl (lv_at hl 0 rfl) ?_
      refine hp_get hx hb hG in_P hown hK hst h0 rfl 2 (by decide) (hG _ fl_P_16) rfl rfl dP_matches_17 ?_
      refine lv_icmp_ge hx hb dP_matches_20 (tgt := 61) rfl (fun hc => ?_) (fun hc => ?_)
      · skip
        have hc : L.length ≤ i := (nI_leI (by omega) (by omega)).mp hc
        have he : L = L2 := hinv.mp (by rw [List.drop_eq_nil_of_le (by omega), List.drop_eq_nil_of_le (by omega)])
        refine lv_iconst (v := nI 1) hx hb dP_matches_61 (by decide +kernel) ?_
        exact ct_zret X hst (by omega) ⟨1, rfl, by omega, iff_of_true rfl he, rfl⟩ (by omega) (by omega) dP_matches_62
      · skip
        have hc : ¬ L.length ≤ i := fun z => hc ((nI_leI (by omega) (by omega)).mpr z)
        obtain ⟨q, hq1, hq2, hq3⟩ := dr_cons (L := L) (i := i) (by omega)
        obtain ⟨i1, i2⟩ := hL i q hq1
        obtain ⟨q2, hq12, hq22, hq32⟩ := dr_cons (L := L2) (i := i) (by omega)
        obtain ⟨i12, i22⟩ := hL2 i q2 hq12
        have hm := hmo q hq2
        have hm2 := hmo2 q2 hq22
        rw [hq3, hq32] at hinv
        refine lv_aload_n hx hb dP_matches_23 rfl (lv_at hl 0 rfl) ?_
        refine hp_get hx hb hG in_P hown hK hst h0 rfl 0 (by decide) (hG _ fl_P_9) rfl rfl dP_matches_24 ?_
        refine lv_iload_n hx hb dP_matches_27 rfl (lv_at hl 2 rfl) ?_
        refine hp_iald hx hb hK rfl hst h1 (j := i) (by omega) (by omega) dP_matches_28 ?_
        refine tp_n (e2 := q.1) i1 ?_
        refine lv_aload_n hx hb dP_matches_29 rfl (lv_at hl 1 rfl) ?_
        refine hp_get hx hb hG in_P hown hK hst h02 rfl 0 (by decide) (hG _ fl_P_9) rfl rfl dP_matches_30 ?_
        refine lv_iload_n hx hb dP_matches_33 rfl (lv_at hl 2 rfl) ?_
        refine hp_iald hx hb hK rfl hst h12 (j := i) (by omega) (by omega) dP_matches_34 ?_
        refine tp_n (e2 := q2.1) i12 ?_
        refine lv_icmp_ne hx hb dP_matches_35 (tgt := 53) rfl (fun hc => ?_) (fun hc => ?_)
        · skip
          have hc4 : ¬ q.1 = q2.1 := fun z => hc ((nI_eq (by omega) (by omega)).mpr z)
          refine lv_iconst (v := nI 0) hx hb dP_matches_53 (by decide +kernel) ?_
          exact ct_zret X hst (by omega) ⟨0, rfl, by omega, iff_of_false (by omega) (fun z => hc4 (by have h9 := hinv.mpr z; injection h9 with h9 _; rw [h9])), rfl⟩ (by omega) (by omega) dP_matches_54
        · skip
          have hc4 : q.1 = q2.1 := (nI_eq (by omega) (by omega)).mp hc
          refine lv_aload_n hx hb dP_matches_38 rfl (lv_at hl 0 rfl) ?_
          refine hp_get hx hb hG in_P hown hK hst h0 rfl 1 (by decide) (hG _ fl_P_13) rfl rfl dP_matches_39 ?_
          refine lv_iload_n hx hb dP_matches_42 rfl (lv_at hl 2 rfl) ?_
          refine hp_iald hx hb hK rfl hst h2 (j := i) (by omega) (by omega) dP_matches_43 ?_
          refine tp_n (e2 := q.2) i2 ?_
          refine lv_aload_n hx hb dP_matches_44 rfl (lv_at hl 1 rfl) ?_
          refine hp_get hx hb hG in_P hown hK hst h02 rfl 1 (by decide) (hG _ fl_P_13) rfl rfl dP_matches_45 ?_
          refine lv_iload_n hx hb dP_matches_48 rfl (lv_at hl 2 rfl) ?_
          refine hp_iald hx hb hK rfl hst h22 (j := i) (by omega) (by omega) dP_matches_49 ?_
          refine tp_n (e2 := q2.2) i22 ?_
          refine lv_icmp_eq hx hb dP_matches_50 (tgt := 55) rfl (fun hc => ?_) (fun hc => ?_)
          · skip
            have hc5 : q.2 = q2.2 := (nI_eq (by omega) (by omega)).mp hc
            refine lv_iinc (lv' := [(2, .int (nI (i + 1))), (0, .ref h), (1, .ref ha2)]) hx hb dP_matches_55 hl (k := 2) rfl (ii_p _) (by decide) rfl (fun ls hl => ?_)
            refine lv_goto hx hb dP_matches_58 (tgt := 15) rfl ?_
            exact ih _ (by omega) (i + 1) _ _ _ rfl (by omega) (by
                have hqq : q = q2 := Prod.ext hc4 hc5
                rw [← hinv, hqq]
                exact ⟨fun z => by rw [z], fun z => by injection z⟩) hst (lv_sub hl [1, 2, 0] rfl)
          · skip
            have hc5 : ¬ q.2 = q2.2 := fun z => hc ((nI_eq (by omega) (by omega)).mpr z)
            refine lv_iconst (v := nI 0) hx hb dP_matches_53 (by decide +kernel) ?_
            exact ct_zret X hst (by omega) ⟨0, rfl, by omega, iff_of_false (by omega) (fun z => hc5 (by have h9 := hinv.mpr z; injection h9 with h9 _; rw [h9])), rfl⟩ (by omega) (by omega) dP_matches_54
    exact LP _ 0 _ _ _ rfl (by omega) Iff.rfl hst (lv_sub hl [1, 2, 0] rfl)
  · skip
    have hc : ¬ L.length = L2.length := fun z => hc ((nI_eq (by omega) (by omega)).mpr z)
    refine lv_iconst (v := nI 0) hx hb dP_matches_11 (by decide +kernel) ?_
    exact ct_zret X hst (by omega) ⟨0, rfl, by omega, iff_of_false (by omega) (fun z => hc (by rw [z])), rfl⟩ (by omega) (by omega) dP_matches_12

set_option maxHeartbeats 4000000 in
set_option maxRecDepth 100000 in
theorem c_P_becomeNumber (l : Launch) (D : va_G) (Y : Nat → ClassId) (lo : Nat) {M : Hm} {id h cap : Nat} {L : List (Nat × Nat)} (hp : po Y M id h cap L) {x : Nat} (hx9 : x < 2 ^ 31) (hcap : cap ≤ 32768) : ct l D Y lo y_P_becomeNumber b_P_becomeNumber 2 none 3 [.ref h, .int (nI x)] M (fun r M' => r = none ∧ po Y M' id h cap (if x = 0 then [] else [(0, x)]) ∧ hp_off (fun i => i = id) M M') nx 0 0 := by
  refine ct_of (by decide) (Nat.le_of_ble_eq_true rfl) ?_
  intro pg eg sg mg bw mt cg ls X hst hl
  have X1 := X
  obtain ⟨hx, hb, hml, hrt, hlocks, hown, hnm, hts, hkz, hex⟩ := X1
  have hG : ∀ w ∈ GW, w.before _ sg = true := fun w h => hts w (List.mem_cons_of_mem _ h)
  have hK := hkz.1
  have hl : lv_has ls 2 [(0, .ref h), (1, .int (nI x))] := hl
  refine lv_aload_n hx hb dP_becomeNumber_0 rfl (lv_at hl 0 rfl) ?_
  obtain ⟨fs0, hcell⟩ := hp.cell
  refine ct_callV (av2 := []) (rest := []) (b := h) X hst (c_P_clear l D Y lo hp) hcell rfl wc_P_clear ml_P_26 wi_P_clear wl_P_clear wn_P md_P_clear (by decide) hl.1 rfl (Nat.le_of_ble_eq_true rfl) ⟨by omega, by omega⟩ (fun _ _ h => h.elim) dP_becomeNumber_1 (fun r M' H locs hp hst => ?_)
  obtain ⟨rfl, hp1, ho1⟩ := hp
  refine lv_iload_n hx hb dP_becomeNumber_4 rfl (lv_at hl 1 rfl) ?_
  refine lv_if_eq hx hb dP_becomeNumber_5 (tgt := 14) rfl (fun hc => ?_) (fun hc => ?_)
  · skip
    rw [← nI_0] at hc
    have hc : x = 0 := (nI_eq (by omega) (by omega)).mp hc
    exact ct_vret X hst ⟨rfl, (by subst hc; exact hp1), ho1⟩ (by omega) (by omega) dP_becomeNumber_14
  · skip
    rw [← nI_0] at hc
    have hc : ¬ x = 0 := fun z => hc ((nI_eq (by omega) (by omega)).mpr z)
    refine lv_aload_n hx hb dP_becomeNumber_8 rfl (lv_at hl 0 rfl) ?_
    refine lv_iconst (v := nI 0) hx hb dP_becomeNumber_9 (by decide +kernel) ?_
    refine lv_iload_n hx hb dP_becomeNumber_10 rfl (lv_at hl 1 rfl) ?_
    obtain ⟨fs1, hcell1⟩ := hp1.cell
    have hcp : 16 ≤ cap := by obtain ⟨_, _, _, _, _, _, _, _, _, h9, _⟩ := hp; exact h9
    have hg0 : gc1 ([] : List (Nat × Nat)).length cap = cap := if_neg (by show ¬ 0 = cap; omega)
    refine ct_callV (av2 := [.int (nI 0), .int (nI x)]) (rest := []) (b := h) X hst (c_P_append l D Y lo hp1 (mo := 0) (co := x) hcap) hcell1 rfl wc_P_append ml_P_31 wi_P_append wl_P_append wn_P md_P_append (by decide) hl.1 rfl (Nat.le_of_ble_eq_true rfl) ⟨by omega, by omega⟩ (fun _ _ h => h.elim) dP_becomeNumber_11 (fun r M' H locs hp hst => ?_)
    obtain ⟨rfl, hp2, ho2⟩ := hp
    rw [hg0] at hp2
    exact ct_vret X hst ⟨rfl, (by rw [if_neg hc]; exact hp2), ho1.tr ho2⟩ (by omega) (by omega) dP_becomeNumber_14
end
section
/-! The sheet: sh says that its cells hold the function c on packed monomials. -/
def frk (i : Nat) : Nat := if i % 64 ≤ i / 64 ∧ i / 64 ≤ 36 then T3 (i / 64) + R2 (i / 64) (i % 64) else 0
theorem rk_frk {m : Nat} (h : mv m) : rk m = frk (m / 4096) + xe m 1 := by
  obtain ⟨a, b, c, h1, rfl⟩ := mv_of h
  have h2 : mp a b c / 4096 = (a + b + c) * 64 + a := by unfold mp; omega
  rw [rk_mp (by omega), h2, mp_x1 (by omega)]
  unfold frk
  have h3 : ((a + b + c) * 64 + a) / 64 = a + b + c := by omega
  have h4 : ((a + b + c) * 64 + a) % 64 = a := by omega
  rw [h3, h4, if_pos (by omega)]
theorem frk_lt {m : Nat} (h : mv m) : frk (m / 4096) < 9139 := by
  have h1 := rk_lt h
  rw [rk_frk h] at h1
  omega
theorem md_lt {m : Nat} (h : mv m) : m / 4096 < 2368 := by
  obtain ⟨a, b, c, h1, rfl⟩ := mv_of h
  unfold mp
  omega
def sh (Y : Nat → ClassId) (M : Hm) (sa fa : Nat) (c : Pf) : Prop :=
  ∃ (ma fr ca e : Nat) (g : Nat → Nat), M sa = some ((2, 0), .inr (3, [.ref fa, .ref ma, .ref fr, .ref ca, .int (nI e)])) ∧ M ma = some ((2, 1), e_n Y 9139 ur) ∧ M fr = some ((2, 2), e_n Y 2368 frk) ∧ M ca = some ((2, 3), e_n Y 9139 g) ∧
    (∀ r, r < 9139 → g r = c (ur r)) ∧ e ≤ 9139 ∧ ∀ r, e ≤ r → r < 9139 → c (ur r) = 0
theorem sh.off {Y : Nat → ClassId} {M M' : Hm} {sa fa : Nat} {c : Pf} {S : Nat → Prop} (h : sh Y M sa fa c) (ho : hp_off S M M') (hS : ¬ S 2) : sh Y M' sa fa c := by
  obtain ⟨ma, fr, ca, e, g, h0, h1, h2, h3, h4⟩ := h
  exact ⟨ma, fr, ca, e, g, ho.of h0 hS, ho.of h1 hS, ho.of h2 hS, ho.of h3 hS, h4⟩
theorem sh.cell {Y : Nat → ClassId} {M : Hm} {sa fa : Nat} {c : Pf} (h : sh Y M sa fa c) : ∃ fs : List Value, M sa = some ((2, 0), .inr (3, fs)) := by
  obtain ⟨ma, fr, ca, e, g, h0, -⟩ := h
  exact ⟨_, h0⟩
theorem sh.congr {Y : Nat → ClassId} {M : Hm} {sa fa : Nat} {c c' : Pf} (h : sh Y M sa fa c) (he : ∀ r, r < 9139 → c (ur r) = c' (ur r)) : sh Y M sa fa c' := by
  obtain ⟨ma, fr, ca, e, g, h0, h1, h2, h3, h4, h5, h6⟩ := h
  exact ⟨ma, fr, ca, e, g, h0, h1, h2, h3, fun r hr => (h4 r hr).trans (he r hr), h5, fun r h7 h8 => by rw [← he r h8]; exact h6 r h7 h8⟩
theorem fd.off {M M' : Hm} {fa p : Nat} {S : Nat → Prop} (h : fd M fa p) (ho : hp_off S M M') (hS : ¬ S 1) : fd M' fa p := ⟨ho.of h.1 hS, h.2⟩

set_option maxHeartbeats 4000000 in
set_option maxRecDepth 100000 in
theorem c_S_rankOf (l : Launch) (D : va_G) (Y : Nat → ClassId) (lo : Nat) {M : Hm} {sa fa : Nat} {c : Pf} (hs : sh Y M sa fa c) {k : Nat} (hm : mv k) : ct l D Y lo y_S_rankOf b_S_rankOf 2 (some .int) 1 [.ref sa, .int (nI k)] M (fun r M' => r = some (.int (nI (rk k))) ∧ M = M') nx 0 0 := by
  refine ct_of (by decide) (Nat.le_of_ble_eq_true rfl) ?_
  intro pg eg sg mg bw mt cg ls X hst hl
  have X1 := X
  obtain ⟨hx, hb, hml, hrt, hlocks, hown, hnm, hts, hkz, hex⟩ := X1
  have hG : ∀ w ∈ GW, w.before _ sg = true := fun w h => hts w (List.mem_cons_of_mem _ h)
  have hK := hkz.1
  have hl : lv_has ls 2 [(0, .ref sa), (1, .int (nI k))] := hl
  obtain ⟨ma, fr, ca, en, g, s0, s1, s2, s3, hg, hen, hz⟩ := hs
  have hm1 := mv_lt hm
  have hm2 := md_lt hm
  have hm3 := frk_lt hm
  have hm4 := xe_lt k 1
  refine lv_aload_n hx hb dS_rankOf_0 rfl (lv_at hl 0 rfl) ?_
  refine hp_get hx hb hG in_S hown hK hst s0 rfl 2 (by decide) (hG _ fl_S_15) rfl rfl dS_rankOf_1 ?_
  refine lv_iload_n hx hb dS_rankOf_4 rfl (lv_at hl 1 rfl) ?_
  refine ct_callS (av2 := [.int (nI k)]) (rest := [.ref fr]) X hst (c_Q_sumAndFirst l D Y lo (k := k) (by omega)) wc_Q_sumAndFirst ml_S_29 ws_Q_sumAndFirst wn_Q md_Q_sumAndFirst (by decide) hl.1 rfl (Nat.le_of_ble_eq_true rfl) ⟨by omega, by omega⟩ (fun _ _ h => h.elim) dS_rankOf_5 (fun r M' H locs hp hst => ?_)
  obtain ⟨rfl, rfl⟩ := hp
  refine hp_iald hx hb hK rfl hst s2 (j := (k / 4096)) (by omega) (by omega) dS_rankOf_8 ?_
  refine lv_iload_n hx hb dS_rankOf_9 rfl (lv_at hl 1 rfl) ?_
  refine lv_iconst (v := nI 1) hx hb dS_rankOf_10 (by decide +kernel) ?_
  refine ct_callS (av2 := [.int (nI k), .int (nI 1)]) (rest := [.int (nI (frk (k / 4096)))]) X hst (c_Q_exponent l D Y lo (k := k) (v := 1) (by omega) (by omega)) wc_Q_exponent ml_S_33 ws_Q_exponent wn_Q md_Q_exponent (by decide) hl.1 rfl (Nat.le_of_ble_eq_true rfl) ⟨by omega, by omega⟩ (fun _ _ h => h.elim) dS_rankOf_11 (fun r M' H locs hp hst => ?_)
  obtain ⟨rfl, rfl⟩ := hp
  refine t_iadd hx hb dS_rankOf_14 (v := nI ((frk (k / 4096)) + (xe k 1))) (nI_add _ _) ?_
  exact ct_iret X hst ⟨by rw [rk_frk hm], rfl⟩ (by omega) (by omega) dS_rankOf_15

set_option maxHeartbeats 4000000 in
set_option maxRecDepth 100000 in
theorem c_S_addTerm (l : Launch) (D : va_G) (Y : Nat → ClassId) (lo : Nat) {M : Hm} {sa fa p : Nat} {c : Pf} (hs : sh Y M sa fa c) (hf : fd M fa p) (hcp : ∀ m, c m < p) {k f x : Nat} (hm : mv k) (hfp : f < p) (hxp : x < p) : ct l D Y lo y_S_addTerm b_S_addTerm 5 none 2 [.ref sa, .int (nI k), .int (nI f), .int (nI x)] M (fun r M' => r = none ∧ sh Y M' sa fa (va_up c k ((c k + f * x) % p)) ∧ hp_off (fun i => i = 2) M M') nx 0 0 := by
  refine ct_of (by decide) (Nat.le_of_ble_eq_true rfl) ?_
  intro pg eg sg mg bw mt cg ls X hst hl
  have X1 := X
  obtain ⟨hx, hb, hml, hrt, hlocks, hown, hnm, hts, hkz, hex⟩ := X1
  have hG : ∀ w ∈ GW, w.before _ sg = true := fun w h => hts w (List.mem_cons_of_mem _ h)
  have hK := hkz.1
  have hl : lv_has ls 5 [(0, .ref sa), (1, .int (nI k)), (2, .int (nI f)), (3, .int (nI x))] := hl
  have hs0 := hs
  have hrk := rk_lt hm
  have hur := ur_rk hm
  have hf9 := hf
  obtain ⟨ma, fr, ca, en, g, s0, s1, s2, s3, hg, hen, hz⟩ := hs
  obtain ⟨f0, hp2, hp3⟩ := hf9
  have hgk : g (rk k) = c (k) := by rw [hg _ hrk, hur]
  refine lv_aload_n hx hb dS_addTerm_0 rfl (lv_at hl 0 rfl) ?_
  refine lv_iload_n hx hb dS_addTerm_1 rfl (lv_at hl 1 rfl) ?_
  refine ct_callV (av2 := [.int (nI k)]) (rest := []) (b := sa) X hst (c_S_rankOf l D Y lo hs0 hm) s0 rfl wc_S_rankOf ml_S_37 wi_S_rankOf wl_S_rankOf wn_S md_S_rankOf (by decide) hl.1 rfl (Nat.le_of_ble_eq_true rfl) ⟨by omega, by omega⟩ (fun _ _ h => h.elim) dS_addTerm_2 (fun r M' H locs hp hst => ?_)
  obtain ⟨rfl, rfl⟩ := hp
  refine lv_istore (lv' := [(4, .int (nI (rk k))), (0, .ref sa), (1, .int (nI k)), (2, .int (nI f)), (3, .int (nI x))]) hx hb dS_addTerm_5 hl (by decide) rfl (fun ls hl => ?_)
  refine lv_aload_n hx hb dS_addTerm_7 rfl (lv_at hl 1 rfl) ?_
  refine hp_get hx hb hG in_S hown hK hst s0 rfl 3 (by decide) (hG _ fl_S_18) rfl rfl dS_addTerm_8 ?_
  refine lv_iload hx hb dS_addTerm_11 (lv_at hl 0 rfl) ?_
  refine lv_aload_n hx hb dS_addTerm_13 rfl (lv_at hl 1 rfl) ?_
  refine hp_get hx hb hG in_S hown hK hst s0 rfl 0 (by decide) (hG _ fl_S_21) rfl rfl dS_addTerm_14 ?_
  refine lv_aload_n hx hb dS_addTerm_17 rfl (lv_at hl 1 rfl) ?_
  refine hp_get hx hb hG in_S hown hK hst s0 rfl 3 (by decide) (hG _ fl_S_18) rfl rfl dS_addTerm_18 ?_
  refine lv_iload hx hb dS_addTerm_21 (lv_at hl 0 rfl) ?_
  refine hp_iald hx hb hK rfl hst s3 (j := (rk k)) (by omega) (by omega) dS_addTerm_23 ?_
  refine tp_n (e2 := c k) hgk ?_
  refine lv_iload_n hx hb dS_addTerm_24 rfl (lv_at hl 3 rfl) ?_
  refine lv_iload_n hx hb dS_addTerm_25 rfl (lv_at hl 4 rfl) ?_
  refine ct_callV (av2 := [.int (nI (c k)), .int (nI f), .int (nI x)]) (rest := [.int (nI (rk k)), .ref ca]) (b := fa) X hst (c_F_sumWithProduct l D Y lo hf (hcp k) hfp hxp) f0 rfl wc_F_sumWithProduct ml_S_40 wi_F_sumWithProduct wl_F_sumWithProduct wn_F md_F_sumWithProduct (by decide) hl.1 rfl (Nat.le_of_ble_eq_true rfl) ⟨by omega, by omega⟩ (fun _ _ h => h.elim) dS_addTerm_26 (fun r M' H locs hp hst => ?_)
  obtain ⟨rfl, rfl⟩ := hp
  refine hp_iast hx hb hK rfl hst s3 (j := (rk k)) (v := ((c k + f * x) % p)) (by omega) (by omega) dS_addTerm_29 (fun H locs hst => ?_)
  generalize hM2 : hp_up M ca ((2, 3), e_n Y 9139 (va_up g (rk k) ((c k + f * x) % p))) = M1 at hst
  have f3 : M1 ca = some ((2, 3), e_n Y 9139 (va_up g (rk k) ((c k + f * x) % p))) := by rw [← hM2]; exact hp_up_self _ _ _
  have f4 : M1 sa = some ((2, 0), .inr (3, [.ref fa, .ref ma, .ref fr, .ref ca, .int (nI en)])) := by rw [← hM2]; exact hp_kt s3 s0 (tg2 (by decide))
  have f5 : M1 ma = some ((2, 1), e_n Y 9139 ur) := by rw [← hM2]; exact hp_kt s3 s1 (tg2 (by decide))
  have f6 : M1 fr = some ((2, 2), e_n Y 2368 frk) := by rw [← hM2]; exact hp_kt s3 s2 (tg2 (by decide))
  have f7 : M1 fa = some ((1, 0), .inr (0, [.int (nI p)])) := by rw [← hM2]; exact hp_kt s3 f0 (tg2 (by decide))
  have o8 : hp_off (fun i => i = 2) M M1 := by rw [← hM2]; exact hp_off.up s3 rfl
  refine lv_aload_n hx hb dS_addTerm_30 rfl (lv_at hl 1 rfl) ?_
  refine lv_aload_n hx hb dS_addTerm_31 rfl (lv_at hl 1 rfl) ?_
  refine hp_get hx hb hG in_S hown hK hst f4 rfl 4 (by decide) (hG _ fl_S_45) rfl rfl dS_addTerm_32 ?_
  refine lv_iload hx hb dS_addTerm_35 (lv_at hl 0 rfl) ?_
  refine lv_iconst (v := nI 1) hx hb dS_addTerm_37 (by decide +kernel) ?_
  refine t_iadd hx hb dS_addTerm_38 (v := nI ((rk k) + 1)) (nI_add _ _) ?_
  refine va_mmax hx hb (by rw [hml]; exact hl.1.symm) hown (hG _ ml_S_49) (hG _ ws_Jm_max) (hG _ wn_Jm) (hG _ wc_Jm_max) (Nat.le_of_ble_eq_true rfl) (Nat.le_of_ble_eq_true rfl) (by show _ ≤ _; omega) (by show _ ≤ _; omega) dS_addTerm_39 ?_
  refine tp_i (e2 := nI (max en ((rk k) + 1))) (mx9 (by omega) (by omega)) ?_
  refine hp_put hx hb hG in_S ty_S tyok_S nm_S hown hK hst f4 rfl 4 (by decide) (hG _ fl_S_45) rfl rfl rfl rfl (Nat.le_of_ble_eq_true rfl) dS_addTerm_42 (fs' := [.ref fa, .ref ma, .ref fr, .ref ca, .int (nI (max en ((rk k) + 1)))]) rfl (fun H locs hst => ?_)
  generalize hM10 : hp_up M1 sa ((2, 0), .inr (3, [.ref fa, .ref ma, .ref fr, .ref ca, .int (nI (max en ((rk k) + 1)))])) = M9 at hst
  have f11 : M9 sa = some ((2, 0), .inr (3, [.ref fa, .ref ma, .ref fr, .ref ca, .int (nI (max en ((rk k) + 1)))])) := by rw [← hM10]; exact hp_up_self _ _ _
  have f12 : M9 ma = some ((2, 1), e_n Y 9139 ur) := by rw [← hM10]; exact hp_kt f4 f5 (tg2 (by decide))
  have f13 : M9 fr = some ((2, 2), e_n Y 2368 frk) := by rw [← hM10]; exact hp_kt f4 f6 (tg2 (by decide))
  have f14 : M9 fa = some ((1, 0), .inr (0, [.int (nI p)])) := by rw [← hM10]; exact hp_kt f4 f7 (tg1 (by decide))
  have f15 : M9 ca = some ((2, 3), e_n Y 9139 (va_up g (rk k) ((c k + f * x) % p))) := by rw [← hM10]; exact hp_kt f4 f3 (tg2 (by decide))
  have o16 : hp_off (fun i => i = 2) M M9 := by rw [← hM10]; exact hp_off.tr o8 (hp_off.up f4 rfl)
  have hA : ∀ r, r < 9139 → (va_up g (rk k) ((c k + f * x) % p)) r = va_up c k ((c k + f * x) % p) (ur r) := by
    intro r hr
    by_cases h9 : r = rk k
    · subst h9; rw [va_up_self, hur, va_up_self]
    · rw [va_up_ne _ _ h9, va_up_ne _ _ (fun z => h9 (by rw [← z, rk_ur hr])), hg r hr]
  have hB : ∀ r, max en (rk k + 1) ≤ r → r < 9139 → va_up c k ((c k + f * x) % p) (ur r) = 0 := by
    intro r h8 hr
    have h9 : r ≠ rk k := by omega
    rw [va_up_ne _ _ (fun z => h9 (by rw [← z, rk_ur hr]))]
    exact hz r (by omega) hr
  exact ct_vret X hst ⟨rfl, ⟨ma, fr, ca, _, _, f11, f12, f13, f15, hA, (by omega), hB⟩, o16⟩ (by omega) (by omega) dS_addTerm_45

set_option maxHeartbeats 4000000 in
set_option maxRecDepth 100000 in
theorem c_S_addMultiple (l : Launch) (D : va_G) (Y : Nat → ClassId) (lo : Nat) {M : Hm} {sa fa p : Nat} {c : Pf} (hs : sh Y M sa fa c) (hf : fd M fa p) (hcp : ∀ m, c m < p) {id h cap : Nat} {L : List (Nat × Nat)} (hp : po Y M id h cap L) (hid : id ≠ 2) {f t : Nat} (hfp : f < p) (hmo : ∀ q ∈ L, mv (q.1 + t) ∧ q.2 < p) : ct l D Y lo y_S_addMultiple b_S_addMultiple 5 none 3 [.ref sa, .ref h, .int (nI f), .int (nI t)] M (fun r M' => r = none ∧ sh Y M' sa fa (addL p f t L c) ∧ hp_off (fun i => i = 2) M M') nx 0 0 := by
  refine ct_of (by decide) (Nat.le_of_ble_eq_true rfl) ?_
  intro pg eg sg mg bw mt cg ls X hst hl
  have X1 := X
  obtain ⟨hx, hb, hml, hrt, hlocks, hown, hnm, hts, hkz, hex⟩ := X1
  have hG : ∀ w ∈ GW, w.before _ sg = true := fun w h => hts w (List.mem_cons_of_mem _ h)
  have hK := hkz.1
  have hl : lv_has ls 5 [(0, .ref sa), (1, .ref h), (2, .int (nI f)), (3, .int (nI t))] := hl
  have hp2 := hf.2.1
  refine lv_iconst (v := nI 0) hx hb dS_addMultiple_0 (by decide +kernel) ?_
  refine lv_istore (lv' := [(4, .int (nI 0)), (0, .ref sa), (1, .ref h), (2, .int (nI f)), (3, .int (nI t))]) hx hb dS_addMultiple_1 hl (by decide) rfl (fun ls hl => ?_)
  have LP : ∀ (kk : Nat) (i : Nat) (c1 : Pf) (M1 : Hm) (H : Heap) (locs : List Loc) (ls : Array Slot), kk = L.length - i → (i ≤ L.length) → (sh Y M1 sa fa c1) → (∀ m, c1 m < p) → (addL p f t (L.drop i) c1 = addL p f t L c) → (hp_off (fun i => i = 2) M M1) → hp_st D vC lo M1 sg.heap H locs → lv_has ls 5 [(0, .ref sa), (1, .ref h), (2, .int (nI f)), (3, .int (nI t)), (4, .int (nI i))] → cW pg l eg sg mg [.ref sa, .ref h, .int (nI f), .int (nI t)] bw mt cg y_S_addMultiple b_S_addMultiple 5 none 3 D lo (fun r M' => r = none ∧ sh Y M' sa fa (addL p f t L c) ∧ hp_off (fun i => i = 2) M M') nx 0 0 H locs 0 0 (F0 mg 3 ls []) := by
    intro kk
    induction kk using Nat.strongRecOn with
    | _ kk ihLP =>
    intro i c1 M1 H locs ls hkk hi hs1 hcp1 hinv ho hst hl
    have hpi : po Y M1 id h cap L := hp.off ho (by omega)
    have hfi : fd M1 fa p := hf.off ho (by omega)
    obtain ⟨a9, b9, fa9, fb9, h09, h19, h29, hL9, hn9, hc19, hc29⟩ := hpi
    refine lv_iload hx hb dS_addMultiple_3 (lv_at hl 4 rfl) ?_
    refine lv_aload_n hx hb dS_addMultiple_5 rfl (lv_at hl 1 rfl) ?_
    refine hp_get hx hb hG in_P hown hK hst h09 rfl 2 (by decide) (hG _ fl_S_54) rfl rfl dS_addMultiple_6 ?_
    refine lv_icmp_ge hx hb dS_addMultiple_9 (tgt := 39) rfl (fun hc => ?_) (fun hc => ?_)
    · skip
      have hc : L.length ≤ i := (nI_leI (by omega) (by omega)).mp hc
      rw [List.drop_eq_nil_of_le (by omega)] at hinv
      have hinv : c1 = addL p f t L c := hinv
      exact ct_vret X hst ⟨rfl, (by rw [← hinv]; exact hs1), ho⟩ (by omega) (by omega) dS_addMultiple_39
    · skip
      have hc : ¬ L.length ≤ i := fun z => hc ((nI_leI (by omega) (by omega)).mpr z)
      obtain ⟨q, hq1, hq2, hq3⟩ := dr_cons (L := L) (i := i) (by omega)
      obtain ⟨i1, i2⟩ := hL9 i q hq1
      obtain ⟨hm1, hm2⟩ := hmo q hq2
      have hm3 := mv_lt hm1
      obtain ⟨fs0, hcell⟩ := hs1.cell
      refine lv_aload_n hx hb dS_addMultiple_12 rfl (lv_at hl 0 rfl) ?_
      refine lv_aload_n hx hb dS_addMultiple_13 rfl (lv_at hl 1 rfl) ?_
      refine hp_get hx hb hG in_P hown hK hst h09 rfl 0 (by decide) (hG _ fl_S_59) rfl rfl dS_addMultiple_14 ?_
      refine lv_iload hx hb dS_addMultiple_17 (lv_at hl 4 rfl) ?_
      refine hp_iald hx hb hK rfl hst h19 (j := i) (by omega) (by omega) dS_addMultiple_19 ?_
      refine tp_n (e2 := q.1) i1 ?_
      refine lv_iload_n hx hb dS_addMultiple_20 rfl (lv_at hl 3 rfl) ?_
      refine t_iadd hx hb dS_addMultiple_21 (v := nI (q.1 + t)) (nI_add _ _) ?_
      refine lv_iload_n hx hb dS_addMultiple_22 rfl (lv_at hl 2 rfl) ?_
      refine lv_aload_n hx hb dS_addMultiple_23 rfl (lv_at hl 1 rfl) ?_
      refine hp_get hx hb hG in_P hown hK hst h09 rfl 1 (by decide) (hG _ fl_S_60) rfl rfl dS_addMultiple_24 ?_
      refine lv_iload hx hb dS_addMultiple_27 (lv_at hl 4 rfl) ?_
      refine hp_iald hx hb hK rfl hst h29 (j := i) (by omega) (by omega) dS_addMultiple_29 ?_
      refine tp_n (e2 := q.2) i2 ?_
      refine ct_callV (av2 := [.int (nI (q.1 + t)), .int (nI f), .int (nI q.2)]) (rest := []) (b := sa) X hst (c_S_addTerm l D Y lo hs1 hfi hcp1 (k := q.1 + t) (f := f) (x := q.2) hm1 hfp hm2) hcell rfl wc_S_addTerm ml_S_63 wi_S_addTerm wl_S_addTerm wn_S md_S_addTerm (by decide) hl.1 rfl (Nat.le_of_ble_eq_true rfl) ⟨by omega, by omega⟩ (fun _ _ h => h.elim) dS_addMultiple_30 (fun r M' H locs hp hst => ?_)
      obtain ⟨rfl, hs2, ho2⟩ := hp
      refine lv_iinc (lv' := [(4, .int (nI (i + 1))), (0, .ref sa), (1, .ref h), (2, .int (nI f)), (3, .int (nI t))]) hx hb dS_addMultiple_33 hl (k := 4) rfl (ii_p _) (by decide) rfl (fun ls hl => ?_)
      refine lv_goto hx hb dS_addMultiple_36 (tgt := 3) rfl ?_
      exact ihLP _ (by omega) (i + 1) (va_up c1 (q.1 + t) ((c1 (q.1 + t) + f * q.2) % p)) M' _ _ _ rfl (by omega) hs2 (fun m => by
          by_cases h9 : m = q.1 + t
          · subst h9; rw [va_up_self]; exact Nat.mod_lt _ (by omega)
          · rw [va_up_ne _ _ h9]; exact hcp1 m) (by rw [hq3] at hinv; exact hinv) (ho.tr ho2) hst (lv_sub hl [1, 2, 3, 4, 0] rfl)
  exact LP _ 0 c M _ _ _ rfl (by omega) hs hcp rfl hp_off.rf hst (lv_sub hl [1, 2, 3, 4, 0] rfl)

set_option maxHeartbeats 4000000 in
set_option maxRecDepth 100000 in
theorem c_S_addProduct (l : Launch) (D : va_G) (Y : Nat → ClassId) (lo : Nat) {M : Hm} {sa fa p : Nat} {c : Pf} (hs : sh Y M sa fa c) (hf : fd M fa p) (hcp : ∀ m, c m < p) {id h cap : Nat} {L : List (Nat × Nat)} (hp : po Y M id h cap L) (hid : id ≠ 2) {id2 hr cap2 : Nat} {R : List (Nat × Nat)} (hp2 : po Y M id2 hr cap2 R) (hid2 : id2 ≠ 2) (hmo : ∀ q ∈ L, q.2 < p ∧ ∀ q2 ∈ R, mv (q2.1 + q.1) ∧ q2.2 < p) : ct l D Y lo y_S_addProduct b_S_addProduct 4 none 4 [.ref sa, .ref h, .ref hr] M (fun r M' => r = none ∧ sh Y M' sa fa (mulL p R L c) ∧ hp_off (fun i => i = 2) M M') nx 0 0 := by
  refine ct_of (by decide) (Nat.le_of_ble_eq_true rfl) ?_
  intro pg eg sg mg bw mt cg ls X hst hl
  have X1 := X
  obtain ⟨hx, hb, hml, hrt, hlocks, hown, hnm, hts, hkz, hex⟩ := X1
  have hG : ∀ w ∈ GW, w.before _ sg = true := fun w h => hts w (List.mem_cons_of_mem _ h)
  have hK := hkz.1
  have hl : lv_has ls 4 [(0, .ref sa), (1, .ref h), (2, .ref hr)] := hl
  have hpp := hf.2.1
  refine lv_iconst (v := nI 0) hx hb dS_addProduct_0 (by decide +kernel) ?_
  refine lv_istore_n (lv' := [(3, .int (nI 0)), (0, .ref sa), (1, .ref h), (2, .ref hr)]) hx hb dS_addProduct_1 rfl hl (by decide) rfl (fun ls hl => ?_)
  have LP : ∀ (kk : Nat) (i : Nat) (c1 : Pf) (M1 : Hm) (H : Heap) (locs : List Loc) (ls : Array Slot), kk = L.length - i → (i ≤ L.length) → (sh Y M1 sa fa c1) → (∀ m, c1 m < p) → (mulL p R (L.drop i) c1 = mulL p R L c) → (hp_off (fun i => i = 2) M M1) → hp_st D vC lo M1 sg.heap H locs → lv_has ls 4 [(0, .ref sa), (1, .ref h), (2, .ref hr), (3, .int (nI i))] → cW pg l eg sg mg [.ref sa, .ref h, .ref hr] bw mt cg y_S_addProduct b_S_addProduct 4 none 4 D lo (fun r M' => r = none ∧ sh Y M' sa fa (mulL p R L c) ∧ hp_off (fun i => i = 2) M M') nx 0 0 H locs 0 0 (F0 mg 2 ls []) := by
    intro kk
    induction kk using Nat.strongRecOn with
    | _ kk ihLP =>
    intro i c1 M1 H locs ls hkk hi hs1 hcp1 hinv ho hst hl
    have hpi : po Y M1 id h cap L := hp.off ho (by omega)
    have hri : po Y M1 id2 hr cap2 R := hp2.off ho (by omega)
    have hfi : fd M1 fa p := hf.off ho (by omega)
    obtain ⟨a9, b9, fa9, fb9, h09, h19, h29, hL9, hn9, hc19, hc29⟩ := hpi
    refine lv_iload_n hx hb dS_addProduct_2 rfl (lv_at hl 3 rfl) ?_
    refine lv_aload_n hx hb dS_addProduct_3 rfl (lv_at hl 1 rfl) ?_
    refine hp_get hx hb hG in_P hown hK hst h09 rfl 2 (by decide) (hG _ fl_S_54) rfl rfl dS_addProduct_4 ?_
    refine lv_icmp_ge hx hb dS_addProduct_7 (tgt := 33) rfl (fun hc => ?_) (fun hc => ?_)
    · skip
      have hc : L.length ≤ i := (nI_leI (by omega) (by omega)).mp hc
      rw [List.drop_eq_nil_of_le (by omega)] at hinv
      have hinv : c1 = mulL p R L c := hinv
      exact ct_vret X hst ⟨rfl, (by rw [← hinv]; exact hs1), ho⟩ (by omega) (by omega) dS_addProduct_33
    · skip
      have hc : ¬ L.length ≤ i := fun z => hc ((nI_leI (by omega) (by omega)).mpr z)
      obtain ⟨q, hq1, hq2, hq3⟩ := dr_cons (L := L) (i := i) (by omega)
      obtain ⟨i1, i2⟩ := hL9 i q hq1
      have hm2 := hmo q hq2
      obtain ⟨fs0, hcell⟩ := hs1.cell
      refine lv_aload_n hx hb dS_addProduct_10 rfl (lv_at hl 0 rfl) ?_
      refine lv_aload_n hx hb dS_addProduct_11 rfl (lv_at hl 2 rfl) ?_
      refine lv_aload_n hx hb dS_addProduct_12 rfl (lv_at hl 1 rfl) ?_
      refine hp_get hx hb hG in_P hown hK hst h09 rfl 1 (by decide) (hG _ fl_S_60) rfl rfl dS_addProduct_13 ?_
      refine lv_iload_n hx hb dS_addProduct_16 rfl (lv_at hl 3 rfl) ?_
      refine hp_iald hx hb hK rfl hst h29 (j := i) (by omega) (by omega) dS_addProduct_17 ?_
      refine tp_n (e2 := q.2) i2 ?_
      refine lv_aload_n hx hb dS_addProduct_18 rfl (lv_at hl 1 rfl) ?_
      refine hp_get hx hb hG in_P hown hK hst h09 rfl 0 (by decide) (hG _ fl_S_59) rfl rfl dS_addProduct_19 ?_
      refine lv_iload_n hx hb dS_addProduct_22 rfl (lv_at hl 3 rfl) ?_
      refine hp_iald hx hb hK rfl hst h19 (j := i) (by omega) (by omega) dS_addProduct_23 ?_
      refine tp_n (e2 := q.1) i1 ?_
      refine ct_callV (av2 := [.ref hr, .int (nI q.2), .int (nI q.1)]) (rest := []) (b := sa) X hst (c_S_addMultiple l D Y lo hs1 hfi hcp1 hri hid2 (f := q.2) (t := q.1) hm2.1 hm2.2) hcell rfl wc_S_addMultiple ml_S_67 wi_S_addMultiple wl_S_addMultiple wn_S md_S_addMultiple (by decide) hl.1 rfl (Nat.le_of_ble_eq_true rfl) ⟨by omega, by omega⟩ (fun _ _ h => h.elim) dS_addProduct_24 (fun r M' H locs hp hst => ?_)
      obtain ⟨rfl, hs2, ho2⟩ := hp
      refine lv_iinc (lv' := [(3, .int (nI (i + 1))), (0, .ref sa), (1, .ref h), (2, .ref hr)]) hx hb dS_addProduct_27 hl (k := 3) rfl (ii_p _) (by decide) rfl (fun ls hl => ?_)
      refine lv_goto hx hb dS_addProduct_30 (tgt := 2) rfl ?_
      exact ihLP _ (by omega) (i + 1) (addL p q.2 q.1 R c1) M' _ _ _ rfl (by omega) hs2 (addL_lt (by omega) hcp1) (by rw [hq3] at hinv; exact hinv) (ho.tr ho2) hst (lv_sub hl [1, 2, 3, 0] rfl)
  exact LP _ 0 c M _ _ _ rfl (by omega) hs hcp rfl hp_off.rf hst (lv_sub hl [1, 2, 3, 0] rfl)

/-- a monomial without the variable v -/
def wo (k v : Nat) : Nat := k - xe k v * vv v
theorem wo_mp {a b c : Nat} (h : a + b + c ≤ 36) : wo (mp a b c) 0 = mp 0 b c ∧ wo (mp a b c) 1 = mp a 0 c ∧ wo (mp a b c) 2 = mp a b 0 := by
  have h' : a + b + c < 64 := by omega
  unfold wo
  rw [mp_x0 h', mp_x1 h', mp_x2 h']
  refine ⟨?_, ?_, ?_⟩
  · show mp a b c - a * (262144 + 4096) = _; unfold mp; omega
  · show mp a b c - b * (262144 + 64) = _; unfold mp; omega
  · show mp a b c - c * (262144 + 1) = _; unfold mp; omega
theorem wo_mv {k v : Nat} (hk : mv k) (hv : v < 3) : mv (wo k v) := by
  obtain ⟨a, b, c, h, rfl⟩ := mv_of hk
  obtain ⟨h0, h1, h2⟩ := wo_mp h
  refine co3 (P := fun v => mv (wo (mp a b c) v)) ?_ ?_ ?_ hv
  · rw [h0]; exact mv_mp (by omega)
  · rw [h1]; exact mv_mp (by omega)
  · rw [h2]; exact mv_mp (by omega)
def addC (p v ex : Nat) : List (Nat × Nat) → Pf → Pf
  | [], c => c
  | q :: qs, c => addC p v ex qs (if xe q.1 v = ex then va_up c (wo q.1 v) ((c (wo q.1 v) + 1 * q.2) % p) else c)
theorem up_lt {c : Pf} {p m v : Nat} (h : ∀ m, c m < p) (hv : v < p) : ∀ z, va_up c m v z < p := by
  intro z
  by_cases h9 : z = m
  · subst h9; rw [va_up_self]; exact hv
  · rw [va_up_ne _ _ h9]; exact h z

set_option maxHeartbeats 4000000 in
set_option maxRecDepth 100000 in
theorem c_S_addCoefficientOf (l : Launch) (D : va_G) (Y : Nat → ClassId) (lo : Nat) {M : Hm} {sa fa p : Nat} {c : Pf} (hs : sh Y M sa fa c) (hf : fd M fa p) (hcp : ∀ m, c m < p) {id h cap : Nat} {L : List (Nat × Nat)} (hp : po Y M id h cap L) (hid : id ≠ 2) {v ex : Nat} (hv : v < 3) (hex9 : ex < 2 ^ 31) (hmo : ∀ q ∈ L, mv q.1 ∧ q.2 < p) : ct l D Y lo y_S_addCoefficientOf b_S_addCoefficientOf 6 none 3 [.ref sa, .ref h, .int (nI v), .int (nI ex)] M (fun r M' => r = none ∧ sh Y M' sa fa (addC p v ex L c) ∧ hp_off (fun i => i = 2) M M') nx 0 0 := by
  refine ct_of (by decide) (Nat.le_of_ble_eq_true rfl) ?_
  intro pg eg sg mg bw mt cg ls X hst hl
  have X1 := X
  obtain ⟨hx, hb, hml, hrt, hlocks, hown, hnm, hts, hkz, hex⟩ := X1
  have hG : ∀ w ∈ GW, w.before _ sg = true := fun w h => hts w (List.mem_cons_of_mem _ h)
  have hK := hkz.1
  have hl : lv_has ls 6 [(0, .ref sa), (1, .ref h), (2, .int (nI v)), (3, .int (nI ex))] := hl
  have hpp := hf.2.1
  refine lv_iconst (v := nI 0) hx hb dS_addCoefficientOf_0 (by decide +kernel) ?_
  refine lv_istore (lv' := [(4, .int (nI 0)), (0, .ref sa), (1, .ref h), (2, .int (nI v)), (3, .int (nI ex))]) hx hb dS_addCoefficientOf_1 hl (by decide) rfl (fun ls hl => ?_)
  have LP : ∀ (kk : Nat) (i : Nat) (c1 : Pf) (M1 : Hm) (H : Heap) (locs : List Loc) (ls : Array Slot), kk = L.length - i → (i ≤ L.length) → (sh Y M1 sa fa c1) → (∀ m, c1 m < p) → (addC p v ex (L.drop i) c1 = addC p v ex L c) → (hp_off (fun i => i = 2) M M1) → hp_st D vC lo M1 sg.heap H locs → lv_has ls 6 [(0, .ref sa), (1, .ref h), (2, .int (nI v)), (3, .int (nI ex)), (4, .int (nI i))] → cW pg l eg sg mg [.ref sa, .ref h, .int (nI v), .int (nI ex)] bw mt cg y_S_addCoefficientOf b_S_addCoefficientOf 6 none 3 D lo (fun r M' => r = none ∧ sh Y M' sa fa (addC p v ex L c) ∧ hp_off (fun i => i = 2) M M') nx 0 0 H locs 0 0 (F0 mg 3 ls []) := by
    intro kk
    induction kk using Nat.strongRecOn with
    | _ kk ihLP =>
    intro i c1 M1 H locs ls hkk hi hs1 hcp1 hinv ho hst hl
    have hpi : po Y M1 id h cap L := hp.off ho (by omega)
    have hfi : fd M1 fa p := hf.off ho (by omega)
    obtain ⟨a9, b9, fa9, fb9, h09, h19, h29, hL9, hn9, hc19, hc29⟩ := hpi
    refine lv_iload hx hb dS_addCoefficientOf_3 (lv_at hl 4 rfl) ?_
    refine lv_aload_n hx hb dS_addCoefficientOf_5 rfl (lv_at hl 1 rfl) ?_
    refine hp_get hx hb hG in_P hown hK hst h09 rfl 2 (by decide) (hG _ fl_S_54) rfl rfl dS_addCoefficientOf_6 ?_
    refine lv_icmp_ge hx hb dS_addCoefficientOf_9 (tgt := 55) rfl (fun hc => ?_) (fun hc => ?_)
    · skip
      have hc : L.length ≤ i := (nI_leI (by omega) (by omega)).mp hc
      rw [List.drop_eq_nil_of_le (by omega)] at hinv
      have hinv : c1 = addC p v ex L c := hinv
      exact ct_vret X hst ⟨rfl, (by rw [← hinv]; exact hs1), ho⟩ (by omega) (by omega) dS_addCoefficientOf_55
    · skip
      have hc : ¬ L.length ≤ i := fun z => hc ((nI_leI (by omega) (by omega)).mpr z)
      obtain ⟨q, hq1, hq2, hq3⟩ := dr_cons (L := L) (i := i) (by omega)
      obtain ⟨i1, i2⟩ := hL9 i q hq1
      obtain ⟨hm1, hm2⟩ := hmo q hq2
      have hm3 := mv_lt hm1
      have hx9 := xe_lt q.1 v
      obtain ⟨fs0, hcell⟩ := hs1.cell
      rw [hq3] at hinv
      refine lv_aload_n hx hb dS_addCoefficientOf_12 rfl (lv_at hl 1 rfl) ?_
      refine hp_get hx hb hG in_P hown hK hst h09 rfl 0 (by decide) (hG _ fl_S_59) rfl rfl dS_addCoefficientOf_13 ?_
      refine lv_iload hx hb dS_addCoefficientOf_16 (lv_at hl 4 rfl) ?_
      refine hp_iald hx hb hK rfl hst h19 (j := i) (by omega) (by omega) dS_addCoefficientOf_18 ?_
      refine tp_n (e2 := q.1) i1 ?_
      refine lv_istore (lv' := [(5, .int (nI q.1)), (0, .ref sa), (1, .ref h), (2, .int (nI v)), (3, .int (nI ex)), (4, .int (nI i))]) hx hb dS_addCoefficientOf_19 hl (by decide) rfl (fun ls hl => ?_)
      refine lv_iload hx hb dS_addCoefficientOf_21 (lv_at hl 0 rfl) ?_
      refine lv_iload_n hx hb dS_addCoefficientOf_23 rfl (lv_at hl 3 rfl) ?_
      refine ct_callS (av2 := [.int (nI q.1), .int (nI v)]) (rest := []) X hst (c_Q_exponent l D Y lo (k := q.1) (v := v) (by omega) hv) wc_Q_exponent ml_S_33 ws_Q_exponent wn_Q md_Q_exponent (by decide) hl.1 rfl (Nat.le_of_ble_eq_true rfl) ⟨by omega, by omega⟩ (fun _ _ h => h.elim) dS_addCoefficientOf_24 (fun r M' H locs hp hst => ?_)
      obtain ⟨rfl, rfl⟩ := hp
      refine lv_iload_n hx hb dS_addCoefficientOf_27 rfl (lv_at hl 4 rfl) ?_
      refine lv_icmp_ne hx hb dS_addCoefficientOf_28 (tgt := 49) rfl (fun hc => ?_) (fun hc => ?_)
      · skip
        have hc5 : ¬ (xe q.1 v) = ex := fun z => hc ((nI_eq (by omega) (by omega)).mpr z)
        refine lv_iinc (lv' := [(4, .int (nI (i + 1))), (5, .int (nI q.1)), (0, .ref sa), (1, .ref h), (2, .int (nI v)), (3, .int (nI ex))]) hx hb dS_addCoefficientOf_49 hl (k := 5) rfl (ii_p _) (by decide) rfl (fun ls hl => ?_)
        refine lv_goto hx hb dS_addCoefficientOf_52 (tgt := 3) rfl ?_
        exact ihLP _ (by omega) (i + 1) c1 M1 _ _ _ rfl (by omega) hs1 hcp1 (by
            have h9 : addC p v ex (L.drop (i + 1)) (if xe q.1 v = ex then va_up c1 (wo q.1 v) ((c1 (wo q.1 v) + 1 * q.2) % p) else c1) = addC p v ex L c := hinv
            rwa [if_neg hc5] at h9) ho hst (lv_sub hl [2, 3, 4, 5, 0] rfl)
      · skip
        have hc5 : (xe q.1 v) = ex := (nI_eq (by omega) (by omega)).mp hc
        refine lv_aload_n hx hb dS_addCoefficientOf_31 rfl (lv_at hl 1 rfl) ?_
        refine lv_iload hx hb dS_addCoefficientOf_32 (lv_at hl 0 rfl) ?_
        refine lv_iload_n hx hb dS_addCoefficientOf_34 rfl (lv_at hl 3 rfl) ?_
        refine ct_callS (av2 := [.int (nI q.1), .int (nI v)]) (rest := [.ref sa]) X hst (c_Q_without l D Y lo (k := q.1) (v := v) hm1 hv) wc_Q_without ml_S_71 ws_Q_without wn_Q md_Q_without (by decide) hl.1 rfl (Nat.le_of_ble_eq_true rfl) ⟨by omega, by omega⟩ (fun _ _ h => h.elim) dS_addCoefficientOf_35 (fun r M' H locs hp hst => ?_)
        obtain ⟨rfl, rfl⟩ := hp
        refine lv_iconst (v := nI 1) hx hb dS_addCoefficientOf_38 (by decide +kernel) ?_
        refine lv_aload_n hx hb dS_addCoefficientOf_39 rfl (lv_at hl 2 rfl) ?_
        refine hp_get hx hb hG in_P hown hK hst h09 rfl 1 (by decide) (hG _ fl_S_60) rfl rfl dS_addCoefficientOf_40 ?_
        refine lv_iload hx hb dS_addCoefficientOf_43 (lv_at hl 5 rfl) ?_
        refine hp_iald hx hb hK rfl hst h29 (j := i) (by omega) (by omega) dS_addCoefficientOf_45 ?_
        refine tp_n (e2 := q.2) i2 ?_
        refine ct_callV (av2 := [.int (nI (wo q.1 v)), .int (nI 1), .int (nI q.2)]) (rest := []) (b := sa) X hst (c_S_addTerm l D Y lo hs1 hfi hcp1 (k := wo q.1 v) (f := 1) (x := q.2) (wo_mv hm1 hv) (by omega) hm2) hcell rfl wc_S_addTerm ml_S_63 wi_S_addTerm wl_S_addTerm wn_S md_S_addTerm (by decide) hl.1 rfl (Nat.le_of_ble_eq_true rfl) ⟨by omega, by omega⟩ (fun _ _ h => h.elim) dS_addCoefficientOf_46 (fun r M' H locs hp hst => ?_)
        obtain ⟨rfl, hs2, ho2⟩ := hp
        refine lv_iinc (lv' := [(4, .int (nI (i + 1))), (5, .int (nI q.1)), (0, .ref sa), (1, .ref h), (2, .int (nI v)), (3, .int (nI ex))]) hx hb dS_addCoefficientOf_49 hl (k := 5) rfl (ii_p _) (by decide) rfl (fun ls hl => ?_)
        refine lv_goto hx hb dS_addCoefficientOf_52 (tgt := 3) rfl ?_
        exact ihLP _ (by omega) (i + 1) (va_up c1 (wo q.1 v) ((c1 (wo q.1 v) + 1 * q.2) % p)) M' _ _ _ rfl (by omega) hs2 (up_lt hcp1 (Nat.mod_lt _ (by omega))) (by
            have h9 : addC p v ex (L.drop (i + 1)) (if xe q.1 v = ex then va_up c1 (wo q.1 v) ((c1 (wo q.1 v) + 1 * q.2) % p) else c1) = addC p v ex L c := hinv
            rwa [if_pos hc5] at h9) (ho.tr ho2) hst (lv_sub hl [2, 3, 4, 5, 0] rfl)
  exact LP _ 0 c M _ _ _ rfl (by omega) hs hcp rfl hp_off.rf hst (lv_sub hl [1, 2, 3, 4, 0] rfl)

set_option maxHeartbeats 4000000 in
set_option maxRecDepth 100000 in
theorem c_S_clear (l : Launch) (D : va_G) (Y : Nat → ClassId) (lo : Nat) {M : Hm} {sa fa : Nat} {c : Pf} (hs : sh Y M sa fa c) : ct l D Y lo y_S_clear b_S_clear 1 none 2 [.ref sa] M (fun r M' => r = none ∧ sh Y M' sa fa (fun _ => 0) ∧ hp_off (fun i => i = 2) M M') nx 0 0 := by
  refine ct_of (by decide) (Nat.le_of_ble_eq_true rfl) ?_
  intro pg eg sg mg bw mt cg ls X hst hl
  have X1 := X
  obtain ⟨hx, hb, hml, hrt, hlocks, hown, hnm, hts, hkz, hex⟩ := X1
  have hG : ∀ w ∈ GW, w.before _ sg = true := fun w h => hts w (List.mem_cons_of_mem _ h)
  have hK := hkz.1
  have hl : lv_has ls 1 [(0, .ref sa)] := hl
  obtain ⟨ma, fr, ca, en, g, s0, s1, s2, s3, hg, hen, hz⟩ := hs
  refine lv_aload_n hx hb dS_clear_0 rfl (lv_at hl 0 rfl) ?_
  refine hp_get hx hb hG in_S hown hK hst s0 rfl 3 (by decide) (hG _ fl_S_18) rfl rfl dS_clear_1 ?_
  refine lv_iconst (v := nI 0) hx hb dS_clear_4 (by decide +kernel) ?_
  refine lv_aload_n hx hb dS_clear_5 rfl (lv_at hl 0 rfl) ?_
  refine hp_get hx hb hG in_S hown hK hst s0 rfl 4 (by decide) (hG _ fl_S_45) rfl rfl dS_clear_6 ?_
  refine lv_iconst (v := nI 0) hx hb dS_clear_9 (by decide +kernel) ?_
  refine ct_callS (av2 := [.ref ca, .int (nI 0), .int (nI en), .int (nI 0)]) (rest := []) X hst (c_Ja_fill l D Y lo s3 (k := en) hen (by omega)) wc_Ja_fill ml_S_95 ws_Ja_fill wn_Ja md_Ja_fill (by decide) hl.1 rfl (Nat.le_of_ble_eq_true rfl) ⟨by omega, by omega⟩ (fun _ _ h => h.elim) dS_clear_10 (fun r M' H locs hp hst => ?_)
  obtain ⟨rfl, rfl⟩ := hp
  generalize hM2 : hp_up M ca ((2, 3), e_n Y 9139 (fun j => if j < en then 0 else g j)) = M1 at hst
  have f3 : M1 ca = some ((2, 3), e_n Y 9139 (fun j => if j < en then 0 else g j)) := by rw [← hM2]; exact hp_up_self _ _ _
  have f4 : M1 sa = some ((2, 0), .inr (3, [.ref fa, .ref ma, .ref fr, .ref ca, .int (nI en)])) := by rw [← hM2]; exact hp_kt s3 s0 (tg2 (by decide))
  have f5 : M1 ma = some ((2, 1), e_n Y 9139 ur) := by rw [← hM2]; exact hp_kt s3 s1 (tg2 (by decide))
  have f6 : M1 fr = some ((2, 2), e_n Y 2368 frk) := by rw [← hM2]; exact hp_kt s3 s2 (tg2 (by decide))
  have o7 : hp_off (fun i => i = 2) M M1 := by rw [← hM2]; exact hp_off.up s3 rfl
  refine lv_aload_n hx hb dS_clear_13 rfl (lv_at hl 0 rfl) ?_
  refine lv_iconst (v := nI 0) hx hb dS_clear_14 (by decide +kernel) ?_
  refine hp_put hx hb hG in_S ty_S tyok_S nm_S hown hK hst f4 rfl 4 (by decide) (hG _ fl_S_45) rfl rfl rfl rfl (Nat.le_of_ble_eq_true rfl) dS_clear_15 (fs' := [.ref fa, .ref ma, .ref fr, .ref ca, .int (nI 0)]) rfl (fun H locs hst => ?_)
  generalize hM9 : hp_up M1 sa ((2, 0), .inr (3, [.ref fa, .ref ma, .ref fr, .ref ca, .int (nI 0)])) = M8 at hst
  have f10 : M8 sa = some ((2, 0), .inr (3, [.ref fa, .ref ma, .ref fr, .ref ca, .int (nI 0)])) := by rw [← hM9]; exact hp_up_self _ _ _
  have f11 : M8 ma = some ((2, 1), e_n Y 9139 ur) := by rw [← hM9]; exact hp_kt f4 f5 (tg2 (by decide))
  have f12 : M8 fr = some ((2, 2), e_n Y 2368 frk) := by rw [← hM9]; exact hp_kt f4 f6 (tg2 (by decide))
  have f13 : M8 ca = some ((2, 3), e_n Y 9139 (fun j => if j < en then 0 else g j)) := by rw [← hM9]; exact hp_kt f4 f3 (tg2 (by decide))
  have o14 : hp_off (fun i => i = 2) M M8 := by rw [← hM9]; exact hp_off.tr o7 (hp_off.up f4 rfl)
  have hA : ∀ r, r < 9139 → (fun j => if j < en then 0 else g j) r = (fun _ => 0 : Pf) (ur r) := by
    intro r hr
    show (if r < en then 0 else g r) = 0
    by_cases h9 : r < en
    · rw [if_pos h9]
    · rw [if_neg h9, hg r hr]; exact hz r (by omega) hr
  exact ct_vret X hst ⟨rfl, ⟨ma, fr, ca, _, _, f10, f11, f12, f13, hA, (by omega), fun r _ _ => rfl⟩, o14⟩ (by omega) (by omega) dS_clear_18

/-- the room behind k more terms -/
def gcn (cap len : Nat) : Nat → Nat
  | 0 => cap
  | k + 1 => gcn (gc1 len cap) (len + 1) k
theorem gc1_ge (n cap : Nat) : cap ≤ gc1 n cap := by
  unfold gc1
  split <;> omega
theorem gcn_ge : ∀ (k cap len : Nat), cap ≤ gcn cap len k
  | 0, _, _ => Nat.le_refl _
  | k + 1, cap, len => Nat.le_trans (gc1_ge len cap) (gcn_ge k (gc1 len cap) (len + 1))
theorem gcn_le : ∀ (k cap len b : Nat), cap ≤ b → 2 * (len + k) ≤ b → gcn cap len k ≤ b
  | 0, _, _, _, h, _ => h
  | k + 1, cap, len, b, h, h2 => by
    refine gcn_le k (gc1 len cap) (len + 1) b ?_ (by omega)
    unfold gc1
    split <;> omega

set_option maxHeartbeats 4000000 in
set_option maxRecDepth 100000 in
theorem c_S_moveTo (l : Launch) (D : va_G) (Y : Nat → ClassId) (lo : Nat) {M : Hm} {sa fa : Nat} {c : Pf} (hs : sh Y M sa fa c) {id h cap : Nat} {L : List (Nat × Nat)} (hp : po Y M id h cap L) (hid : id ≠ 2) (hcap : cap ≤ 18278) (hcb : ∀ m, c m < 2 ^ 31) : ct l D Y lo y_S_moveTo b_S_moveTo 3 none 3 [.ref sa, .ref h] M (fun r M' => r = none ∧ po Y M' id h (gcn cap 0 (td c 9139).length) (td c 9139) ∧ sh Y M' sa fa (fun _ => 0) ∧ hp_off (fun i => i = 2 ∨ i = id) M M') nx (gcn cap 0 (td c 9139).length - cap) (4 * (gcn cap 0 (td c 9139).length - cap)) := by
  refine ct_of (by decide) (Nat.le_of_ble_eq_true rfl) ?_
  intro pg eg sg mg bw mt cg ls X hst hl
  have X1 := X
  obtain ⟨hx, hb, hml, hrt, hlocks, hown, hnm, hts, hkz, hex⟩ := X1
  have hG : ∀ w ∈ GW, w.before _ sg = true := fun w h => hts w (List.mem_cons_of_mem _ h)
  have hK := hkz.1
  have hl : lv_has ls 3 [(0, .ref sa), (1, .ref h)] := hl
  obtain ⟨fs9, hcell⟩ := hp.cell
  refine lv_aload_n hx hb dS_moveTo_0 rfl (lv_at hl 1 rfl) ?_
  refine ct_callV (av2 := []) (rest := []) (b := h) X hst (c_P_clear l D Y lo hp) hcell rfl wc_P_clear ml_S_74 wi_P_clear wl_P_clear wn_P md_P_clear (by decide) hl.1 rfl (Nat.le_of_ble_eq_true rfl) ⟨by omega, by omega⟩ (fun _ _ h => h.elim) dS_moveTo_1 (fun r M' H locs hp hst => ?_)
  obtain ⟨rfl, hp1, ho1⟩ := hp
  have hs1 : sh Y M' sa fa c := hs.off ho1 (by omega)
  have hs1c := hs1
  obtain ⟨ma, fr, ca, en, g, s0, s1, s2, s3, hg, hen, hz⟩ := hs1
  refine lv_aload_n hx hb dS_moveTo_4 rfl (lv_at hl 0 rfl) ?_
  refine hp_get hx hb hG in_S hown hK hst s0 rfl 4 (by decide) (hG _ fl_S_45) rfl rfl dS_moveTo_5 ?_
  have hcp : 16 ≤ cap ∧ cap ≤ 18278 := by obtain ⟨_, _, _, _, _, _, _, _, _, h9, _⟩ := hp; exact ⟨h9, hcap⟩
  have htd : td c 9139 = td c en := td_end hen (fun r h1 h2 => hz r h1 h2)
  refine lv_iconst (v := nI 1) hx hb dS_moveTo_8 (by decide +kernel) ?_
  refine t_isub hx hb dS_moveTo_9 (v := dn en) rfl ?_
  refine lv_istore_n (lv' := [(2, .int (dn en)), (0, .ref sa), (1, .ref h)]) hx hb dS_moveTo_10 rfl hl (by decide) rfl (fun ls hl => ?_)
  refine W.widen (k := cap - cap) (n := 4 * (cap - cap)) (by omega) (by omega) ?_
  have LP : ∀ (kk : Nat) (n : Nat) (A : List (Nat × Nat)) (cap1 : Nat) (M1 : Hm) (H : Heap) (locs : List Loc) (ls : Array Slot), kk = n → (n ≤ 9139) → (sh Y M1 sa fa c) → (po Y M1 id h cap1 A) → (A ++ td c n = td c 9139) → (gcn cap1 A.length (td c n).length = gcn cap 0 (td c 9139).length) → (hp_off (fun i => i = 2 ∨ i = id) M M1) → (cap ≤ cap1) → hp_st D vC lo M1 sg.heap H locs → lv_has ls 3 [(0, .ref sa), (1, .ref h), (2, .int (dn n))] → cW pg l eg sg mg [.ref sa, .ref h] bw mt cg y_S_moveTo b_S_moveTo 3 none 3 D lo (fun r M' => r = none ∧ po Y M' id h (gcn cap 0 (td c 9139).length) (td c 9139) ∧ sh Y M' sa fa (fun _ => 0) ∧ hp_off (fun i => i = 2 ∨ i = id) M M') nx (gcn cap 0 (td c 9139).length - cap) (4 * (gcn cap 0 (td c 9139).length - cap)) H locs (cap1 - cap) (4 * (cap1 - cap)) (F0 mg 11 ls []) := by
    intro kk
    induction kk using Nat.strongRecOn with
    | _ kk ihLP =>
    intro n A cap1 M1 H locs ls hkk hn9 hs2 hp2 hA hg ho hge hst hl
    have hcl := gcn_ge (td c n).length cap1 A.length
    have hlen := congrArg List.length hA
    rw [List.length_append] at hlen
    have hl9 := td_len c 9139
    have hc18 : cap1 ≤ 18278 := by
      have h9 := gcn_le (td c 9139).length cap 0 18278 hcap (by omega)
      omega
    cases n with
    | zero =>
      refine lv_iload_n hx hb dS_moveTo_11 rfl (lv_at hl 2 rfl) ?_
      refine lv_if_lt hx hb dS_moveTo_12 (tgt := 46) rfl (fun hc => ?_) (fun hc => absurd dn_0 hc)
      obtain ⟨fs8, hcell8⟩ := hs2.cell
      refine lv_aload_n hx hb dS_moveTo_46 rfl (lv_at hl 0 rfl) ?_
      refine ct_callV (av2 := []) (rest := []) (b := sa) X hst (c_S_clear l D Y lo hs2) hcell8 rfl wc_S_clear ml_S_94 wi_S_clear wl_S_clear wn_S md_S_clear (by decide) hl.1 rfl (Nat.le_of_ble_eq_true rfl) ⟨by omega, by omega⟩ (fun _ _ h => h.elim) dS_moveTo_47 (fun r M' H locs hp hst => ?_)
      obtain ⟨rfl, hs3, ho3⟩ := hp
      have hAe : A = td c 9139 := by rw [← hA]; exact (List.append_nil A).symm
      have hce : cap1 = gcn cap 0 (td c 9139).length := hg
      exact ct_vret X hst ⟨rfl, (by rw [← hce, ← hAe]; exact hp2.off ho3 (by omega)), hs3, (ho.tr (ho3.wk (fun i hi => Or.inl hi)))⟩ (by omega) (by omega) dS_moveTo_50
    | succ n =>
      rw [dn_s] at hl
      have hs2c := hs2
      obtain ⟨ma, fr, ca, en, g, s0, s1, s2, s3, hg1, hen, hz⟩ := hs2
      refine lv_iload_n hx hb dS_moveTo_11 rfl (lv_at hl 2 rfl) ?_
      refine lv_if_lt hx hb dS_moveTo_12 (tgt := 46) rfl (fun hc => ?_) (fun hc => ?_)
      · skip
        rw [← nI_0] at hc
        have hc5 : n < 0 := (nI_ltI (by omega) (by omega)).mp hc
        exact absurd hc5 (by omega)
      · skip
        rw [← nI_0] at hc
        have hc5 : ¬ n < 0 := fun z => hc ((nI_ltI (by omega) (by omega)).mpr z)
        have hcbn := hcb (ur n)
        refine lv_aload_n hx hb dS_moveTo_15 rfl (lv_at hl 0 rfl) ?_
        refine hp_get hx hb hG in_S hown hK hst s0 rfl 3 (by decide) (hG _ fl_S_18) rfl rfl dS_moveTo_16 ?_
        refine lv_iload_n hx hb dS_moveTo_19 rfl (lv_at hl 2 rfl) ?_
        refine hp_iald hx hb hK rfl hst s3 (j := n) (by omega) (by omega) dS_moveTo_20 ?_
        refine tp_n (e2 := c (ur n)) (hg1 n (by omega)) ?_
        refine lv_if_eq hx hb dS_moveTo_21 (tgt := 40) rfl (fun hc => ?_) (fun hc => ?_)
        · skip
          rw [← nI_0] at hc
          have hc6 : (c (ur n)) = 0 := (nI_eq (by omega) (by omega)).mp hc
          refine lv_iinc (lv' := [(2, .int (dn n)), (0, .ref sa), (1, .ref h)]) hx hb dS_moveTo_40 hl (k := 2) rfl (ii_m _) (by decide) rfl (fun ls hl => ?_)
          refine lv_goto hx hb dS_moveTo_43 (tgt := 11) rfl ?_
          exact ihLP _ (by omega) n A cap1 M1 _ _ _ rfl (by omega) hs2c hp2 (by rw [td_zero hc6] at hA; exact hA) (by rw [td_zero hc6] at hg; exact hg) ho hge hst (lv_sub hl [1, 2, 0] rfl)
        · skip
          rw [← nI_0] at hc
          have hc6 : ¬ (c (ur n)) = 0 := fun z => hc ((nI_eq (by omega) (by omega)).mpr z)
          rw [td_pos hc6] at hA hg hcl
          have hg : gcn (gc1 A.length cap1) (A.length + 1) (td c n).length = gcn cap 0 (td c 9139).length := hg
          have hcl2 := gcn_ge (td c n).length (gc1 A.length cap1) (A.length + 1)
          have hcl3 := gc1_ge A.length cap1
          refine lv_aload_n hx hb dS_moveTo_24 rfl (lv_at hl 1 rfl) ?_
          refine lv_aload_n hx hb dS_moveTo_25 rfl (lv_at hl 0 rfl) ?_
          refine hp_get hx hb hG in_S hown hK hst s0 rfl 1 (by decide) (hG _ fl_S_9) rfl rfl dS_moveTo_26 ?_
          refine lv_iload_n hx hb dS_moveTo_29 rfl (lv_at hl 2 rfl) ?_
          refine hp_iald hx hb hK rfl hst s1 (j := n) (by omega) (by omega) dS_moveTo_30 ?_
          refine lv_aload_n hx hb dS_moveTo_31 rfl (lv_at hl 0 rfl) ?_
          refine hp_get hx hb hG in_S hown hK hst s0 rfl 3 (by decide) (hG _ fl_S_18) rfl rfl dS_moveTo_32 ?_
          refine lv_iload_n hx hb dS_moveTo_35 rfl (lv_at hl 2 rfl) ?_
          refine hp_iald hx hb hK rfl hst s3 (j := n) (by omega) (by omega) dS_moveTo_36 ?_
          refine tp_n (e2 := c (ur n)) (hg1 n (by omega)) ?_
          obtain ⟨fs7, hcell7⟩ := hp2.cell
          refine ct_callV (av2 := [.int (nI (ur n)), .int (nI (c (ur n)))]) (rest := []) (b := h) X hst (c_P_append l D Y lo hp2 (mo := ur n) (co := c (ur n)) (by omega)) hcell7 rfl wc_P_append ml_S_87 wi_P_append wl_P_append wn_P md_P_append (by decide) hl.1 rfl (Nat.le_of_ble_eq_true rfl) ⟨by omega, by omega⟩ (fun _ _ h => h.elim) dS_moveTo_37 (fun r M' H locs hp hst => ?_)
          obtain ⟨rfl, hp3, ho4⟩ := hp
          refine W.widen (k := gc1 A.length cap1 - cap) (n := 4 * (gc1 A.length cap1 - cap)) (by omega) (by omega) ?_
          refine lv_iinc (lv' := [(2, .int (dn n)), (0, .ref sa), (1, .ref h)]) hx hb dS_moveTo_40 hl (k := 2) rfl (ii_m _) (by decide) rfl (fun ls hl => ?_)
          refine lv_goto hx hb dS_moveTo_43 (tgt := 11) rfl ?_
          exact ihLP _ (by omega) n (A ++ [(ur n, c (ur n))]) (gc1 A.length cap1) M' _ _ _ rfl (by omega) (hs2c.off ho4 (by omega)) hp3 (by rw [List.append_assoc]; exact hA) (by rw [List.length_append]; exact hg) (ho.tr (ho4.wk (fun i hi => Or.inr hi))) (by omega) hst (lv_sub hl [1, 2, 0] rfl)
  exact LP _ en ([]) cap M' _ _ _ rfl hen hs1c hp1 (by rw [htd]; rfl) (by rw [htd]; rfl) (ho1.wk (fun i hi => Or.inr hi)) (Nat.le_refl _) hst (lv_sub hl [1, 2, 0] rfl)

theorem ur_mp {s a b : Nat} (hs : s ≤ 36) (ha : a ≤ s) (hb : b ≤ s - a) : T3 s + R2 s a + b < 9139 ∧ ur (T3 s + R2 s a + b) = mp a b (s - a - b) := by
  have hm : mv (mp a b (s - a - b)) := mv_mp (by omega)
  have hr := rk_mp (a := a) (b := b) (c := s - a - b) (by omega)
  rw [show a + b + (s - a - b) = s by omega] at hr
  have h1 := rk_lt hm
  have h2 := ur_rk hm
  rw [hr] at h1 h2
  exact ⟨h1, h2⟩
theorem ur_big {r : Nat} (h : 9139 ≤ r) : ur r = 0 := by
  unfold ur
  rw [dif_neg (by omega)]

set_option maxHeartbeats 4000000 in
set_option maxRecDepth 100000 in
theorem c_S_init (l : Launch) (D : va_G) (Y : Nat → ClassId) (lo : Nat) {M : Hm} {sa fa : Nat} (h0 : M sa = some ((2, 0), .inr (3, [.null, .null, .null, .null, .int (nI 0)]))) : ct l D Y lo y_S_init b_S_init 6 none 1 [.ref sa, .ref fa] M (fun r M' => r = none ∧ sh Y M' sa fa (fun _ => 0) ∧ hp_off (fun i => i = 2) M M') nx 3 20646 := by
  refine ct_of (by decide) (Nat.le_of_ble_eq_true rfl) ?_
  intro pg eg sg mg bw mt cg ls X hst hl
  have X1 := X
  obtain ⟨hx, hb, hml, hrt, hlocks, hown, hnm, hts, hkz, hex⟩ := X1
  have hG : ∀ w ∈ GW, w.before _ sg = true := fun w h => hts w (List.mem_cons_of_mem _ h)
  have hK := hkz.1
  have hl : lv_has ls 6 [(0, .ref sa), (1, .ref fa)] := hl
  have hin : mt.name = "<init>" := hnm
  refine lv_aload_n hx hb dS_init_0 rfl (lv_at hl 0 rfl) ?_
  refine W.objInit hx hb hown (hG _ ml_S_1) (hG _ wi_Jo_init) (hG _ wc_Jo_init) rfl (by rw [hml]; exact hl.1) rfl dS_init_1 (Nat.le_of_ble_eq_true rfl) (Nat.le_of_ble_eq_true rfl) ?_
  refine W.eq (g2 := F0 mg 4 ls []) rfl ?_
  refine lv_aload_n hx hb dS_init_4 rfl (lv_at hl 0 rfl) ?_
  refine lv_sipush (v := nI 9139) hx hb dS_init_5 (by decide +kernel) ?_
  refine hp_newi hx hb (hG _ ac_int) hK rfl hst (2, 1) (N' := 9139) (by omega) (rm_c (by omega)) (rm_s (by omega)) dS_init_8 (fun q1 H hq2 hst => ?_)
  generalize hM4 : hp_up M q1 ((2, 1), e_n Y 9139 (fun _ => 0)) = M3 at hst
  have f5 : M3 q1 = some ((2, 1), e_n Y 9139 (fun _ => 0)) := by rw [← hM4]; exact hp_up_self _ _ _
  have f6 : M3 sa = some ((2, 0), .inr (3, [.null, .null, .null, .null, .int (nI 0)])) := by rw [← hM4]; exact hp_kf hq2 h0
  have o7 : hp_off (fun i => i = 2) M M3 := by rw [← hM4]; exact hp_off.nw hq2 rfl
  refine hp_putF hx hb hG in_S ty_S tyok_S nm_S hown hK hst f6 rfl 1 (by decide) (hG _ fl_S_9) rfl rfl hin rfl rfl rfl (Nat.le_of_ble_eq_true rfl) dS_init_10 (fs' := [.null, .ref q1, .null, .null, .int (nI 0)]) rfl (fun H locs hst => ?_)
  generalize hM9 : hp_up M3 sa ((2, 0), .inr (3, [.null, .ref q1, .null, .null, .int (nI 0)])) = M8 at hst
  have f10 : M8 sa = some ((2, 0), .inr (3, [.null, .ref q1, .null, .null, .int (nI 0)])) := by rw [← hM9]; exact hp_up_self _ _ _
  have f11 : M8 q1 = some ((2, 1), e_n Y 9139 (fun _ => 0)) := by rw [← hM9]; exact hp_kt f6 f5 (tg2 (by decide))
  have o12 : hp_off (fun i => i = 2) M M8 := by rw [← hM9]; exact hp_off.tr o7 (hp_off.up f6 rfl)
  refine lv_aload_n hx hb dS_init_13 rfl (lv_at hl 0 rfl) ?_
  refine lv_sipush (v := nI 2368) hx hb dS_init_14 (by decide +kernel) ?_
  refine hp_newi hx hb (hG _ ac_int) hK rfl hst (2, 2) (N' := 2368) (by omega) (rm_c (by omega)) (rm_s (by omega)) dS_init_17 (fun q13 H hq14 hst => ?_)
  generalize hM16 : hp_up M8 q13 ((2, 2), e_n Y 2368 (fun _ => 0)) = M15 at hst
  have f17 : M15 q13 = some ((2, 2), e_n Y 2368 (fun _ => 0)) := by rw [← hM16]; exact hp_up_self _ _ _
  have f18 : M15 q1 = some ((2, 1), e_n Y 9139 (fun _ => 0)) := by rw [← hM16]; exact hp_kf hq14 f11
  have f19 : M15 sa = some ((2, 0), .inr (3, [.null, .ref q1, .null, .null, .int (nI 0)])) := by rw [← hM16]; exact hp_kf hq14 f10
  have o20 : hp_off (fun i => i = 2) M M15 := by rw [← hM16]; exact hp_off.tr o12 (hp_off.nw hq14 rfl)
  refine hp_putF hx hb hG in_S ty_S tyok_S nm_S hown hK hst f19 rfl 2 (by decide) (hG _ fl_S_15) rfl rfl hin rfl rfl rfl (Nat.le_of_ble_eq_true rfl) dS_init_19 (fs' := [.null, .ref q1, .ref q13, .null, .int (nI 0)]) rfl (fun H locs hst => ?_)
  generalize hM22 : hp_up M15 sa ((2, 0), .inr (3, [.null, .ref q1, .ref q13, .null, .int (nI 0)])) = M21 at hst
  have f23 : M21 sa = some ((2, 0), .inr (3, [.null, .ref q1, .ref q13, .null, .int (nI 0)])) := by rw [← hM22]; exact hp_up_self _ _ _
  have f24 : M21 q1 = some ((2, 1), e_n Y 9139 (fun _ => 0)) := by rw [← hM22]; exact hp_kt f19 f18 (tg2 (by decide))
  have f25 : M21 q13 = some ((2, 2), e_n Y 2368 (fun _ => 0)) := by rw [← hM22]; exact hp_kt f19 f17 (tg2 (by decide))
  have o26 : hp_off (fun i => i = 2) M M21 := by rw [← hM22]; exact hp_off.tr o20 (hp_off.up f19 rfl)
  refine lv_aload_n hx hb dS_init_22 rfl (lv_at hl 0 rfl) ?_
  refine lv_sipush (v := nI 9139) hx hb dS_init_23 (by decide +kernel) ?_
  refine hp_newi hx hb (hG _ ac_int) hK rfl hst (2, 3) (N' := 9139) (by omega) (rm_c (by omega)) (rm_s (by omega)) dS_init_26 (fun q27 H hq28 hst => ?_)
  generalize hM30 : hp_up M21 q27 ((2, 3), e_n Y 9139 (fun _ => 0)) = M29 at hst
  have f31 : M29 q27 = some ((2, 3), e_n Y 9139 (fun _ => 0)) := by rw [← hM30]; exact hp_up_self _ _ _
  have f32 : M29 q1 = some ((2, 1), e_n Y 9139 (fun _ => 0)) := by rw [← hM30]; exact hp_kf hq28 f24
  have f33 : M29 q13 = some ((2, 2), e_n Y 2368 (fun _ => 0)) := by rw [← hM30]; exact hp_kf hq28 f25
  have f34 : M29 sa = some ((2, 0), .inr (3, [.null, .ref q1, .ref q13, .null, .int (nI 0)])) := by rw [← hM30]; exact hp_kf hq28 f23
  have o35 : hp_off (fun i => i = 2) M M29 := by rw [← hM30]; exact hp_off.tr o26 (hp_off.nw hq28 rfl)
  refine hp_putF hx hb hG in_S ty_S tyok_S nm_S hown hK hst f34 rfl 3 (by decide) (hG _ fl_S_18) rfl rfl hin rfl rfl rfl (Nat.le_of_ble_eq_true rfl) dS_init_28 (fs' := [.null, .ref q1, .ref q13, .ref q27, .int (nI 0)]) rfl (fun H locs hst => ?_)
  generalize hM37 : hp_up M29 sa ((2, 0), .inr (3, [.null, .ref q1, .ref q13, .ref q27, .int (nI 0)])) = M36 at hst
  have f38 : M36 sa = some ((2, 0), .inr (3, [.null, .ref q1, .ref q13, .ref q27, .int (nI 0)])) := by rw [← hM37]; exact hp_up_self _ _ _
  have f39 : M36 q1 = some ((2, 1), e_n Y 9139 (fun _ => 0)) := by rw [← hM37]; exact hp_kt f34 f32 (tg2 (by decide))
  have f40 : M36 q13 = some ((2, 2), e_n Y 2368 (fun _ => 0)) := by rw [← hM37]; exact hp_kt f34 f33 (tg2 (by decide))
  have f41 : M36 q27 = some ((2, 3), e_n Y 9139 (fun _ => 0)) := by rw [← hM37]; exact hp_kt f34 f31 (tg2 (by decide))
  have o42 : hp_off (fun i => i = 2) M M36 := by rw [← hM37]; exact hp_off.tr o35 (hp_off.up f34 rfl)
  refine lv_aload_n hx hb dS_init_31 rfl (lv_at hl 0 rfl) ?_
  refine lv_aload_n hx hb dS_init_32 rfl (lv_at hl 1 rfl) ?_
  refine hp_putF hx hb hG in_S ty_S tyok_S nm_S hown hK hst f38 rfl 0 (by decide) (hG _ fl_S_21) rfl rfl hin rfl rfl rfl (Nat.le_of_ble_eq_true rfl) dS_init_33 (fs' := [.ref fa, .ref q1, .ref q13, .ref q27, .int (nI 0)]) rfl (fun H locs hst => ?_)
  generalize hM44 : hp_up M36 sa ((2, 0), .inr (3, [.ref fa, .ref q1, .ref q13, .ref q27, .int (nI 0)])) = M43 at hst
  have f45 : M43 sa = some ((2, 0), .inr (3, [.ref fa, .ref q1, .ref q13, .ref q27, .int (nI 0)])) := by rw [← hM44]; exact hp_up_self _ _ _
  have f46 : M43 q1 = some ((2, 1), e_n Y 9139 (fun _ => 0)) := by rw [← hM44]; exact hp_kt f38 f39 (tg2 (by decide))
  have f47 : M43 q13 = some ((2, 2), e_n Y 2368 (fun _ => 0)) := by rw [← hM44]; exact hp_kt f38 f40 (tg2 (by decide))
  have f48 : M43 q27 = some ((2, 3), e_n Y 9139 (fun _ => 0)) := by rw [← hM44]; exact hp_kt f38 f41 (tg2 (by decide))
  have o49 : hp_off (fun i => i = 2) M M43 := by rw [← hM44]; exact hp_off.tr o42 (hp_off.up f38 rfl)
  refine lv_iconst (v := nI 0) hx hb dS_init_36 (by decide +kernel) ?_
  refine lv_istore_n (lv' := [(2, .int (nI 0)), (0, .ref sa), (1, .ref fa)]) hx hb dS_init_37 rfl hl (by decide) rfl (fun ls hl => ?_)
  refine lv_iconst (v := nI 0) hx hb dS_init_38 (by decide +kernel) ?_
  refine lv_istore_n (lv' := [(3, .int (nI 0)), (2, .int (nI 0)), (0, .ref sa), (1, .ref fa)]) hx hb dS_init_39 rfl hl (by decide) rfl (fun ls hl => ?_)
  have LP : ∀ (kk : Nat) (su : Nat) (f1 f2 : Nat → Nat) (M1 : Hm) (H : Heap) (locs : List Loc) (ls : Array Slot), kk = 40 - su → (su ≤ 37) → (M1 sa = some ((2, 0), .inr (3, [.ref fa, .ref q1, .ref q13, .ref q27, .int (nI 0)]))) → (M1 q1 = some ((2, 1), e_n Y 9139 f1)) → (M1 q13 = some ((2, 2), e_n Y 2368 f2)) → (M1 q27 = some ((2, 3), e_n Y 9139 (fun _ => 0))) → (∀ r, f1 r = if r < T3 su then ur r else 0) → (∀ i, f2 i = if i / 64 < su then frk i else 0) → (hp_off (fun i => i = 2) M M1) → hp_st D vC lo M1 sg.heap H locs → lv_has ls 6 [(0, .ref sa), (1, .ref fa), (2, .int (nI (T3 su))), (3, .int (nI su))] → cW pg l eg sg mg [.ref sa, .ref fa] bw mt cg y_S_init b_S_init 6 none 1 D lo (fun r M' => r = none ∧ sh Y M' sa fa (fun _ => 0) ∧ hp_off (fun i => i = 2) M M') nx 3 20646 H locs (0 + 1 + 1 + 1) (0 + 9139 + 2368 + 9139) (F0 mg 40 ls []) := by
    intro kk
    induction kk using Nat.strongRecOn with
    | _ kk ihLP =>
    intro su f1 f2 M1 H locs ls hkk hsu m0 m1 m2 m3 hf1 hf2 ho hst hl
    refine lv_iload_n hx hb dS_init_40 rfl (lv_at hl 3 rfl) ?_
    refine lv_bipush (v := nI 36) hx hb dS_init_41 (by decide +kernel) ?_
    refine lv_icmp_gt hx hb dS_init_43 (tgt := 121) rfl (fun hc => ?_) (fun hc => ?_)
    · skip
      have hc1 : 36 < su := (nI_ltI (by omega) (by omega)).mp hc
      have hsu : su = 37 := by omega
      subst hsu
      have e1 : f1 = ur := by
        funext r
        rw [hf1 r, T3_37]
        by_cases h9 : r < 9139
        · rw [if_pos h9]
        · rw [if_neg h9, ur_big (by omega)]
      have e2 : f2 = frk := by
        funext i
        rw [hf2 i]
        by_cases h9 : i / 64 < 37
        · rw [if_pos h9]
        · rw [if_neg h9]
          unfold frk
          rw [if_neg (by omega)]
      subst e1
      subst e2
      exact ct_vret X hst ⟨rfl, ⟨_, _, _, _, _, m0, m1, m2, m3, fun r _ => rfl, by omega, fun r _ _ => rfl⟩, ho⟩ (by omega) (by omega) dS_init_121
    · skip
      have hc1 : ¬ 36 < su := fun z => hc ((nI_ltI (by omega) (by omega)).mpr z)
      refine lv_iconst (v := nI 0) hx hb dS_init_46 (by decide +kernel) ?_
      refine lv_istore (lv' := [(4, .int (nI 0)), (0, .ref sa), (1, .ref fa), (2, .int (nI (T3 su))), (3, .int (nI su))]) hx hb dS_init_47 hl (by decide) rfl (fun ls hl => ?_)
      have LQ : ∀ (kk : Nat) (a : Nat) (f1 f2 : Nat → Nat) (M1 : Hm) (H : Heap) (locs : List Loc) (ls : Array Slot), kk = 40 - a → (a ≤ su + 1) → (M1 sa = some ((2, 0), .inr (3, [.ref fa, .ref q1, .ref q13, .ref q27, .int (nI 0)]))) → (M1 q1 = some ((2, 1), e_n Y 9139 f1)) → (M1 q13 = some ((2, 2), e_n Y 2368 f2)) → (M1 q27 = some ((2, 3), e_n Y 9139 (fun _ => 0))) → (∀ r, f1 r = if r < T3 su + R2 su a then ur r else 0) → (∀ i, f2 i = if i / 64 < su ∨ i / 64 = su ∧ i % 64 < a then frk i else 0) → (hp_off (fun i => i = 2) M M1) → hp_st D vC lo M1 sg.heap H locs → lv_has ls 6 [(0, .ref sa), (1, .ref fa), (2, .int (nI (T3 su + R2 su a))), (3, .int (nI su)), (4, .int (nI a))] → cW pg l eg sg mg [.ref sa, .ref fa] bw mt cg y_S_init b_S_init 6 none 1 D lo (fun r M' => r = none ∧ sh Y M' sa fa (fun _ => 0) ∧ hp_off (fun i => i = 2) M M') nx 3 20646 H locs (0 + 1 + 1 + 1) (0 + 9139 + 2368 + 9139) (F0 mg 49 ls []) := by
        intro kk
        induction kk using Nat.strongRecOn with
        | _ kk ihLQ =>
        intro a f1 f2 M1 H locs ls hkk ha9 m0 m1 m2 m3 hf1 hf2 ho hst hl
        refine lv_iload hx hb dS_init_49 (lv_at hl 4 rfl) ?_
        refine lv_iload_n hx hb dS_init_51 rfl (lv_at hl 3 rfl) ?_
        refine lv_icmp_gt hx hb dS_init_52 (tgt := 115) rfl (fun hc => ?_) (fun hc => ?_)
        · skip
          have hc2 : su < a := (nI_ltI (by omega) (by omega)).mp hc
          have hae : a = su + 1 := by omega
          have hT : T3 su + R2 su a = T3 (su + 1) := by rw [hae]; rfl
          rw [hT] at hl hf1
          refine lv_iinc (lv' := [(3, .int (nI (su + 1))), (0, .ref sa), (1, .ref fa), (2, .int (nI (T3 (su + 1)))), (4, .int (nI a))]) hx hb dS_init_115 hl (k := 3) rfl (ii_p _) (by decide) rfl (fun ls hl => ?_)
          refine lv_goto hx hb dS_init_118 (tgt := 40) rfl ?_
          exact ihLP _ (by omega) (su + 1) f1 f2 M1 _ _ _ rfl (by omega) m0 m1 m2 m3 hf1 (fun i => by
              rw [hf2 i]
              by_cases h9 : i / 64 < su ∨ i / 64 = su ∧ i % 64 < a
              · rw [if_pos h9, if_pos (by omega)]
              · rw [if_neg h9]
                by_cases h8 : i / 64 < su + 1
                · rw [if_pos h8]; unfold frk; rw [if_neg (by omega)]
                · rw [if_neg h8]) ho hst (lv_sub hl [1, 2, 3, 0] rfl)
        · skip
          have hc2 : ¬ su < a := fun z => hc ((nI_ltI (by omega) (by omega)).mpr z)
          obtain ⟨u1, u2⟩ := ur_mp (s := su) (a := a) (b := 0) (by omega) (by omega) (by omega)
          refine lv_aload_n hx hb dS_init_55 rfl (lv_at hl 0 rfl) ?_
          refine hp_get hx hb hG in_S hown hK hst m0 rfl 2 (by decide) (hG _ fl_S_15) rfl rfl dS_init_56 ?_
          refine lv_iload_n hx hb dS_init_59 rfl (lv_at hl 3 rfl) ?_
          refine lv_bipush (v := nI 6) hx hb dS_init_60 (by decide +kernel) ?_
          refine lv_ishl hx hb dS_init_62 ?_
          refine tp_i (e2 := nI (su * 64)) (sh_l (by omega) (by omega)) ?_
          refine lv_iload hx hb dS_init_63 (lv_at hl 4 rfl) ?_
          refine lv_ior hx hb dS_init_65 ?_
          refine tp_i (e2 := nI ((su * 64) ||| a)) (bt_or _ _) ?_
          refine tp_n (e2 := su * 64 + a) (or_6 (by omega)) ?_
          refine lv_iload_n hx hb dS_init_66 rfl (lv_at hl 2 rfl) ?_
          refine hp_iast hx hb hK rfl hst m2 (j := (su * 64 + a)) (v := (T3 su + R2 su a)) (by omega) (by omega) dS_init_67 (fun H locs hst => ?_)
          generalize hM51 : hp_up M1 q13 ((2, 2), e_n Y 2368 (va_up f2 (su * 64 + a) (T3 su + R2 su a))) = M50 at hst
          have f52 : M50 q13 = some ((2, 2), e_n Y 2368 (va_up f2 (su * 64 + a) (T3 su + R2 su a))) := by rw [← hM51]; exact hp_up_self _ _ _
          have f53 : M50 sa = some ((2, 0), .inr (3, [.ref fa, .ref q1, .ref q13, .ref q27, .int (nI 0)])) := by rw [← hM51]; exact hp_kt m2 m0 (tg2 (by decide))
          have f54 : M50 q1 = some ((2, 1), e_n Y 9139 f1) := by rw [← hM51]; exact hp_kt m2 m1 (tg2 (by decide))
          have f55 : M50 q27 = some ((2, 3), e_n Y 9139 (fun _ => 0)) := by rw [← hM51]; exact hp_kt m2 m3 (tg2 (by decide))
          have o56 : hp_off (fun i => i = 2) M M50 := by rw [← hM51]; exact hp_off.tr ho (hp_off.up m2 rfl)
          refine lv_iconst (v := nI 0) hx hb dS_init_68 (by decide +kernel) ?_
          refine lv_istore (lv' := [(5, .int (nI 0)), (0, .ref sa), (1, .ref fa), (2, .int (nI (T3 su + R2 su a))), (3, .int (nI su)), (4, .int (nI a))]) hx hb dS_init_69 hl (by decide) rfl (fun ls hl => ?_)
          have LR : ∀ (kk : Nat) (b : Nat) (f1 f2 : Nat → Nat) (M1 : Hm) (H : Heap) (locs : List Loc) (ls : Array Slot), kk = 40 - b → (b ≤ su + 1 - a) → (M1 sa = some ((2, 0), .inr (3, [.ref fa, .ref q1, .ref q13, .ref q27, .int (nI 0)]))) → (M1 q1 = some ((2, 1), e_n Y 9139 f1)) → (M1 q13 = some ((2, 2), e_n Y 2368 f2)) → (M1 q27 = some ((2, 3), e_n Y 9139 (fun _ => 0))) → (∀ r, f1 r = if r < T3 su + R2 su a + b then ur r else 0) → (∀ i, f2 i = if i / 64 < su ∨ i / 64 = su ∧ i % 64 < a + 1 then frk i else 0) → (hp_off (fun i => i = 2) M M1) → hp_st D vC lo M1 sg.heap H locs → lv_has ls 6 [(0, .ref sa), (1, .ref fa), (2, .int (nI (T3 su + R2 su a + b))), (3, .int (nI su)), (4, .int (nI a)), (5, .int (nI b))] → cW pg l eg sg mg [.ref sa, .ref fa] bw mt cg y_S_init b_S_init 6 none 1 D lo (fun r M' => r = none ∧ sh Y M' sa fa (fun _ => 0) ∧ hp_off (fun i => i = 2) M M') nx 3 20646 H locs (0 + 1 + 1 + 1) (0 + 9139 + 2368 + 9139) (F0 mg 71 ls []) := by
            intro kk
            induction kk using Nat.strongRecOn with
            | _ kk ihLR =>
            intro b f1 f2 M1 H locs ls hkk hb9 m0 m1 m2 m3 hf1 hf2 ho hst hl
            refine lv_iload hx hb dS_init_71 (lv_at hl 5 rfl) ?_
            refine lv_iload_n hx hb dS_init_73 rfl (lv_at hl 3 rfl) ?_
            refine lv_iload hx hb dS_init_74 (lv_at hl 4 rfl) ?_
            refine t_isub hx hb dS_init_76 (v := nI (su - a)) (pk_sub (by omega)) ?_
            refine lv_icmp_gt hx hb dS_init_77 (tgt := 109) rfl (fun hc => ?_) (fun hc => ?_)
            · skip
              have hc3 : (su - a) < b := (nI_ltI (by omega) (by omega)).mp hc
              have hbe : b = su + 1 - a := by omega
              have hR : T3 su + R2 su a + b = T3 su + R2 su (a + 1) := by
                rw [hbe]
                have : R2 su (a + 1) = R2 su a + (su + 1 - a) := rfl
                omega
              rw [hR] at hl hf1
              refine lv_iinc (lv' := [(4, .int (nI (a + 1))), (0, .ref sa), (1, .ref fa), (2, .int (nI (T3 su + R2 su (a + 1)))), (3, .int (nI su)), (5, .int (nI b))]) hx hb dS_init_109 hl (k := 4) rfl (ii_p _) (by decide) rfl (fun ls hl => ?_)
              refine lv_goto hx hb dS_init_112 (tgt := 49) rfl ?_
              exact ihLQ _ (by omega) (a + 1) f1 f2 M1 _ _ _ rfl (by omega) m0 m1 m2 m3 hf1 hf2 ho hst (lv_sub hl [1, 2, 3, 4, 0] rfl)
            · skip
              have hc3 : ¬ (su - a) < b := fun z => hc ((nI_ltI (by omega) (by omega)).mpr z)
              obtain ⟨u1, u2⟩ := ur_mp (s := su) (a := a) (b := b) (by omega) (by omega) (by omega)
              refine lv_aload_n hx hb dS_init_80 rfl (lv_at hl 0 rfl) ?_
              refine hp_get hx hb hG in_S hown hK hst m0 rfl 1 (by decide) (hG _ fl_S_9) rfl rfl dS_init_81 ?_
              refine lv_iload_n hx hb dS_init_84 rfl (lv_at hl 2 rfl) ?_
              refine lv_iload hx hb dS_init_85 (lv_at hl 4 rfl) ?_
              refine lv_iload hx hb dS_init_87 (lv_at hl 5 rfl) ?_
              refine lv_iload_n hx hb dS_init_89 rfl (lv_at hl 3 rfl) ?_
              refine lv_iload hx hb dS_init_90 (lv_at hl 4 rfl) ?_
              refine t_isub hx hb dS_init_92 (v := nI (su - a)) (pk_sub (by omega)) ?_
              refine lv_iload hx hb dS_init_93 (lv_at hl 5 rfl) ?_
              refine t_isub hx hb dS_init_95 (v := nI ((su - a) - b)) (pk_sub (by omega)) ?_
              refine ct_callS (av2 := [.int (nI a), .int (nI b), .int (nI ((su - a) - b))]) (rest := [.int (nI (T3 su + R2 su a + b)), .ref q1]) X hst (c_Q_of l D Y lo (a := a) (b := b) (c := su - a - b) (by omega)) wc_Q_of ml_S_25 ws_Q_of wn_Q md_Q_of (by decide) hl.1 rfl (Nat.le_of_ble_eq_true rfl) ⟨by omega, by omega⟩ (fun _ _ h => h.elim) dS_init_96 (fun r M' H locs hp hst => ?_)
              obtain ⟨rfl, rfl⟩ := hp
              refine hp_iast hx hb hK rfl hst m1 (j := (T3 su + R2 su a + b)) (v := (mp a b (su - a - b))) (by omega) (by omega) dS_init_99 (fun H locs hst => ?_)
              generalize hM58 : hp_up M1 q1 ((2, 1), e_n Y 9139 (va_up f1 (T3 su + R2 su a + b) (mp a b (su - a - b)))) = M57 at hst
              have f59 : M57 q1 = some ((2, 1), e_n Y 9139 (va_up f1 (T3 su + R2 su a + b) (mp a b (su - a - b)))) := by rw [← hM58]; exact hp_up_self _ _ _
              have f60 : M57 sa = some ((2, 0), .inr (3, [.ref fa, .ref q1, .ref q13, .ref q27, .int (nI 0)])) := by rw [← hM58]; exact hp_kt m1 m0 (tg2 (by decide))
              have f61 : M57 q13 = some ((2, 2), e_n Y 2368 f2) := by rw [← hM58]; exact hp_kt m1 m2 (tg2 (by decide))
              have f62 : M57 q27 = some ((2, 3), e_n Y 9139 (fun _ => 0)) := by rw [← hM58]; exact hp_kt m1 m3 (tg2 (by decide))
              have o63 : hp_off (fun i => i = 2) M M57 := by rw [← hM58]; exact hp_off.tr ho (hp_off.up m1 rfl)
              refine lv_iinc (lv' := [(2, .int (nI ((T3 su + R2 su a + b) + 1))), (0, .ref sa), (1, .ref fa), (3, .int (nI su)), (4, .int (nI a)), (5, .int (nI b))]) hx hb dS_init_100 hl (k := 2) rfl (ii_p _) (by decide) rfl (fun ls hl => ?_)
              refine lv_iinc (lv' := [(5, .int (nI (b + 1))), (2, .int (nI ((T3 su + R2 su a + b) + 1))), (0, .ref sa), (1, .ref fa), (3, .int (nI su)), (4, .int (nI a))]) hx hb dS_init_103 hl (k := 5) rfl (ii_p _) (by decide) rfl (fun ls hl => ?_)
              refine lv_goto hx hb dS_init_106 (tgt := 71) rfl ?_
              exact ihLR _ (by omega) (b + 1) (va_up f1 (T3 su + R2 su a + b) (mp a b (su - a - b))) f2 M57 _ _ _ rfl (by omega) f60 f59 f61 f62 (fun r => by
                  by_cases h9 : r = T3 su + R2 su a + b
                  · rw [h9, va_up_self, if_pos (by omega), u2]
                  · rw [va_up_ne _ _ h9, hf1 r]
                    by_cases h8 : r < T3 su + R2 su a + b
                    · rw [if_pos h8, if_pos (by omega)]
                    · rw [if_neg h8, if_neg (by omega)]) hf2 o63 hst (lv_sub hl [2, 3, 1, 4, 5, 0] rfl)
          exact LR _ 0 f1 (va_up f2 (su * 64 + a) (T3 su + R2 su a)) M50 _ _ _ rfl (by omega) f53 f54 f52 f55 hf1 (fun i => by
              by_cases h9 : i = su * 64 + a
              · rw [h9, va_up_self, if_pos (by omega)]
                unfold frk
                rw [show (su * 64 + a) / 64 = su by omega, show (su * 64 + a) % 64 = a by omega, if_pos (by omega)]
              · rw [va_up_ne _ _ h9, hf2 i]
                by_cases h8 : i / 64 < su ∨ i / 64 = su ∧ i % 64 < a
                · rw [if_pos h8, if_pos (by omega)]
                · rw [if_neg h8, if_neg (by omega)]) o56 hst (lv_sub hl [1, 2, 3, 4, 5, 0] rfl)
      exact LQ _ 0 f1 f2 M1 _ _ _ rfl (by omega) m0 m1 m2 m3 hf1 (fun i => by
          rw [hf2 i]
          by_cases h9 : i / 64 < su
          · rw [if_pos h9, if_pos (by omega)]
          · rw [if_neg h9, if_neg (by omega)]) ho hst (lv_sub hl [1, 2, 3, 4, 0] rfl)
  exact LP _ 0 (fun _ => 0) (fun _ => 0) M43 _ _ _ rfl (by omega) f45 f46 f47 f48 (fun r => by rw [if_neg (show ¬ r < T3 0 from Nat.not_lt_zero _)]) (fun i => by rw [if_neg (by omega)]) o49 hst (lv_sub hl [2, 3, 1, 0] rfl)
end
section
/-! Division on the sheet: one way down. -/
abbrev mlt (k q : Nat) : Prop := xe q 0 ≤ xe k 0 ∧ xe q 1 ≤ xe k 1 ∧ xe q 2 ≤ xe k 2
theorem mlt_mp {k q : Nat} (hk : mv k) (hq : mv q) (h : mlt k q) : q ≤ k ∧ k - q = mp (xe k 0 - xe q 0) (xe k 1 - xe q 1) (xe k 2 - xe q 2) ∧ mv (k - q) := by
  have h1 := hk.2
  have h2 := hq.2
  have h3 := hk.1
  obtain ⟨m0, m1, m2⟩ := h
  generalize xe k 0 = a at *
  generalize xe k 1 = b at *
  generalize xe k 2 = c at *
  generalize xe q 0 = a' at *
  generalize xe q 1 = b' at *
  generalize xe q 2 = c' at *
  have h4 : q ≤ k := by rw [h1, h2]; unfold mp; omega
  have h5 : k - q = mp (a - a') (b - b') (c - c') := by rw [h1, h2]; unfold mp; omega
  exact ⟨h4, h5, by rw [h5]; exact mv_mp (by omega)⟩
/-- what division makes of the sheet, and its quotient: the ranks below n are to come -/
noncomputable def dvC (p hi iv : Nat) (B : List (Nat × Nat)) : Nat → Pf → Pf
  | 0, c => c
  | n + 1, c => if c (ur n) ≠ 0 ∧ mlt (ur n) hi then dvC p hi iv B n (addL p (ng p (c (ur n) * iv % p)) (ur n - hi) B c) else dvC p hi iv B n c
noncomputable def dvQ (p hi iv : Nat) (B : List (Nat × Nat)) : Nat → Pf → List (Nat × Nat)
  | 0, _ => []
  | n + 1, c => if c (ur n) ≠ 0 ∧ mlt (ur n) hi then (ur n - hi, c (ur n) * iv % p) :: dvQ p hi iv B n (addL p (ng p (c (ur n) * iv % p)) (ur n - hi) B c) else dvQ p hi iv B n c
section DV
variable {p hi iv n : Nat} {B : List (Nat × Nat)} {c : Pf}
theorem dvC_y (h : c (ur n) ≠ 0 ∧ mlt (ur n) hi) : dvC p hi iv B (n + 1) c = dvC p hi iv B n (addL p (ng p (c (ur n) * iv % p)) (ur n - hi) B c) := by
  show (if _ then _ else _) = _
  rw [if_pos h]
theorem dvC_n (h : ¬ (c (ur n) ≠ 0 ∧ mlt (ur n) hi)) : dvC p hi iv B (n + 1) c = dvC p hi iv B n c := by
  show (if _ then _ else _) = _
  rw [if_neg h]
theorem dvQ_y (h : c (ur n) ≠ 0 ∧ mlt (ur n) hi) : dvQ p hi iv B (n + 1) c = (ur n - hi, c (ur n) * iv % p) :: dvQ p hi iv B n (addL p (ng p (c (ur n) * iv % p)) (ur n - hi) B c) := by
  show (if _ then _ else _) = _
  rw [if_pos h]
theorem dvQ_n (h : ¬ (c (ur n) ≠ 0 ∧ mlt (ur n) hi)) : dvQ p hi iv B (n + 1) c = dvQ p hi iv B n c := by
  show (if _ then _ else _) = _
  rw [if_neg h]
theorem dv_end {e : Nat} (he : e ≤ n) (h : ∀ r, e ≤ r → r < n → c (ur r) = 0) : dvC p hi iv B n c = dvC p hi iv B e c ∧ dvQ p hi iv B n c = dvQ p hi iv B e c := by
  induction n with
  | zero => rw [show e = 0 by omega]; exact ⟨rfl, rfl⟩
  | succ n ih =>
    by_cases hn : e = n + 1
    · rw [hn]; exact ⟨rfl, rfl⟩
    · have hz : ¬ (c (ur n) ≠ 0 ∧ mlt (ur n) hi) := fun z => z.1 (h n (by omega) (by omega))
      rw [dvC_n hz, dvQ_n hz]
      exact ih (by omega) (fun r h1 h2 => h r h1 (by omega))
theorem dvQ_len : ∀ (n : Nat) (c : Pf), (dvQ p hi iv B n c).length ≤ n
  | 0, _ => Nat.le_refl _
  | n + 1, c => by
    by_cases h : c (ur n) ≠ 0 ∧ mlt (ur n) hi
    · rw [dvQ_y h, List.length_cons]
      have := dvQ_len n (addL p (ng p (c (ur n) * iv % p)) (ur n - hi) B c)
      omega
    · rw [dvQ_n h]
      have := dvQ_len n c
      omega
end DV

set_option maxHeartbeats 4000000 in
set_option maxRecDepth 100000 in
theorem c_S_divideBy (l : Launch) (D : va_G) (Y : Nat → ClassId) (lo : Nat) {M : Hm} {sa fa p : Nat} {c : Pf} (hs : sh Y M sa fa c) (hf : fd M fa p) (hcp : ∀ m, c m < p) {id h cap : Nat} {B : List (Nat × Nat)} (hp : po Y M id h cap B) (hid : id ≠ 2) {idq hqa capq : Nat} {Lq : List (Nat × Nat)} (hq : po Y M idq hqa capq Lq) (hidq : idq ≠ 2) (hdd : id ≠ idq) (hid1 : idq ≠ 1) (hcapq : capq ≤ 18278) {q0 : Nat × Nat} (hq0 : B[0]? = some q0) (hB : ∀ q ∈ B, mv q.1 ∧ q.2 < p) (hmo : ∀ n, n < 9139 → mlt (ur n) q0.1 → ∀ q ∈ B, mv (q.1 + (ur n - q0.1))) : ct l D Y lo y_S_divideBy b_S_divideBy 8 none 4 [.ref sa, .ref h, .ref hqa] M (fun r M' => r = none ∧ sh Y M' sa fa (dvC p q0.1 (q0.2 ^ (p - 2) % p) B 9139 c) ∧ po Y M' idq hqa (gcn capq 0 (dvQ p q0.1 (q0.2 ^ (p - 2) % p) B 9139 c).length) (dvQ p q0.1 (q0.2 ^ (p - 2) % p) B 9139 c) ∧ hp_off (fun i => i = 2 ∨ i = idq) M M') nx (gcn capq 0 (dvQ p q0.1 (q0.2 ^ (p - 2) % p) B 9139 c).length - capq) (4 * (gcn capq 0 (dvQ p q0.1 (q0.2 ^ (p - 2) % p) B 9139 c).length - capq)) := by
  refine ct_of (by decide) (Nat.le_of_ble_eq_true rfl) ?_
  intro pg eg sg mg bw mt cg ls X hst hl
  have X1 := X
  obtain ⟨hx, hb, hml, hrt, hlocks, hown, hnm, hts, hkz, hex⟩ := X1
  have hG : ∀ w ∈ GW, w.before _ sg = true := fun w h => hts w (List.mem_cons_of_mem _ h)
  have hK := hkz.1
  have hl : lv_has ls 8 [(0, .ref sa), (1, .ref h), (2, .ref hqa)] := hl
  have hpp := hf.2.1
  have hpp3 := hf.2.2
  have hmv := hB q0 (List.mem_of_getElem? hq0)
  have hml9 := mv_lt hmv.1
  obtain ⟨fs9, hcellq⟩ := hq.cell
  refine lv_aload_n hx hb dS_divideBy_0 rfl (lv_at hl 2 rfl) ?_
  refine ct_callV (av2 := []) (rest := []) (b := hqa) X hst (c_P_clear l D Y lo hq) hcellq rfl wc_P_clear ml_S_74 wi_P_clear wl_P_clear wn_P md_P_clear (by decide) hl.1 rfl (Nat.le_of_ble_eq_true rfl) ⟨by omega, by omega⟩ (fun _ _ h => h.elim) dS_divideBy_1 (fun r M' H locs hp hst => ?_)
  obtain ⟨rfl, hq1, ho1⟩ := hp
  have hs1 : sh Y M' sa fa c := hs.off ho1 (by omega)
  have hp1 : po Y M' id h cap B := hp.off ho1 (by omega)
  have hf1 : fd M' fa p := hf.off ho1 (by omega)
  have hs1c := hs1
  have hp1c := hp1
  obtain ⟨ma, fr, ca, en, g, s0, s1, s2, s3, hg, hen, hz⟩ := hs1
  obtain ⟨a9, b9, fa9, fb9, h09, h19, h29, hL9, hn9, hc19, hc29⟩ := hp1
  obtain ⟨i1, i2⟩ := hL9 0 q0 hq0
  have hB0 : 0 < B.length := (List.getElem?_eq_some_iff.mp hq0).1
  have hf0 := hf1.1
  refine lv_aload_n hx hb dS_divideBy_4 rfl (lv_at hl 1 rfl) ?_
  refine hp_get hx hb hG in_P hown hK hst h09 rfl 0 (by decide) (hG _ fl_S_59) rfl rfl dS_divideBy_5 ?_
  refine lv_iconst (v := nI 0) hx hb dS_divideBy_8 (by decide +kernel) ?_
  refine hp_iald hx hb hK rfl hst h19 (j := 0) (by omega) (by omega) dS_divideBy_9 ?_
  refine tp_n (e2 := q0.1) i1 ?_
  refine lv_istore_n (lv' := [(3, .int (nI q0.1)), (0, .ref sa), (1, .ref h), (2, .ref hqa)]) hx hb dS_divideBy_10 rfl hl (by decide) rfl (fun ls hl => ?_)
  refine lv_aload_n hx hb dS_divideBy_11 rfl (lv_at hl 1 rfl) ?_
  refine hp_get hx hb hG in_S hown hK hst s0 rfl 0 (by decide) (hG _ fl_S_21) rfl rfl dS_divideBy_12 ?_
  refine lv_aload_n hx hb dS_divideBy_15 rfl (lv_at hl 2 rfl) ?_
  refine hp_get hx hb hG in_P hown hK hst h09 rfl 1 (by decide) (hG _ fl_S_60) rfl rfl dS_divideBy_16 ?_
  refine lv_iconst (v := nI 0) hx hb dS_divideBy_19 (by decide +kernel) ?_
  refine hp_iald hx hb hK rfl hst h29 (j := 0) (by omega) (by omega) dS_divideBy_20 ?_
  refine tp_n (e2 := q0.2) i2 ?_
  refine ct_callV (av2 := [.int (nI q0.2)]) (rest := []) (b := fa) X hst (c_F_inverse l D Y lo hf1 hmv.2) hf0 rfl wc_F_inverse ml_S_77 wi_F_inverse wl_F_inverse wn_F md_F_inverse (by decide) hl.1 rfl (Nat.le_of_ble_eq_true rfl) ⟨by omega, by omega⟩ (fun _ _ h => h.elim) dS_divideBy_21 (fun r M' H locs hp hst => ?_)
  obtain ⟨rfl, rfl⟩ := hp
  have hiv : q0.2 ^ (p - 2) % p < p := Nat.mod_lt _ (by omega)
  refine lv_istore (lv' := [(4, .int (nI (q0.2 ^ (p - 2) % p))), (3, .int (nI q0.1)), (0, .ref sa), (1, .ref h), (2, .ref hqa)]) hx hb dS_divideBy_24 hl (by decide) rfl (fun ls hl => ?_)
  refine lv_aload_n hx hb dS_divideBy_26 rfl (lv_at hl 2 rfl) ?_
  refine hp_get hx hb hG in_S hown hK hst s0 rfl 4 (by decide) (hG _ fl_S_45) rfl rfl dS_divideBy_27 ?_
  refine lv_iconst (v := nI 1) hx hb dS_divideBy_30 (by decide +kernel) ?_
  refine t_isub hx hb dS_divideBy_31 (v := dn en) rfl ?_
  refine lv_istore (lv' := [(5, .int (dn en)), (4, .int (nI (q0.2 ^ (p - 2) % p))), (3, .int (nI q0.1)), (0, .ref sa), (1, .ref h), (2, .ref hqa)]) hx hb dS_divideBy_32 hl (by decide) rfl (fun ls hl => ?_)
  obtain ⟨de1, de2⟩ := dv_end (p := p) (hi := q0.1) (iv := q0.2 ^ (p - 2) % p) (B := B) (c := c) hen (fun r h1 h2 => hz r h1 h2)
  have hcq : 16 ≤ capq ∧ capq ≤ 18278 := by obtain ⟨_, _, _, _, _, _, _, _, _, h9, _⟩ := hq; exact ⟨h9, hcapq⟩
  refine W.widen (k := capq - capq) (n := 4 * (capq - capq)) (by omega) (by omega) ?_
  have LP : ∀ (kk : Nat) (n : Nat) (c1 : Pf) (A : List (Nat × Nat)) (cap1 : Nat) (M1 : Hm) (H : Heap) (locs : List Loc) (ls : Array Slot), kk = n → (n ≤ 9139) → (sh Y M1 sa fa c1) → (∀ m, c1 m < p) → (po Y M1 idq hqa cap1 A) → (dvC p q0.1 (q0.2 ^ (p - 2) % p) B n c1 = dvC p q0.1 (q0.2 ^ (p - 2) % p) B 9139 c) → (A ++ dvQ p q0.1 (q0.2 ^ (p - 2) % p) B n c1 = dvQ p q0.1 (q0.2 ^ (p - 2) % p) B 9139 c) → (gcn cap1 A.length (dvQ p q0.1 (q0.2 ^ (p - 2) % p) B n c1).length = gcn capq 0 (dvQ p q0.1 (q0.2 ^ (p - 2) % p) B 9139 c).length) → (hp_off (fun i => i = 2 ∨ i = idq) M M1) → (capq ≤ cap1) → hp_st D vC lo M1 sg.heap H locs → lv_has ls 8 [(0, .ref sa), (1, .ref h), (2, .ref hqa), (3, .int (nI q0.1)), (4, .int (nI (q0.2 ^ (p - 2) % p))), (5, .int (dn n))] → cW pg l eg sg mg [.ref sa, .ref h, .ref hqa] bw mt cg y_S_divideBy b_S_divideBy 8 none 4 D lo (fun r M' => r = none ∧ sh Y M' sa fa (dvC p q0.1 (q0.2 ^ (p - 2) % p) B 9139 c) ∧ po Y M' idq hqa (gcn capq 0 (dvQ p q0.1 (q0.2 ^ (p - 2) % p) B 9139 c).length) (dvQ p q0.1 (q0.2 ^ (p - 2) % p) B 9139 c) ∧ hp_off (fun i => i = 2 ∨ i = idq) M M') nx (gcn capq 0 (dvQ p q0.1 (q0.2 ^ (p - 2) % p) B 9139 c).length - capq) (4 * (gcn capq 0 (dvQ p q0.1 (q0.2 ^ (p - 2) % p) B 9139 c).length - capq)) H locs (cap1 - capq) (4 * (cap1 - capq)) (F0 mg 34 ls []) := by
    intro kk
    induction kk using Nat.strongRecOn with
    | _ kk ihLP =>
    intro n c1 A cap1 M1 H locs ls hkk hn9 hs2 hcp1 hq2 hC hA hg ho hge hst hl
    have hcl := gcn_ge (dvQ p q0.1 (q0.2 ^ (p - 2) % p) B n c1).length cap1 A.length
    have hlen := congrArg List.length hA
    rw [List.length_append] at hlen
    have hl9 := dvQ_len (p := p) (hi := q0.1) (iv := q0.2 ^ (p - 2) % p) (B := B) 9139 c
    have hc18 : cap1 ≤ 18278 := by
      have h9 := gcn_le (dvQ p q0.1 (q0.2 ^ (p - 2) % p) B 9139 c).length capq 0 18278 hcapq (by omega)
      omega
    cases n with
    | zero =>
      refine lv_iload hx hb dS_divideBy_34 (lv_at hl 5 rfl) ?_
      refine lv_if_lt hx hb dS_divideBy_36 (tgt := 122) rfl (fun hc => ?_) (fun hc => absurd dn_0 hc)
      have hAe : A = dvQ p q0.1 (q0.2 ^ (p - 2) % p) B 9139 c := by rw [← hA]; exact (List.append_nil A).symm
      have hce : cap1 = gcn capq 0 (dvQ p q0.1 (q0.2 ^ (p - 2) % p) B 9139 c).length := hg
      have hCe : c1 = dvC p q0.1 (q0.2 ^ (p - 2) % p) B 9139 c := hC
      exact ct_vret X hst ⟨rfl, (by rw [← hCe]; exact hs2), (by rw [← hce, ← hAe]; exact hq2), ho⟩ (by omega) (by omega) dS_divideBy_122
    | succ n =>
      rw [dn_s] at hl
      have hs2c := hs2
      obtain ⟨ma, fr, ca, en, g, s0, s1, s2, s3, hg1, hen, hz⟩ := hs2
      have hun := ur_mv (r := n) (by omega)
      have hunl := mv_lt hun
      have hfi : fd M1 fa p := hf.off ho (by omega)
      have hpi : po Y M1 id h cap B := hp.off ho (by omega)
      have hf0 := hfi.1
      have hcpn := hcp1 (ur n)
      refine lv_iload hx hb dS_divideBy_34 (lv_at hl 5 rfl) ?_
      refine lv_if_lt hx hb dS_divideBy_36 (tgt := 122) rfl (fun hc => ?_) (fun hc => ?_)
      · skip
        rw [← nI_0] at hc
        have hc5 : n < 0 := (nI_ltI (by omega) (by omega)).mp hc
        exact absurd hc5 (by omega)
      · skip
        rw [← nI_0] at hc
        have hc5 : ¬ n < 0 := fun z => hc ((nI_ltI (by omega) (by omega)).mpr z)
        refine lv_aload_n hx hb dS_divideBy_39 rfl (lv_at hl 0 rfl) ?_
        refine hp_get hx hb hG in_S hown hK hst s0 rfl 3 (by decide) (hG _ fl_S_18) rfl rfl dS_divideBy_40 ?_
        refine lv_iload hx hb dS_divideBy_43 (lv_at hl 5 rfl) ?_
        refine hp_iald hx hb hK rfl hst s3 (j := n) (by omega) (by omega) dS_divideBy_45 ?_
        refine tp_n (e2 := c1 (ur n)) (hg1 n (by omega)) ?_
        refine lv_if_eq hx hb dS_divideBy_46 (tgt := 116) rfl (fun hc => ?_) (fun hc => ?_)
        · skip
          rw [← nI_0] at hc
          have hc6 : (c1 (ur n)) = 0 := (nI_eq (by omega) (by omega)).mp hc
          refine lv_iinc (lv' := [(5, .int (dn n)), (0, .ref sa), (1, .ref h), (2, .ref hqa), (3, .int (nI q0.1)), (4, .int (nI (q0.2 ^ (p - 2) % p)))]) hx hb dS_divideBy_116 hl (k := 5) rfl (ii_m _) (by decide) rfl (fun ls hl => ?_)
          refine lv_goto hx hb dS_divideBy_119 (tgt := 34) rfl ?_
          exact ihLP _ (by omega) n c1 A cap1 M1 _ _ _ rfl (by omega) hs2c hcp1 hq2 (by rw [dvC_n (fun z => z.1 hc6)] at hC; exact hC) (by rw [dvQ_n (fun z => z.1 hc6)] at hA; exact hA) (by rw [dvQ_n (fun z => z.1 hc6)] at hg; exact hg) ho hge hst (lv_sub hl [1, 2, 3, 4, 5, 0] rfl)
        · skip
          rw [← nI_0] at hc
          have hc6 : ¬ (c1 (ur n)) = 0 := fun z => hc ((nI_eq (by omega) (by omega)).mpr z)
          refine lv_aload_n hx hb dS_divideBy_49 rfl (lv_at hl 0 rfl) ?_
          refine hp_get hx hb hG in_S hown hK hst s0 rfl 1 (by decide) (hG _ fl_S_9) rfl rfl dS_divideBy_50 ?_
          refine lv_iload hx hb dS_divideBy_53 (lv_at hl 5 rfl) ?_
          refine hp_iald hx hb hK rfl hst s1 (j := n) (by omega) (by omega) dS_divideBy_55 ?_
          refine lv_iload_n hx hb dS_divideBy_56 rfl (lv_at hl 3 rfl) ?_
          refine ct_callS (av2 := [.int (nI (ur n)), .int (nI q0.1)]) (rest := []) X hst (c_Q_isMultiple l D Y lo (k := ur n) (q := q0.1) (by omega) (by omega)) wc_Q_isMultiple ml_S_80 ws_Q_isMultiple wn_Q md_Q_isMultiple (by decide) hl.1 rfl (Nat.le_of_ble_eq_true rfl) ⟨by omega, by omega⟩ (fun _ _ h => h.elim) dS_divideBy_57 (fun r M' H locs hp hst => ?_)
          obtain ⟨bb, rfl, hb1, hb2, rfl⟩ := hp
          refine lv_if_eq hx hb dS_divideBy_60 (tgt := 116) rfl (fun hc => ?_) (fun hc => ?_)
          · skip
            rw [← nI_0] at hc
            have hc7 : bb = 0 := (nI_eq (by omega) (by omega)).mp hc
            refine lv_iinc (lv' := [(5, .int (dn n)), (0, .ref sa), (1, .ref h), (2, .ref hqa), (3, .int (nI q0.1)), (4, .int (nI (q0.2 ^ (p - 2) % p)))]) hx hb dS_divideBy_116 hl (k := 5) rfl (ii_m _) (by decide) rfl (fun ls hl => ?_)
            refine lv_goto hx hb dS_divideBy_119 (tgt := 34) rfl ?_
            exact ihLP _ (by omega) n c1 A cap1 M1 _ _ _ rfl (by omega) hs2c hcp1 hq2 (by rw [dvC_n (fun z => by have := hb2.mpr z.2; omega)] at hC; exact hC) (by rw [dvQ_n (fun z => by have := hb2.mpr z.2; omega)] at hA; exact hA) (by rw [dvQ_n (fun z => by have := hb2.mpr z.2; omega)] at hg; exact hg) ho hge hst (lv_sub hl [1, 2, 3, 4, 5, 0] rfl)
          · skip
            rw [← nI_0] at hc
            have hc7 : ¬ bb = 0 := fun z => hc ((nI_eq (by omega) (by omega)).mpr z)
            have hyes : c1 (ur n) ≠ 0 ∧ mlt (ur n) q0.1 := ⟨hc6, hb2.mp (by omega)⟩
            obtain ⟨ml1, ml2, ml3⟩ := mlt_mp hun hmv.1 hyes.2
            rw [dvC_y hyes] at hC
            rw [dvQ_y hyes] at hA hg hcl
            have hlt9 : c1 (ur n) * (q0.2 ^ (p - 2) % p) % p < p := Nat.mod_lt _ (by omega)
            refine lv_aload_n hx hb dS_divideBy_63 rfl (lv_at hl 0 rfl) ?_
            refine hp_get hx hb hG in_S hown hK hst s0 rfl 1 (by decide) (hG _ fl_S_9) rfl rfl dS_divideBy_64 ?_
            refine lv_iload hx hb dS_divideBy_67 (lv_at hl 5 rfl) ?_
            refine hp_iald hx hb hK rfl hst s1 (j := n) (by omega) (by omega) dS_divideBy_69 ?_
            refine lv_iload_n hx hb dS_divideBy_70 rfl (lv_at hl 3 rfl) ?_
            refine t_isub hx hb dS_divideBy_71 (v := nI ((ur n) - q0.1)) (pk_sub (by omega)) ?_
            refine lv_istore (lv' := [(6, .int (nI ((ur n) - q0.1))), (0, .ref sa), (1, .ref h), (2, .ref hqa), (3, .int (nI q0.1)), (4, .int (nI (q0.2 ^ (p - 2) % p))), (5, .int (nI n))]) hx hb dS_divideBy_72 hl (by decide) rfl (fun ls hl => ?_)
            refine lv_aload_n hx hb dS_divideBy_74 rfl (lv_at hl 1 rfl) ?_
            refine hp_get hx hb hG in_S hown hK hst s0 rfl 0 (by decide) (hG _ fl_S_21) rfl rfl dS_divideBy_75 ?_
            refine lv_aload_n hx hb dS_divideBy_78 rfl (lv_at hl 1 rfl) ?_
            refine hp_get hx hb hG in_S hown hK hst s0 rfl 3 (by decide) (hG _ fl_S_18) rfl rfl dS_divideBy_79 ?_
            refine lv_iload hx hb dS_divideBy_82 (lv_at hl 6 rfl) ?_
            refine hp_iald hx hb hK rfl hst s3 (j := n) (by omega) (by omega) dS_divideBy_84 ?_
            refine tp_n (e2 := c1 (ur n)) (hg1 n (by omega)) ?_
            refine lv_iload hx hb dS_divideBy_85 (lv_at hl 5 rfl) ?_
            refine ct_callV (av2 := [.int (nI (c1 (ur n))), .int (nI (q0.2 ^ (p - 2) % p))]) (rest := []) (b := fa) X hst (c_F_product l D Y lo hfi hcpn hiv) hf0 rfl wc_F_product ml_S_84 wi_F_product wl_F_product wn_F md_F_product (by decide) hl.1 rfl (Nat.le_of_ble_eq_true rfl) ⟨by omega, by omega⟩ (fun _ _ h => h.elim) dS_divideBy_87 (fun r M' H locs hp hst => ?_)
            obtain ⟨rfl, rfl⟩ := hp
            refine lv_istore (lv' := [(7, .int (nI (c1 (ur n) * (q0.2 ^ (p - 2) % p) % p))), (6, .int (nI ((ur n) - q0.1))), (0, .ref sa), (1, .ref h), (2, .ref hqa), (3, .int (nI q0.1)), (4, .int (nI (q0.2 ^ (p - 2) % p))), (5, .int (nI n))]) hx hb dS_divideBy_90 hl (by decide) rfl (fun ls hl => ?_)
            refine lv_aload_n hx hb dS_divideBy_92 rfl (lv_at hl 4 rfl) ?_
            refine lv_iload hx hb dS_divideBy_93 (lv_at hl 1 rfl) ?_
            refine lv_iload hx hb dS_divideBy_95 (lv_at hl 0 rfl) ?_
            obtain ⟨fs7, hcell7⟩ := hq2.cell
            have hcl3 := gc1_ge A.length cap1
            have hg : gcn (gc1 A.length cap1) (A.length + 1) (dvQ p q0.1 (q0.2 ^ (p - 2) % p) B n (addL p (ng p (c1 (ur n) * (q0.2 ^ (p - 2) % p) % p)) (ur n - q0.1) B c1)).length = gcn capq 0 (dvQ p q0.1 (q0.2 ^ (p - 2) % p) B 9139 c).length := hg
            have hcl2 := gcn_ge (dvQ p q0.1 (q0.2 ^ (p - 2) % p) B n (addL p (ng p (c1 (ur n) * (q0.2 ^ (p - 2) % p) % p)) (ur n - q0.1) B c1)).length (gc1 A.length cap1) (A.length + 1)
            refine ct_callV (av2 := [.int (nI ((ur n) - q0.1)), .int (nI (c1 (ur n) * (q0.2 ^ (p - 2) % p) % p))]) (rest := []) (b := hqa) X hst (c_P_append l D Y lo hq2 (mo := ur n - q0.1) (co := c1 (ur n) * (q0.2 ^ (p - 2) % p) % p) (by omega)) hcell7 rfl wc_P_append ml_S_87 wi_P_append wl_P_append wn_P md_P_append (by decide) hl.1 rfl (Nat.le_of_ble_eq_true rfl) ⟨by omega, by omega⟩ (fun _ _ h => h.elim) dS_divideBy_97 (fun r M' H locs hp hst => ?_)
            obtain ⟨rfl, hq3, ho4⟩ := hp
            refine W.widen (k := gc1 A.length cap1 - capq) (n := 4 * (gc1 A.length cap1 - capq)) (by omega) (by omega) ?_
            have hs4 : sh Y M' sa fa c1 := hs2c.off ho4 (by omega)
            have hf4 : fd M' fa p := hfi.off ho4 (by omega)
            have hp4 : po Y M' id h cap B := hpi.off ho4 (by omega)
            have hs4c := hs4
            obtain ⟨ma4, fr4, ca4, en4, g4, s04, s14, s24, s34, -⟩ := hs4c
            have hf04 := hf4.1
            refine lv_aload_n hx hb dS_divideBy_100 rfl (lv_at hl 2 rfl) ?_
            refine lv_aload_n hx hb dS_divideBy_101 rfl (lv_at hl 3 rfl) ?_
            refine lv_aload_n hx hb dS_divideBy_102 rfl (lv_at hl 2 rfl) ?_
            refine hp_get hx hb hG in_S hown hK hst s04 rfl 0 (by decide) (hG _ fl_S_21) rfl rfl dS_divideBy_103 ?_
            refine lv_iload hx hb dS_divideBy_106 (lv_at hl 0 rfl) ?_
            refine ct_callV (av2 := [.int (nI (c1 (ur n) * (q0.2 ^ (p - 2) % p) % p))]) (rest := [.ref h, .ref sa]) (b := fa) X hst (c_F_negative l D Y lo hf4 hlt9) hf04 rfl wc_F_negative ml_S_91 wi_F_negative wl_F_negative wn_F md_F_negative (by decide) hl.1 rfl (Nat.le_of_ble_eq_true rfl) ⟨by omega, by omega⟩ (fun _ _ h => h.elim) dS_divideBy_108 (fun r M' H locs hp hst => ?_)
            obtain ⟨rfl, rfl⟩ := hp
            refine lv_iload hx hb dS_divideBy_111 (lv_at hl 1 rfl) ?_
            refine ct_callV (av2 := [.ref h, .int (nI (ng p (c1 (ur n) * (q0.2 ^ (p - 2) % p) % p))), .int (nI ((ur n) - q0.1))]) (rest := []) (b := sa) X hst (c_S_addMultiple l D Y lo hs4 hf4 hcp1 hp4 hid (f := ng p (c1 (ur n) * (q0.2 ^ (p - 2) % p) % p)) (t := ur n - q0.1) (ng_lt (by omega)) (fun q hq9 => ⟨hmo n (by omega) hyes.2 q hq9, (hB q hq9).2⟩)) s04 rfl wc_S_addMultiple ml_S_67 wi_S_addMultiple wl_S_addMultiple wn_S md_S_addMultiple (by decide) hl.1 rfl (Nat.le_of_ble_eq_true rfl) ⟨by omega, by omega⟩ (fun _ _ h => h.elim) dS_divideBy_113 (fun r M' H locs hp hst => ?_)
            obtain ⟨rfl, hs5, ho5⟩ := hp
            refine lv_iinc (lv' := [(5, .int (dn n)), (7, .int (nI (c1 (ur n) * (q0.2 ^ (p - 2) % p) % p))), (6, .int (nI ((ur n) - q0.1))), (0, .ref sa), (1, .ref h), (2, .ref hqa), (3, .int (nI q0.1)), (4, .int (nI (q0.2 ^ (p - 2) % p)))]) hx hb dS_divideBy_116 hl (k := 7) rfl (ii_m _) (by decide) rfl (fun ls hl => ?_)
            refine lv_goto hx hb dS_divideBy_119 (tgt := 34) rfl ?_
            exact ihLP _ (by omega) n (addL p (ng p (c1 (ur n) * (q0.2 ^ (p - 2) % p) % p)) (ur n - q0.1) B c1) (A ++ [(ur n - q0.1, c1 (ur n) * (q0.2 ^ (p - 2) % p) % p)]) (gc1 A.length cap1) M' _ _ _ rfl (by omega) hs5 (addL_lt (by omega) hcp1) (hq3.off ho5 (by omega)) hC (by rw [List.append_assoc]; exact hA) (by rw [List.length_append]; exact hg) ((ho.tr (ho4.wk (fun i hi => Or.inr hi))).tr (ho5.wk (fun i hi => Or.inl hi))) (by omega) hst (lv_sub hl [3, 4, 5, 6, 7, 0] rfl)
  exact LP _ en c ([]) capq M' _ _ _ rfl hen hs1c hcp hq1 de1.symm (by rw [de2]; rfl) (by rw [de2]; rfl) (ho1.wk (fun i hi => Or.inr hi)) (Nat.le_refl _) hst (lv_sub hl [3, 4, 5, 2, 1, 0] rfl)
end
section
/-! The table of powers: three rows of 37 numbers. -/
theorem hp_st.push4 {D : va_G} {cl : List vw_C} {lo : Nat} {M : Hm} {H0 H H1 : Heap} {locs locs1 : List Loc} (h : hp_st D cl lo M H0 H locs) {a0 a1 a2 a3 : Nat} {e0 e1 e2 e3 : va_E} {t0 t1 t2 t3 : Nat × Nat}
    (hP : va_P D cl (wl M H.size ++ [(a0, e0), (a1, e1), (a2, e2), (a3, e3)]) H1) (hD : va_D (fun q => lo ≤ q) (wl M H.size ++ [(a0, e0), (a1, e1), (a2, e2), (a3, e3)])) (hS : va_S (fun q => lo ≤ q) H0 H1 locs1) :
    (M a0 = none ∧ M a1 = none ∧ M a2 = none ∧ M a3 = none) ∧ (a1 ≠ a0 ∧ a2 ≠ a0 ∧ a3 ≠ a0 ∧ a2 ≠ a1 ∧ a3 ≠ a1 ∧ a3 ≠ a2) ∧ hp_st D cl lo (hp_up (hp_up (hp_up (hp_up M a0 (t0, e0)) a1 (t1, e1)) a2 (t2, e2)) a3 (t3, e3)) H0 H1 locs1 := by
  have hat : ∀ (i : Nat) (z : Nat × va_E), ([(a0, e0), (a1, e1), (a2, e2), (a3, e3)] : va_W)[i]? = some z → (wl M H.size ++ [(a0, e0), (a1, e1), (a2, e2), (a3, e3)])[(wl M H.size).length + i]? = some z := by
    intro i z hi
    rw [List.getElem?_append_right (Nat.le_add_right _ _), Nat.add_sub_cancel_left]
    exact hi
  have hin : ∀ {j : Nat} {z : Nat × va_E}, (wl M H.size)[j]? = some z → (wl M H.size ++ [(a0, e0), (a1, e1), (a2, e2), (a3, e3)])[j]? = some z := by
    intro j z hj
    rw [List.getElem?_append_left (List.getElem?_eq_some_iff.mp hj).1]
    exact hj
  have hno : ∀ (i : Nat) (z : Nat × va_E), ([(a0, e0), (a1, e1), (a2, e2), (a3, e3)] : va_W)[i]? = some z → M z.1 = none := by
    intro i z hi
    cases hm : M z.1 with
    | none => rfl
    | some x =>
      obtain ⟨u, w⟩ := x
      obtain ⟨j, hj⟩ := h.ix hm
      have h1 := hD.1 _ _ _ _ (hin hj) (hat i z hi) rfl
      have h2 := (List.getElem?_eq_some_iff.mp hj).1
      omega
  have hne : ∀ (i j : Nat) (y z : Nat × va_E), ([(a0, e0), (a1, e1), (a2, e2), (a3, e3)] : va_W)[i]? = some y → ([(a0, e0), (a1, e1), (a2, e2), (a3, e3)] : va_W)[j]? = some z → i ≠ j → y.1 ≠ z.1 := by
    intro i j y z hi hj hij he
    have h1 := hD.1 _ _ _ _ (hat i y hi) (hat j z hj) he
    omega
  refine ⟨⟨hno 0 _ rfl, hno 1 _ rfl, hno 2 _ rfl, hno 3 _ rfl⟩, ⟨hne 1 0 _ _ rfl rfl (by omega), hne 2 0 _ _ rfl rfl (by omega), hne 3 0 _ _ rfl rfl (by omega), hne 2 1 _ _ rfl rfl (by omega), hne 3 1 _ _ rfl rfl (by omega), hne 3 2 _ _ rfl rfl (by omega)⟩, ⟨Nat.le_trans h.2.2 hS.1, fun b u x hb => ?_⟩, hS, h.2.2⟩
  by_cases h3 : b = a3
  · subst h3
    rw [hp_up_self] at hb
    cases hb
    exact ⟨hD.2 _ _ (hat 3 _ rfl), hP _ _ (hat 3 _ rfl)⟩
  rw [hp_up_ne h3] at hb
  by_cases h2 : b = a2
  · subst h2
    rw [hp_up_self] at hb
    cases hb
    exact ⟨hD.2 _ _ (hat 2 _ rfl), hP _ _ (hat 2 _ rfl)⟩
  rw [hp_up_ne h2] at hb
  by_cases h1 : b = a1
  · subst h1
    rw [hp_up_self] at hb
    cases hb
    exact ⟨hD.2 _ _ (hat 1 _ rfl), hP _ _ (hat 1 _ rfl)⟩
  rw [hp_up_ne h1] at hb
  by_cases h0 : b = a0
  · subst h0
    rw [hp_up_self] at hb
    cases hb
    exact ⟨hD.2 _ _ (hat 0 _ rfl), hP _ _ (hat 0 _ rfl)⟩
  rw [hp_up_ne h0] at hb
  obtain ⟨j, hj⟩ := h.ix hb
  exact ⟨(h.1.2 b u x hb).1, hP j _ (hin hj)⟩
section HPG
variable {p : Program} {l : Launch} {e : Env} {R : Room} {s : State} {m : MethodId} {args : Array Value} {below : List Frame} {meth : Method} {c : Code} {H : Heap} {locs : List Loc} {cells slots : Nat} {Q : State → Prop}
variable {cc : ByteArray} {pc : Nat} {ls : Array Slot} {rest : List Value} {D : va_G} {cl : List vw_C} {a : Nat} {tys : List (ClassId × FieldType)} {H0 : Heap} {lo : Nat} {M : Hm} {t : Nat × Nat} {Y : Nat → ClassId}
theorem hp_gald (hexec : p.tables.exec = Jvm.exec) (hb : c.code = cc) (hK : va_K D cl tys s) (ht : tys[3]? = some (Y 3, .array .int)) (hst : hp_st D cl lo M H0 H locs) {n j v : Nat} {g : Nat → Option Nat} (he : M a = some (t, e_g Y n g)) (hj : j < n) (hn : n < 2 ^ 31) (hv : g j = some v) (hdg : decode cc pc = .ok (.aaload, 1))
    (kk : W p l e R s m args below meth c H locs cells slots Q (F0 m (pc + 1) ls (.ref v :: rest))) : W p l e R s m args below meth c H locs cells slots Q (F0 m pc ls (.int (nI j) :: .ref a :: rest)) := by
  have hin := vp_in_nI hj hn
  have hcl := nI_clamp (n := j) (by omega)
  exact W.aald (v := .ref v) (ty := .array .int) hexec hb (hst.1.tk he) ((hK.2 3 _ ht).1 n (fun j => va_rf (g j))) rfl (fun q => by cases q) (by show ¬ (nI j < 0 ∨ (arrV _ _ _).slots.size ≤ _); rw [arrV_size]; exact hin) (by show (arrV _ _ _).slots[_]? = _; rw [hcl, arrV_read _ _ hj, hv]; rfl) rfl rfl hdg kk
theorem hp_mna3 (hexec : p.tables.exec = Jvm.exec) (hb : c.code = cc) {own : String} {index : Nat} (hown : s.vm.findClass own = some m.cls) (hclink : (Cond.classLink own index ("[" ++ (FieldType.array .int).toString)).before args s = true) (hover : va_AOA .int s) (harr : (Cond.arrayClass .int).before args s = true)
    (hK : va_K D cl tys s) (h0 : tys[0]? = some (Y 0, .int)) (h3 : tys[3]? = some (Y 3, .array .int)) (hst : hp_st D cl lo M H0 H locs) (t0 t1 t2 t3 : Nat × Nat) (hcells : cells + (1 + 3) ≤ R.cells) (hslots : slots + (3 + 3 * 37) ≤ R.slots) (hdg : decode cc pc = .ok (.multianewarray index 2, 4))
    (kk : ∀ (a0 a1 a2 a3 : Nat) (H1 : Heap), (M a0 = none ∧ M a1 = none ∧ M a2 = none ∧ M a3 = none) → (a1 ≠ a0 ∧ a2 ≠ a0 ∧ a3 ≠ a0 ∧ a2 ≠ a1 ∧ a3 ≠ a1 ∧ a3 ≠ a2) →
      hp_st D cl lo (hp_up (hp_up (hp_up (hp_up M a0 (t0, e_g Y 3 (fun i => if i = 0 then some a1 else if i = 1 then some a2 else if i = 2 then some a3 else none))) a1 (t1, e_n Y 37 (fun _ => 0))) a2 (t2, e_n Y 37 (fun _ => 0))) a3 (t3, e_n Y 37 (fun _ => 0))) H0 H1 locs →
      W p l e R s m args below meth c H1 locs (cells + 1 + 3) (slots + 3 + 3 * 37) Q (F0 m (pc + 4) ls (.ref a0 :: rest))) : W p l e R s m args below meth c H locs cells slots Q (F0 m pc ls (.int (nI 37) :: .int (nI 3) :: rest)) := by
  have hpl : va_pl [] (fun _ => e_n Y 0 (fun _ => 0)) = [] := rfl
  refine va_mna (X := wl M H.size) (L := []) (f := fun _ => e_n Y 0 (fun _ => 0)) (cy := Y 0) (z := (37, .inl (fun _ => nI 0))) (N' := 3) (K' := 37) hexec hb hown hclink hover harr (hK.2 0 _ h0).2 hK (by rw [hpl, List.append_nil]; exact hst.P) (by rw [hpl, List.append_nil]; exact hst.Dd) hst.2.1 hst.A (nI_pos (by omega)) (nI_pos (by omega)) (nI_clamp (by omega)) (nI_clamp (by omega)) (by omega) (by show 37 * 4 ≤ _; omega) (by omega) rfl rfl hcells hslots (fun c9 => ?_) hdg (fun q r cA H1 hinj _ hK' hP hD hS => ?_)
  · show ({ cls := c9, slots := Array.replicate 37 (.int 0), vm := .none } : Cell) = _
    rw [arrV_new]
    rfl
  have hc3 : cA = Y 3 := by
    have q1 := (hK.2 3 _ h3).2
    have q2 := (hK'.2 tys.length (cA, .array .int) (by rw [List.getElem?_append_right (Nat.le_refl _), Nat.sub_self]; rfl)).2
    exact Option.some.inj (q2.symm.trans q1)
  subst hc3
  have hr3 : (List.range 3).map r = [r 0, r 1, r 2] := rfl
  have hin : ∀ i, i < 3 → r i ∈ (List.range 3).map r := fun i hi => List.mem_map.mpr ⟨i, List.mem_range.mpr hi, rfl⟩
  have hl : va_pl ([] ++ (List.range 3).map r) (vr_up (fun _ => e_n Y 0 (fun _ => 0)) ((List.range 3).map r) (.inl (Y 0, (37, .inl (fun _ => nI 0))))) = [(r 0, e_n Y 37 (fun _ => 0)), (r 1, e_n Y 37 (fun _ => 0)), (r 2, e_n Y 37 (fun _ => 0))] := by
    show [(r 0, vr_up _ _ _ (r 0)), (r 1, vr_up _ _ _ (r 1)), (r 2, vr_up _ _ _ (r 2))] = _
    rw [vr_up_in (hin 0 (by omega)), vr_up_in (hin 1 (by omega)), vr_up_in (hin 2 (by omega))]
  rw [hl, List.append_assoc] at hP hD
  have hfun : (fun i => if i < 3 then some (r i) else none) = fun i => if i = 0 then some (r 0) else if i = 1 then some (r 1) else if i = 2 then some (r 2) else none := by
    funext i
    rcases (show i = 0 ∨ i = 1 ∨ i = 2 ∨ 3 ≤ i by omega) with rfl | rfl | rfl | h
    · rfl
    · rfl
    · rfl
    · rw [if_neg (by omega), if_neg (by omega), if_neg (by omega), if_neg (by omega)]
  rw [hfun] at hP hD
  obtain ⟨k1, k2, k3⟩ := hst.push4 (t0 := t0) (t1 := t1) (t2 := t2) (t3 := t3) hP hD hS
  exact kk q (r 0) (r 1) (r 2) H1 k1 k2 k3
end HPG
/-- the table's object, the array of its rows, the rows -/
def pt (Y : Nat → ClassId) (M : Hm) (ta fa : Nat) (g : Nat → Nat → Nat) : Prop :=
  ∃ (ra : Nat) (rr : Nat → Nat), M ta = some ((3, 0), .inr (2, [.ref fa, .ref ra])) ∧ (∃ gg : Nat → Option Nat, M ra = some ((3, 1), e_g Y 3 gg) ∧ ∀ v, v < 3 → gg v = some (rr v)) ∧ ∀ v, v < 3 → M (rr v) = some ((3, 2 + v), e_n Y 37 (g v))
theorem pt.off {Y : Nat → ClassId} {M M' : Hm} {ta fa : Nat} {g : Nat → Nat → Nat} {S : Nat → Prop} (h : pt Y M ta fa g) (ho : hp_off S M M') (hS : ¬ S 3) : pt Y M' ta fa g := by
  obtain ⟨ra, rr, h0, ⟨gg, h1, h2⟩, h3⟩ := h
  exact ⟨ra, rr, ho.of h0 hS, ⟨gg, ho.of h1 hS, h2⟩, fun v hv => ho.of (h3 v hv) hS⟩
theorem pt.cell {Y : Nat → ClassId} {M : Hm} {ta fa : Nat} {g : Nat → Nat → Nat} (h : pt Y M ta fa g) : ∃ fs : List Value, M ta = some ((3, 0), .inr (2, fs)) := by
  obtain ⟨ra, rr, h0, -⟩ := h
  exact ⟨_, h0⟩
/-- the powers of x modulo p -/
def pw (p x : Nat) : Nat → Nat
  | 0 => 1
  | k + 1 => pw p x k * x % p
theorem pw_lt {p x : Nat} (hp : 2 ≤ p) : ∀ k, pw p x k < p
  | 0 => hp
  | k + 1 => Nat.mod_lt _ (by omega)

set_option maxHeartbeats 4000000 in
set_option maxRecDepth 100000 in
theorem c_T_init (l : Launch) (D : va_G) (Y : Nat → ClassId) (lo : Nat) {M : Hm} {ta fa : Nat} (h0 : M ta = some ((3, 0), .inr (2, [.null, .null]))) : ct l D Y lo y_T_init b_T_init 2 none 1 [.ref ta, .ref fa] M (fun r M' => r = none ∧ pt Y M' ta fa (fun _ _ => 0) ∧ hp_off (fun i => i = 3) M M') nx 4 114 := by
  refine ct_of (by decide) (Nat.le_of_ble_eq_true rfl) ?_
  intro pg eg sg mg bw mt cg ls X hst hl
  have X1 := X
  obtain ⟨hx, hb, hml, hrt, hlocks, hown, hnm, hts, hkz, hex⟩ := X1
  have hG : ∀ w ∈ GW, w.before _ sg = true := fun w h => hts w (List.mem_cons_of_mem _ h)
  have hK := hkz.1
  have hl : lv_has ls 2 [(0, .ref ta), (1, .ref fa)] := hl
  have hin : mt.name = "<init>" := hnm
  refine lv_aload_n hx hb dT_init_0 rfl (lv_at hl 0 rfl) ?_
  refine W.objInit hx hb hown (hG _ ml_T_3) (hG _ wi_Jo_init) (hG _ wc_Jo_init) rfl (by rw [hml]; exact hl.1) rfl dT_init_1 (Nat.le_of_ble_eq_true rfl) (Nat.le_of_ble_eq_true rfl) ?_
  refine W.eq (g2 := F0 mg 4 ls []) rfl ?_
  refine lv_aload_n hx hb dT_init_4 rfl (lv_at hl 0 rfl) ?_
  refine lv_iconst (v := nI 3) hx hb dT_init_5 (by decide +kernel) ?_
  refine lv_bipush (v := nI 37) hx hb dT_init_6 (by decide +kernel) ?_
  refine hp_mna3 hx hb hown (hG _ cl_T_11) (hkz.2.2.2.1 _ ao_106) (hG _ ac_int) hK rfl rfl hst (3, 1) (3, 2) (3, 3) (3, 4) (rm_c (by omega)) (rm_s (by omega)) dT_init_8 (fun a0 a1 a2 a3 H hno hne hst => ?_)
  obtain ⟨n0, n1, n2, n3⟩ := hno
  obtain ⟨d1, d2, d3, d4, d5, d6⟩ := hne
  generalize hM : hp_up (hp_up (hp_up (hp_up M a0 ((3, 1), e_g Y 3 (fun i => if i = 0 then some a1 else if i = 1 then some a2 else if i = 2 then some a3 else none))) a1 ((3, 2), e_n Y 37 (fun _ => 0))) a2 ((3, 3), e_n Y 37 (fun _ => 0))) a3 ((3, 4), e_n Y 37 (fun _ => 0)) = M1 at hst
  have k3 : M1 a3 = some ((3, 4), e_n Y 37 (fun _ => 0)) := by rw [← hM]; exact hp_up_self _ _ _
  have k2 : M1 a2 = some ((3, 3), e_n Y 37 (fun _ => 0)) := by rw [← hM, hp_up_ne (Ne.symm d6)]; exact hp_up_self _ _ _
  have k1 : M1 a1 = some ((3, 2), e_n Y 37 (fun _ => 0)) := by rw [← hM, hp_up_ne (Ne.symm d5), hp_up_ne (Ne.symm d4)]; exact hp_up_self _ _ _
  have k0 : M1 a0 = some ((3, 1), e_g Y 3 (fun i => if i = 0 then some a1 else if i = 1 then some a2 else if i = 2 then some a3 else none)) := by rw [← hM, hp_up_ne (Ne.symm d3), hp_up_ne (Ne.symm d2), hp_up_ne (Ne.symm d1)]; exact hp_up_self _ _ _
  have kt : M1 ta = some ((3, 0), .inr (2, [.null, .null])) := by rw [← hM, hp_up_ne (hp_fr n3 h0), hp_up_ne (hp_fr n2 h0), hp_up_ne (hp_fr n1 h0), hp_up_ne (hp_fr n0 h0)]; exact h0
  have oo : hp_off (fun i => i = 3) M M1 := by
    rw [← hM]
    refine (((hp_off.nw (S := fun i => i = 3) n0 rfl).tr (hp_off.nw ?_ rfl)).tr (hp_off.nw ?_ rfl)).tr (hp_off.nw ?_ rfl)
    · rw [hp_up_ne d1]; exact n1
    · rw [hp_up_ne d4, hp_up_ne d2]; exact n2
    · rw [hp_up_ne d6, hp_up_ne d5, hp_up_ne d3]; exact n3
  refine hp_putF hx hb hG in_T ty_T tyok_T nm_T hown hK hst kt rfl 1 (by decide) (hG _ fl_T_13) rfl rfl hin rfl rfl rfl (Nat.le_of_ble_eq_true rfl) dT_init_12 (fs' := [.null, .ref a0]) rfl (fun H locs hst => ?_)
  generalize hM2 : hp_up M1 ta ((3, 0), .inr (2, [.null, .ref a0])) = M1 at hst
  have f3 : M1 ta = some ((3, 0), .inr (2, [.null, .ref a0])) := by rw [← hM2]; exact hp_up_self _ _ _
  have f4 : M1 a0 = some ((3, 1), e_g Y 3 (fun i => if i = 0 then some a1 else if i = 1 then some a2 else if i = 2 then some a3 else none)) := by rw [← hM2]; exact hp_kt kt k0 (tg2 (by decide))
  have f5 : M1 a1 = some ((3, 2), e_n Y 37 (fun _ => 0)) := by rw [← hM2]; exact hp_kt kt k1 (tg2 (by decide))
  have f6 : M1 a2 = some ((3, 3), e_n Y 37 (fun _ => 0)) := by rw [← hM2]; exact hp_kt kt k2 (tg2 (by decide))
  have f7 : M1 a3 = some ((3, 4), e_n Y 37 (fun _ => 0)) := by rw [← hM2]; exact hp_kt kt k3 (tg2 (by decide))
  have o8 : hp_off (fun i => i = 3) M M1 := by rw [← hM2]; exact hp_off.tr oo (hp_off.up kt rfl)
  refine lv_aload_n hx hb dT_init_15 rfl (lv_at hl 0 rfl) ?_
  refine lv_aload_n hx hb dT_init_16 rfl (lv_at hl 1 rfl) ?_
  refine hp_putF hx hb hG in_T ty_T tyok_T nm_T hown hK hst f3 rfl 0 (by decide) (hG _ fl_T_18) rfl rfl hin rfl rfl rfl (Nat.le_of_ble_eq_true rfl) dT_init_17 (fs' := [.ref fa, .ref a0]) rfl (fun H locs hst => ?_)
  generalize hM10 : hp_up M1 ta ((3, 0), .inr (2, [.ref fa, .ref a0])) = M9 at hst
  have f11 : M9 ta = some ((3, 0), .inr (2, [.ref fa, .ref a0])) := by rw [← hM10]; exact hp_up_self _ _ _
  have f12 : M9 a0 = some ((3, 1), e_g Y 3 (fun i => if i = 0 then some a1 else if i = 1 then some a2 else if i = 2 then some a3 else none)) := by rw [← hM10]; exact hp_kt f3 f4 (tg2 (by decide))
  have f13 : M9 a1 = some ((3, 2), e_n Y 37 (fun _ => 0)) := by rw [← hM10]; exact hp_kt f3 f5 (tg2 (by decide))
  have f14 : M9 a2 = some ((3, 3), e_n Y 37 (fun _ => 0)) := by rw [← hM10]; exact hp_kt f3 f6 (tg2 (by decide))
  have f15 : M9 a3 = some ((3, 4), e_n Y 37 (fun _ => 0)) := by rw [← hM10]; exact hp_kt f3 f7 (tg2 (by decide))
  have o16 : hp_off (fun i => i = 3) M M9 := by rw [← hM10]; exact hp_off.tr o8 (hp_off.up f3 rfl)
  have hrows : ∀ v, v < 3 → M9 ((fun i => if i = 0 then a1 else if i = 1 then a2 else a3) v) = some ((3, 2 + v), e_n Y 37 (fun _ => 0)) := by
    intro v hv
    rcases (show v = 0 ∨ v = 1 ∨ v = 2 by omega) with rfl | rfl | rfl
    · exact f13
    · exact f14
    · exact f15
  exact ct_vret X hst ⟨rfl, ⟨a0, _, f11, ⟨_, f12, fun v hv => by rcases (show v = 0 ∨ v = 1 ∨ v = 2 by omega) with rfl | rfl | rfl <;> rfl⟩, hrows⟩, o16⟩ (by omega) (by omega) dT_init_20

set_option maxHeartbeats 4000000 in
set_option maxRecDepth 100000 in
theorem c_T_fillRow (l : Launch) (D : va_G) (Y : Nat → ClassId) (lo : Nat) {M : Hm} {ta fa p : Nat} {g : Nat → Nat → Nat} (ht : pt Y M ta fa g) (hf : fd M fa p) {v x : Nat} (hv : v < 3) (hxp : x < p) : ct l D Y lo y_T_fillRow b_T_fillRow 4 none 1 [.ref ta, .int (nI v), .int (nI x)] M (fun r M' => r = none ∧ (∃ g' : Nat → Nat → Nat, (∀ k, k < 37 → g' v k = pw p x k) ∧ (∀ z, z ≠ v → g' z = g z) ∧ pt Y M' ta fa g') ∧ hp_off (fun i => i = 3) M M') nx 0 0 := by
  refine ct_of (by decide) (Nat.le_of_ble_eq_true rfl) ?_
  intro pg eg sg mg bw mt cg ls X hst hl
  have X1 := X
  obtain ⟨hx, hb, hml, hrt, hlocks, hown, hnm, hts, hkz, hex⟩ := X1
  have hG : ∀ w ∈ GW, w.before _ sg = true := fun w h => hts w (List.mem_cons_of_mem _ h)
  have hK := hkz.1
  have hl : lv_has ls 4 [(0, .ref ta), (1, .int (nI v)), (2, .int (nI x))] := hl
  have hpp := hf.2.1
  obtain ⟨ra, rr, t0, ⟨gg, t1, hgg⟩, t3⟩ := ht
  have tv := t3 v hv
  refine lv_aload_n hx hb dT_fillRow_0 rfl (lv_at hl 0 rfl) ?_
  refine hp_get hx hb hG in_T hown hK hst t0 rfl 1 (by decide) (hG _ fl_T_13) rfl rfl dT_fillRow_1 ?_
  refine lv_iload_n hx hb dT_fillRow_4 rfl (lv_at hl 1 rfl) ?_
  refine hp_gald hx hb hK rfl hst t1 (j := v) (v := rr v) hv (by omega) (hgg v hv) dT_fillRow_5 ?_
  refine lv_iconst (v := nI 0) hx hb dT_fillRow_6 (by decide +kernel) ?_
  refine lv_iconst (v := nI 1) hx hb dT_fillRow_7 (by decide +kernel) ?_
  refine hp_iast hx hb hK rfl hst tv (j := 0) (v := 1) (by omega) (by omega) dT_fillRow_8 (fun H locs hst => ?_)
  generalize hM2 : hp_up M (rr v) ((3, 2 + v), e_n Y 37 (va_up (g v) 0 1)) = M1 at hst
  have f3 : M1 (rr v) = some ((3, 2 + v), e_n Y 37 (va_up (g v) 0 1)) := by rw [← hM2]; exact hp_up_self _ _ _
  have f4 : M1 ta = some ((3, 0), .inr (2, [.ref fa, .ref ra])) := by rw [← hM2]; exact hp_kt tv t0 (tg2 (by omega))
  have f5 : M1 ra = some ((3, 1), e_g Y 3 gg) := by rw [← hM2]; exact hp_kt tv t1 (tg2 (by omega))
  refine lv_iconst (v := nI 1) hx hb dT_fillRow_9 (by decide +kernel) ?_
  refine lv_istore_n (lv' := [(3, .int (nI 1)), (0, .ref ta), (1, .int (nI v)), (2, .int (nI x))]) hx hb dT_fillRow_10 rfl hl (by decide) rfl (fun ls hl => ?_)
  have LP : ∀ (kk : Nat) (i : Nat) (row : Nat → Nat) (M1 : Hm) (H : Heap) (locs : List Loc) (ls : Array Slot), kk = 40 - i → (1 ≤ i) → (i ≤ 37) → (M1 ta = some ((3, 0), .inr (2, [.ref fa, .ref ra]))) → (M1 ra = some ((3, 1), e_g Y 3 gg)) → (M1 (rr v) = some ((3, 2 + v), e_n Y 37 row)) → (∀ z, z < 3 → z ≠ v → M1 (rr z) = some ((3, 2 + z), e_n Y 37 (g z))) → (∀ k, k < i → row k = pw p x k) → (hp_off (fun i => i = 3) M M1) → hp_st D vC lo M1 sg.heap H locs → lv_has ls 4 [(0, .ref ta), (1, .int (nI v)), (2, .int (nI x)), (3, .int (nI i))] → cW pg l eg sg mg [.ref ta, .int (nI v), .int (nI x)] bw mt cg y_T_fillRow b_T_fillRow 4 none 1 D lo (fun r M' => r = none ∧ (∃ g' : Nat → Nat → Nat, (∀ k, k < 37 → g' v k = pw p x k) ∧ (∀ z, z ≠ v → g' z = g z) ∧ pt Y M' ta fa g') ∧ hp_off (fun i => i = 3) M M') nx 0 0 H locs 0 0 (F0 mg 11 ls []) := by
    intro kk
    induction kk using Nat.strongRecOn with
    | _ kk ihLP =>
    intro i row M1 H locs ls hkk hi1 hi t0 t1 tv tw hrow ho hst hl
    have hfi : fd M1 fa p := hf.off ho (by omega)
    have hf0 := hfi.1
    refine lv_iload_n hx hb dT_fillRow_11 rfl (lv_at hl 3 rfl) ?_
    refine lv_bipush (v := nI 36) hx hb dT_fillRow_12 (by decide +kernel) ?_
    refine lv_icmp_gt hx hb dT_fillRow_14 (tgt := 49) rfl (fun hc => ?_) (fun hc => ?_)
    · skip
      have hc : 36 < i := (nI_ltI (by omega) (by omega)).mp hc
      have hi37 : i = 37 := by omega
      exact ct_vret X hst ⟨rfl, ⟨fun z => if z = v then row else g z, fun k hk => (by
        show (if v = v then row else g v) k = _
        rw [if_pos rfl]; exact hrow k (by omega)), fun z hz => if_neg hz, ⟨ra, rr, t0, ⟨gg, t1, hgg⟩, fun z hz => by
        by_cases h9 : z = v
        · rw [h9]
          show M1 (rr v) = some ((3, 2 + v), e_n Y 37 (if v = v then row else g v))
          rw [if_pos rfl]; exact tv
        · show M1 (rr z) = some ((3, 2 + z), e_n Y 37 (if z = v then row else g z))
          rw [if_neg h9]; exact tw z hz h9⟩⟩, ho⟩ (by omega) (by omega) dT_fillRow_49
    · skip
      have hc : ¬ 36 < i := fun z => hc ((nI_ltI (by omega) (by omega)).mpr z)
      refine lv_aload_n hx hb dT_fillRow_17 rfl (lv_at hl 0 rfl) ?_
      refine hp_get hx hb hG in_T hown hK hst t0 rfl 1 (by decide) (hG _ fl_T_13) rfl rfl dT_fillRow_18 ?_
      refine lv_iload_n hx hb dT_fillRow_21 rfl (lv_at hl 1 rfl) ?_
      refine hp_gald hx hb hK rfl hst t1 (j := v) (v := rr v) hv (by omega) (hgg v hv) dT_fillRow_22 ?_
      refine lv_iload_n hx hb dT_fillRow_23 rfl (lv_at hl 3 rfl) ?_
      refine lv_aload_n hx hb dT_fillRow_24 rfl (lv_at hl 0 rfl) ?_
      refine hp_get hx hb hG in_T hown hK hst t0 rfl 0 (by decide) (hG _ fl_T_18) rfl rfl dT_fillRow_25 ?_
      refine lv_aload_n hx hb dT_fillRow_28 rfl (lv_at hl 0 rfl) ?_
      refine hp_get hx hb hG in_T hown hK hst t0 rfl 1 (by decide) (hG _ fl_T_13) rfl rfl dT_fillRow_29 ?_
      refine lv_iload_n hx hb dT_fillRow_32 rfl (lv_at hl 1 rfl) ?_
      refine hp_gald hx hb hK rfl hst t1 (j := v) (v := rr v) hv (by omega) (hgg v hv) dT_fillRow_33 ?_
      refine lv_iload_n hx hb dT_fillRow_34 rfl (lv_at hl 3 rfl) ?_
      refine lv_iconst (v := nI 1) hx hb dT_fillRow_35 (by decide +kernel) ?_
      refine t_isub hx hb dT_fillRow_36 (v := nI (i - 1)) (pk_sub (by omega)) ?_
      refine hp_iald hx hb hK rfl hst tv (j := (i - 1)) (by omega) (by omega) dT_fillRow_37 ?_
      refine tp_n (e2 := pw p x (i - 1)) (hrow (i - 1) (by omega)) ?_
      refine lv_iload_n hx hb dT_fillRow_38 rfl (lv_at hl 2 rfl) ?_
      refine ct_callV (av2 := [.int (nI (pw p x (i - 1))), .int (nI x)]) (rest := [.int (nI i), .ref (rr v)]) (b := fa) X hst (c_F_product l D Y lo hfi (pw_lt hpp (i - 1)) hxp) hf0 rfl wc_F_product ml_T_22 wi_F_product wl_F_product wn_F md_F_product (by decide) hl.1 rfl (Nat.le_of_ble_eq_true rfl) ⟨by omega, by omega⟩ (fun _ _ h => h.elim) dT_fillRow_39 (fun r M' H locs hp hst => ?_)
      obtain ⟨rfl, rfl⟩ := hp
      refine tp_n (e2 := pw p x i) (by
        have h9 : i = (i - 1) + 1 := by omega
        rw [show pw p x i = pw p x ((i - 1) + 1) by rw [← h9]]
        rfl) ?_
      refine hp_iast hx hb hK rfl hst tv (j := i) (v := (pw p x i)) (by omega) (by omega) dT_fillRow_42 (fun H locs hst => ?_)
      generalize hM7 : hp_up M1 (rr v) ((3, 2 + v), e_n Y 37 (va_up row i (pw p x i))) = M6 at hst
      have f8 : M6 (rr v) = some ((3, 2 + v), e_n Y 37 (va_up row i (pw p x i))) := by rw [← hM7]; exact hp_up_self _ _ _
      have f9 : M6 ta = some ((3, 0), .inr (2, [.ref fa, .ref ra])) := by rw [← hM7]; exact hp_kt tv t0 (tg2 (by omega))
      have f10 : M6 ra = some ((3, 1), e_g Y 3 gg) := by rw [← hM7]; exact hp_kt tv t1 (tg2 (by omega))
      have f11 : M6 fa = some ((1, 0), .inr (0, [.int (nI p)])) := by rw [← hM7]; exact hp_kt tv hf0 (tg1 (by decide))
      have o12 : hp_off (fun i => i = 3) M M6 := by rw [← hM7]; exact hp_off.tr ho (hp_off.up tv rfl)
      refine lv_iinc (lv' := [(3, .int (nI (i + 1))), (0, .ref ta), (1, .int (nI v)), (2, .int (nI x))]) hx hb dT_fillRow_43 hl (k := 3) rfl (ii_p _) (by decide) rfl (fun ls hl => ?_)
      refine lv_goto hx hb dT_fillRow_46 (tgt := 11) rfl ?_
      exact ihLP _ (by omega) (i + 1) (va_up row i (pw p x i)) M6 _ _ _ rfl (by omega) (by omega) f9 f10 f8 (fun z hz hzv => by rw [← hM7]; exact hp_kt tv (tw z hz hzv) (tg2 (by omega))) (fun k hk => by
          by_cases h9 : k = i
          · subst h9; exact va_up_self _ _ _
          · rw [va_up_ne _ _ h9]; exact hrow k (by omega)) o12 hst (lv_sub hl [1, 2, 3, 0] rfl)
  exact LP _ 1 (va_up (g v) 0 1) M1 _ _ _ rfl (by omega) (by omega) f4 f5 f3 (fun z hz hzv => by rw [← hM2]; exact hp_kt tv (t3 z hz) (tg2 (by omega))) (fun k hk => by
    have : k = 0 := by omega
    subst this
    exact va_up_self _ _ _) (by rw [← hM2]; exact hp_off.up tv rfl) hst (lv_sub hl [1, 2, 3, 0] rfl)

/-- the product of the first n variables' powers -/
def atF (p : Nat) (g : Nat → Nat → Nat) (k : Nat) : Nat → Nat
  | 0 => 1
  | n + 1 => atF p g k n * g n (xe k n) % p

set_option maxHeartbeats 4000000 in
set_option maxRecDepth 100000 in
theorem c_T_at (l : Launch) (D : va_G) (Y : Nat → ClassId) (lo : Nat) {M : Hm} {ta fa p : Nat} {gw : Nat → Nat → Nat} (ht : pt Y M ta fa gw) (hf : fd M fa p) (hgp : ∀ v k, v < 3 → k < 37 → gw v k < p) {k : Nat} (hm : mv k) : ct l D Y lo y_T_at b_T_at 4 (some .int) 1 [.ref ta, .int (nI k)] M (fun r M' => r = some (.int (nI (atF p gw k 3))) ∧ M = M') nx 0 0 := by
  refine ct_of (by decide) (Nat.le_of_ble_eq_true rfl) ?_
  intro pg eg sg mg bw mt cg ls X hst hl
  have X1 := X
  obtain ⟨hx, hb, hml, hrt, hlocks, hown, hnm, hts, hkz, hex⟩ := X1
  have hG : ∀ w ∈ GW, w.before _ sg = true := fun w h => hts w (List.mem_cons_of_mem _ h)
  have hK := hkz.1
  have hl : lv_has ls 4 [(0, .ref ta), (1, .int (nI k))] := hl
  have hpp := hf.2.1
  have hf0 := hf.1
  have hm9 := mv_lt hm
  obtain ⟨ra, rr, t0, ⟨gg, t1, hgg⟩, t3⟩ := ht
  refine lv_iconst (v := nI 1) hx hb dT_at_0 (by decide +kernel) ?_
  refine lv_istore_n (lv' := [(2, .int (nI 1)), (0, .ref ta), (1, .int (nI k))]) hx hb dT_at_1 rfl hl (by decide) rfl (fun ls hl => ?_)
  refine lv_iconst (v := nI 0) hx hb dT_at_2 (by decide +kernel) ?_
  refine lv_istore_n (lv' := [(3, .int (nI 0)), (2, .int (nI 1)), (0, .ref ta), (1, .int (nI k))]) hx hb dT_at_3 rfl hl (by decide) rfl (fun ls hl => ?_)
  have LP : ∀ (kk : Nat) (r9 v : Nat) (H : Heap) (locs : List Loc) (ls : Array Slot), kk = 4 - v → (r9 < p) → (v ≤ 3) → (r9 = atF p gw k v) → hp_st D vC lo M sg.heap H locs → lv_has ls 4 [(0, .ref ta), (1, .int (nI k)), (2, .int (nI r9)), (3, .int (nI v))] → cW pg l eg sg mg [.ref ta, .int (nI k)] bw mt cg y_T_at b_T_at 4 (some .int) 1 D lo (fun r M' => r = some (.int (nI (atF p gw k 3))) ∧ M = M') nx 0 0 H locs 0 0 (F0 mg 4 ls []) := by
    intro kk
    induction kk using Nat.strongRecOn with
    | _ kk ih =>
    intro r9 v H locs ls hkk hr9 hv9 hinv hst hl
    refine lv_iload_n hx hb dT_at_4 rfl (lv_at hl 3 rfl) ?_
    refine lv_iconst (v := nI 3) hx hb dT_at_5 (by decide +kernel) ?_
    refine lv_icmp_ge hx hb dT_at_6 (tgt := 36) rfl (fun hc => ?_) (fun hc => ?_)
    · skip
      have hc : 3 ≤ v := (nI_leI (by omega) (by omega)).mp hc
      have hv3 : v = 3 := by omega
      subst hv3
      have hinv : r9 = atF p gw k 3 := hinv
      refine lv_iload_n hx hb dT_at_36 rfl (lv_at hl 2 rfl) ?_
      exact ct_iret X hst ⟨by rw [hinv], rfl⟩ (by omega) (by omega) dT_at_37
    · skip
      have hc : ¬ 3 ≤ v := fun z => hc ((nI_leI (by omega) (by omega)).mpr z)
      have hv : v < 3 := by omega
      have tv := t3 v hv
      have hxv : xe k v ≤ 36 := by
        have h1 := hm.1
        refine co3 (P := fun v => xe k v ≤ 36) ?_ ?_ ?_ hv <;> omega
      refine lv_aload_n hx hb dT_at_9 rfl (lv_at hl 0 rfl) ?_
      refine hp_get hx hb hG in_T hown hK hst t0 rfl 0 (by decide) (hG _ fl_T_18) rfl rfl dT_at_10 ?_
      refine lv_iload_n hx hb dT_at_13 rfl (lv_at hl 2 rfl) ?_
      refine lv_aload_n hx hb dT_at_14 rfl (lv_at hl 0 rfl) ?_
      refine hp_get hx hb hG in_T hown hK hst t0 rfl 1 (by decide) (hG _ fl_T_13) rfl rfl dT_at_15 ?_
      refine lv_iload_n hx hb dT_at_18 rfl (lv_at hl 3 rfl) ?_
      refine hp_gald hx hb hK rfl hst t1 (j := v) (v := rr v) hv (by omega) (hgg v hv) dT_at_19 ?_
      refine lv_iload_n hx hb dT_at_20 rfl (lv_at hl 1 rfl) ?_
      refine lv_iload_n hx hb dT_at_21 rfl (lv_at hl 3 rfl) ?_
      refine ct_callS (av2 := [.int (nI k), .int (nI v)]) (rest := [.ref (rr v), .int (nI r9), .ref fa]) X hst (c_Q_exponent l D Y lo (k := k) (v := v) (by omega) hv) wc_Q_exponent ml_T_28 ws_Q_exponent wn_Q md_Q_exponent (by decide) hl.1 rfl (Nat.le_of_ble_eq_true rfl) ⟨by omega, by omega⟩ (fun _ _ h => h.elim) dT_at_22 (fun r M' H locs hp hst => ?_)
      obtain ⟨rfl, rfl⟩ := hp
      refine hp_iald hx hb hK rfl hst tv (j := (xe k v)) (by omega) (by omega) dT_at_25 ?_
      refine ct_callV (av2 := [.int (nI r9), .int (nI ((gw v) (xe k v)))]) (rest := []) (b := fa) X hst (c_F_product l D Y lo hf hr9 (hgp v (xe k v) hv (by omega))) hf0 rfl wc_F_product ml_T_22 wi_F_product wl_F_product wn_F md_F_product (by decide) hl.1 rfl (Nat.le_of_ble_eq_true rfl) ⟨by omega, by omega⟩ (fun _ _ h => h.elim) dT_at_26 (fun r M' H locs hp hst => ?_)
      obtain ⟨rfl, rfl⟩ := hp
      refine lv_istore_n (lv' := [(2, .int (nI (r9 * gw v (xe k v) % p))), (0, .ref ta), (1, .int (nI k)), (3, .int (nI v))]) hx hb dT_at_29 rfl hl (by decide) rfl (fun ls hl => ?_)
      refine lv_iinc (lv' := [(3, .int (nI (v + 1))), (2, .int (nI (r9 * gw v (xe k v) % p))), (0, .ref ta), (1, .int (nI k))]) hx hb dT_at_30 hl (k := 3) rfl (ii_p _) (by decide) rfl (fun ls hl => ?_)
      refine lv_goto hx hb dT_at_33 (tgt := 4) rfl ?_
      exact ih _ (by omega) (r9 * gw v (xe k v) % p) (v + 1) _ _ _ rfl (Nat.mod_lt _ (by omega)) (by omega) (by rw [hinv]; rfl) hst (lv_sub hl [2, 3, 1, 0] rfl)
  exact LP _ 1 0 _ _ _ rfl (by omega) (by omega) rfl hst (lv_sub hl [2, 3, 1, 0] rfl)
end
section
/-! The face's state in words, throws, and the small methods beside the face. -/
abbrev EI : String := "java/lang/IndexOutOfBoundsException"
abbrev EA : String := "java/lang/IllegalArgumentException"
abbrev eN : List String := ["java/lang/RuntimeException", "java/lang/Exception"]
theorem wd_ok {L : List Cond} (h : L.all (fun w => decide (w ∈ lw_tbl) && (goodWord w || nwB w)) = true) {args : Array Value} {s : State} (hG : ∀ w ∈ GW, w.before args s = true) (hN : ∀ w ∈ NW, va_Nw w s) : ∀ w ∈ L, w.before args s = true := by
  intro w hw
  have h1 := List.all_eq_true.mp h w hw
  rw [Bool.and_eq_true, decide_eq_true_eq, Bool.or_eq_true] at h1
  obtain ⟨h2, h3 | h3⟩ := h1
  · exact hG w (List.mem_filter.mpr ⟨h2, h3⟩)
  · have h4 := hN w (List.mem_filter.mpr ⟨h2, h3⟩)
    cases w <;> first | exact va_Nw.use rfl h4 | exact h4 | cases h3
theorem at_I : (vx_at0 R_H 151 EI eN).all (fun w => decide (w ∈ lw_tbl) && (goodWord w || nwB w)) = true := by decide +kernel
theorem at_A : (vx_at0 R_H 98 EA eN).all (fun w => decide (w ∈ lw_tbl) && (goodWord w || nwB w)) = true := by decide +kernel
theorem gd_I : ∀ w ∈ Cond.classLink R_H 149 EI :: Cond.initialized EI :: vx_at0 R_H 151 EI eN, vx_ot w = true := by
  have h : (Cond.classLink R_H 149 EI :: Cond.initialized EI :: vx_at0 R_H 151 EI eN).all vx_ot = true := by decide +kernel
  exact List.all_eq_true.mp h
theorem gd_A : ∀ w ∈ Cond.classLink R_H 96 EA :: Cond.initialized EA :: vx_at0 R_H 98 EA eN, vx_ot w = true := by
  have h : (Cond.classLink R_H 96 EA :: Cond.initialized EA :: vx_at0 R_H 98 EA eN).all vx_ot = true := by decide +kernel
  exact List.all_eq_true.mp h
section CTT
variable {p : Program} {l : Launch} {e : Env} {s : State} {m : MethodId} {av : List Value} {below : List Frame} {meth : Method} {c : Code} {y : MethodName} {cc : ByteArray} {mL : Nat} {ret : Option FieldType} {d : Nat} {D : va_G} {Y : Nat → ClassId} {lo : Nat} {Post : Option Value → Hm → Prop} {PX : String → Hm → Prop} {mc ms : Nat} {H : Heap} {locs : List Loc} {cells slots pc : Nat} {ls : Array Slot} {M : Hm} {rest : List Value}
/-- throw new E() in a method of the heap's class -/
theorem ct_throw {cls : String} {ik ic : Nat} (X : cx p s m av.toArray meth c y cc mL ret D Y lo) (hst : hp_st D vC lo M s.heap H locs) (hlt : l.stackTraces = false) (hy : y.cls = R_H) (hcls : Bundle.fit cls = true)
    (hk : Cond.classLink R_H ik cls ∈ GW) (hini : Cond.initialized cls ∈ GW) (hat : (vx_at0 R_H ic cls eN).all (fun w => decide (w ∈ lw_tbl) && (goodWord w || nwB w)) = true) (hgood : ∀ w ∈ Cond.classLink R_H ik cls :: Cond.initialized cls :: vx_at0 R_H ic cls eN, vx_ot w = true)
    (hsize : ls.size = mL) (hd : 6 ≤ d) (hrest : (rest.map fun v => v.category).sum ≤ 8) (hc : cells + 1 ≤ mc) (hs : slots + 6 ≤ ms) (hP : PX cls M)
    (d0 : decode cc pc = .ok (.new ik, 3)) (d3 : decode cc (pc + 3) = .ok (.dup, 1)) (d4 : decode cc (pc + 4) = .ok (.invokespecial ic, 3)) (d7 : decode cc (pc + 7) = .ok (.athrow, 1)) :
    cW p l e s m av below meth c y cc mL ret d D lo Post PX mc ms H locs cells slots (F0 m pc ls rest) := by
  obtain ⟨hx, hb, hml, hrt, hlocks, ho, hnm, hts, hkz, hex⟩ := X
  have hG : ∀ w ∈ GW, w.before av.toArray s = true := fun w h => hts w (List.mem_cons_of_mem _ h)
  rw [hy] at ho
  refine vx_throw0 (own := R_H) (cls := cls) (names := eN) (ik := ik) (ic := ic) (A := fun q => lo ≤ q) hx hb hlt ho hcls (by decide +kernel) (hG _ hk) (hG _ hini) (wd_ok hat hG hkz.2.2.2.1) hgood hkz.2.1 hkz.2.2.1 hst.2.1 (hsize.trans hml.symm) d0 d3 d4 d7 (fun x hx => (hex x hx).elim) (show 2 + 3 < d by omega) (show _ + (13 * (2 + 1) + 42) ≤ 36 * d by omega) hc hs hlocks (fun t ha hz hq => ⟨M, hP, hst.1.grown hz hq, Nat.le_trans hst.2.1.1 hz, fun q h1 h2 => (hq q (Nat.lt_of_lt_of_le h1 hst.2.1.1)).trans (hst.2.1.2.1 q h1 h2)⟩) hst.2.1.2.2 hc hs
end CTT
def inR (x : Int32) : Prop := ∃ j : Nat, j < 12 ∧ x = nI j
def inV (x : Int32) : Prop := ∃ j : Nat, j < 3 ∧ x = nI j
theorem in_of {x : Int32} {n : Nat} (h1 : ¬ x < 0) (h2 : x < nI n) (hn : n < 2 ^ 31) : ∃ j : Nat, j < n ∧ x = nI j := by
  obtain ⟨j, hj, rfl⟩ := nI_of h1
  exact ⟨j, (nI_ltI hj hn).mp h2, rfl⟩

set_option maxHeartbeats 4000000 in
set_option maxRecDepth 100000 in
theorem c_H_checkRegister (l : Launch) (D : va_G) (Y : Nat → ClassId) (lo : Nat) {M : Hm} {j : Nat} (hj : j < 12) : ct l D Y lo y_H_checkRegister b_H_checkRegister 1 none 0 [.int (nI j)] M (fun r M' => r = none ∧ M = M') nx 0 0 := by
  refine ct_of (by decide) (Nat.le_of_ble_eq_true rfl) ?_
  intro pg eg sg mg bw mt cg ls X hst hl
  have X1 := X
  obtain ⟨hx, hb, hml, hrt, hlocks, hown, hnm, hts, hkz, hex⟩ := X1
  have hG : ∀ w ∈ GW, w.before _ sg = true := fun w h => hts w (List.mem_cons_of_mem _ h)
  have hK := hkz.1
  have hl : lv_has ls 1 [(0, .int (nI j))] := hl
  refine lv_iload_n hx hb dH_checkRegister_0 rfl (lv_at hl 0 rfl) ?_
  refine lv_if_lt hx hb dH_checkRegister_1 (tgt := 10) rfl (fun hc => ?_) (fun hc => ?_)
  · skip
    rw [← nI_0] at hc
    have hc9 : j < 0 := (nI_ltI (by omega) (by omega)).mp hc
    exact absurd hc9 (by omega)
  · skip
    rw [← nI_0] at hc
    have hc9 : ¬ j < 0 := fun z => hc ((nI_ltI (by omega) (by omega)).mpr z)
    refine lv_iload_n hx hb dH_checkRegister_4 rfl (lv_at hl 0 rfl) ?_
    refine lv_bipush (v := nI 12) hx hb dH_checkRegister_5 (by decide +kernel) ?_
    refine lv_icmp_lt hx hb dH_checkRegister_7 (tgt := 18) rfl (fun hc => ?_) (fun hc => ?_)
    · skip
      have hc8 : j < 12 := (nI_ltI (by omega) (by omega)).mp hc
      exact ct_vret X hst ⟨rfl, rfl⟩ (by omega) (by omega) dH_checkRegister_18
    · skip
      have hc8 : ¬ j < 12 := fun z => hc ((nI_ltI (by omega) (by omega)).mpr z)
      exact absurd hj (by omega)

set_option maxHeartbeats 4000000 in
set_option maxRecDepth 100000 in
theorem x_H_checkRegister (l : Launch) (D : va_G) (Y : Nat → ClassId) (lo : Nat) (hlt : l.stackTraces = false) {M : Hm} {x : Int32} (hno : ¬ inR x) : ct l D Y lo y_H_checkRegister b_H_checkRegister 1 none 6 [.int x] M (fun _ _ => False) (fun E M' => E = EI ∧ M = M') 1 6 := by
  refine ct_of (by decide) (Nat.le_of_ble_eq_true rfl) ?_
  intro pg eg sg mg bw mt cg ls X hst hl
  have X1 := X
  obtain ⟨hx, hb, hml, hrt, hlocks, hown, hnm, hts, hkz, hex⟩ := X1
  have hG : ∀ w ∈ GW, w.before _ sg = true := fun w h => hts w (List.mem_cons_of_mem _ h)
  have hK := hkz.1
  have hl : lv_has ls 1 [(0, .int x)] := hl
  refine lv_iload_n hx hb dH_checkRegister_0 rfl (lv_at hl 0 rfl) ?_
  refine lv_if_lt hx hb dH_checkRegister_1 (tgt := 10) rfl (fun hc => ?_) (fun hc => ?_)
  · skip
    exact ct_throw (cls := EI) (ik := 149) (ic := 151) X hst hlt rfl (by decide +kernel) cl_H_149 wn_IndexOutOfBoundsException at_I gd_I hl.1 (by decide) (Nat.le_of_ble_eq_true rfl) (by omega) (by omega) ⟨rfl, rfl⟩ dH_checkRegister_10 dH_checkRegister_13 dH_checkRegister_14 dH_checkRegister_17
  · skip
    have hc0 := hc
    refine lv_iload_n hx hb dH_checkRegister_4 rfl (lv_at hl 0 rfl) ?_
    refine lv_bipush (v := nI 12) hx hb dH_checkRegister_5 (by decide +kernel) ?_
    refine lv_icmp_lt hx hb dH_checkRegister_7 (tgt := 18) rfl (fun hc => ?_) (fun hc => ?_)
    · exact absurd (in_of hc0 hc (by omega)) hno
    · skip
      exact ct_throw (cls := EI) (ik := 149) (ic := 151) X hst hlt rfl (by decide +kernel) cl_H_149 wn_IndexOutOfBoundsException at_I gd_I hl.1 (by decide) (Nat.le_of_ble_eq_true rfl) (by omega) (by omega) ⟨rfl, rfl⟩ dH_checkRegister_10 dH_checkRegister_13 dH_checkRegister_14 dH_checkRegister_17

set_option maxHeartbeats 4000000 in
set_option maxRecDepth 100000 in
theorem c_H_checkVariable (l : Launch) (D : va_G) (Y : Nat → ClassId) (lo : Nat) {M : Hm} {j : Nat} (hj : j < 3) : ct l D Y lo y_H_checkVariable b_H_checkVariable 1 none 0 [.int (nI j)] M (fun r M' => r = none ∧ M = M') nx 0 0 := by
  refine ct_of (by decide) (Nat.le_of_ble_eq_true rfl) ?_
  intro pg eg sg mg bw mt cg ls X hst hl
  have X1 := X
  obtain ⟨hx, hb, hml, hrt, hlocks, hown, hnm, hts, hkz, hex⟩ := X1
  have hG : ∀ w ∈ GW, w.before _ sg = true := fun w h => hts w (List.mem_cons_of_mem _ h)
  have hK := hkz.1
  have hl : lv_has ls 1 [(0, .int (nI j))] := hl
  refine lv_iload_n hx hb dH_checkVariable_0 rfl (lv_at hl 0 rfl) ?_
  refine lv_if_lt hx hb dH_checkVariable_1 (tgt := 9) rfl (fun hc => ?_) (fun hc => ?_)
  · skip
    rw [← nI_0] at hc
    have hc9 : j < 0 := (nI_ltI (by omega) (by omega)).mp hc
    exact absurd hc9 (by omega)
  · skip
    rw [← nI_0] at hc
    have hc9 : ¬ j < 0 := fun z => hc ((nI_ltI (by omega) (by omega)).mpr z)
    refine lv_iload_n hx hb dH_checkVariable_4 rfl (lv_at hl 0 rfl) ?_
    refine lv_iconst (v := nI 3) hx hb dH_checkVariable_5 (by decide +kernel) ?_
    refine lv_icmp_lt hx hb dH_checkVariable_6 (tgt := 17) rfl (fun hc => ?_) (fun hc => ?_)
    · skip
      have hc8 : j < 3 := (nI_ltI (by omega) (by omega)).mp hc
      exact ct_vret X hst ⟨rfl, rfl⟩ (by omega) (by omega) dH_checkVariable_17
    · skip
      have hc8 : ¬ j < 3 := fun z => hc ((nI_ltI (by omega) (by omega)).mpr z)
      exact absurd hj (by omega)

set_option maxHeartbeats 4000000 in
set_option maxRecDepth 100000 in
theorem x_H_checkVariable (l : Launch) (D : va_G) (Y : Nat → ClassId) (lo : Nat) (hlt : l.stackTraces = false) {M : Hm} {x : Int32} (hno : ¬ inV x) : ct l D Y lo y_H_checkVariable b_H_checkVariable 1 none 6 [.int x] M (fun _ _ => False) (fun E M' => E = EA ∧ M = M') 1 6 := by
  refine ct_of (by decide) (Nat.le_of_ble_eq_true rfl) ?_
  intro pg eg sg mg bw mt cg ls X hst hl
  have X1 := X
  obtain ⟨hx, hb, hml, hrt, hlocks, hown, hnm, hts, hkz, hex⟩ := X1
  have hG : ∀ w ∈ GW, w.before _ sg = true := fun w h => hts w (List.mem_cons_of_mem _ h)
  have hK := hkz.1
  have hl : lv_has ls 1 [(0, .int x)] := hl
  refine lv_iload_n hx hb dH_checkVariable_0 rfl (lv_at hl 0 rfl) ?_
  refine lv_if_lt hx hb dH_checkVariable_1 (tgt := 9) rfl (fun hc => ?_) (fun hc => ?_)
  · skip
    exact ct_throw (cls := EA) (ik := 96) (ic := 98) X hst hlt rfl (by decide +kernel) cl_H_96 wn_IllegalArgumentException at_A gd_A hl.1 (by decide) (Nat.le_of_ble_eq_true rfl) (by omega) (by omega) ⟨rfl, rfl⟩ dH_checkVariable_9 dH_checkVariable_12 dH_checkVariable_13 dH_checkVariable_16
  · skip
    have hc0 := hc
    refine lv_iload_n hx hb dH_checkVariable_4 rfl (lv_at hl 0 rfl) ?_
    refine lv_iconst (v := nI 3) hx hb dH_checkVariable_5 (by decide +kernel) ?_
    refine lv_icmp_lt hx hb dH_checkVariable_6 (tgt := 17) rfl (fun hc => ?_) (fun hc => ?_)
    · exact absurd (in_of hc0 hc (by omega)) hno
    · skip
      exact ct_throw (cls := EA) (ik := 96) (ic := 98) X hst hlt rfl (by decide +kernel) cl_H_96 wn_IllegalArgumentException at_A gd_A hl.1 (by decide) (Nat.le_of_ble_eq_true rfl) (by omega) (by omega) ⟨rfl, rfl⟩ dH_checkVariable_9 dH_checkVariable_12 dH_checkVariable_13 dH_checkVariable_16
end
section
/-! The class's state: A the addresses (0 field, 1 sheet, 2 powers, 3 registers, 4 minors, from 10 on the polynomials), P the registers' polynomials, cap the rooms, si which polynomial stands where (12: spare). -/
def cs (Y : Nat → ClassId) (M : Hm) (xa : Nat) (A : Nat → Nat) (p : Nat) (P : Nat → Pf) (cap si : Nat → Nat) (rf : Nat) : Prop :=
  M xa = some ((0, 0), .inr (4, [.ref (A 0), .ref (A 1), .ref (A 2), .ref (A 3), .ref (A 4), .ref (A (si 12)), .int (nI rf)])) ∧
  (∃ gr : Nat → Option Nat, M (A 3) = some ((0, 1), e_q Y 12 gr) ∧ ∀ r, r < 12 → gr r = some (A (si r))) ∧
  (∃ gn : Nat → Option Nat, M (A 4) = some ((0, 2), e_q Y 256 gn) ∧ ∀ c, c < 256 → gn c = some (A (30 + c))) ∧
  (fd M (A 0) p ∧ pr p) ∧ sh Y M (A 1) (A 0) (fun _ => 0) ∧ (∃ g : Nat → Nat → Nat, pt Y M (A 2) (A 0) g) ∧
  ((∀ i, i ≤ 12 → 10 ≤ si i ∧ si i < 23) ∧ ∀ i j, i ≤ 12 → j ≤ 12 → si i = si j → i = j) ∧
  (∀ r, r < 12 → po Y M (si r) (A (si r)) (cap (si r)) (tp (P r))) ∧ (∃ L, po Y M (si 12) (A (si 12)) (cap (si 12)) L) ∧
  (∀ c, c < 256 → ∃ L, po Y M (30 + c) (A (30 + c)) (cap (30 + c)) L) ∧ (∀ i, i ≤ 12 → cap (si i) ≤ 18278) ∧ (∀ c, c < 256 → cap (30 + c) ≤ 338) ∧ ∀ r, r < 12 → ∀ m, P r m < p
/-- the rooms' sum -/
def sm (f : Nat → Nat) : Nat → Nat
  | 0 => 0
  | n + 1 => sm f n + f n
theorem sm_up {f : Nat → Nat} {i v : Nat} : ∀ {n : Nat}, (n ≤ i → sm (va_up f i v) n = sm f n) ∧ (i < n → sm (va_up f i v) n + f i = sm f n + v) := by
  intro n
  induction n with
  | zero => exact ⟨fun _ => rfl, fun h => by omega⟩
  | succ n ih =>
    constructor
    · intro h
      show sm (va_up f i v) n + va_up f i v n = sm f n + f n
      rw [ih.1 (by omega), va_up_ne _ _ (by omega)]
    · intro h
      show sm (va_up f i v) n + va_up f i v n + f i = sm f n + f n + v
      by_cases hn : i = n
      · subst hn
        rw [ih.1 (Nat.le_refl _), va_up_self]
        omega
      · have := ih.2 (by omega)
        rw [va_up_ne _ _ (fun z => hn z.symm)]
        omega
section CSL
variable {Y : Nat → ClassId} {M M' : Hm} {xa p rf : Nat} {A cap si : Nat → Nat} {P : Nat → Pf}
/-- a polynomial of the pool that isn't a register's part of the world stays -/
theorem cs.reg (h : cs Y M xa A p P cap si rf) {r : Nat} (hr : r < 12) (ho : hp_off (fun i => i = 2 ∨ i = si r) M M') (hs : sh Y M' (A 1) (A 0) (fun _ => 0)) {g : Pf} {cp : Nat} (hp : po Y M' (si r) (A (si r)) cp (tp g)) (hcp : cp ≤ 18278) (hg : ∀ m, g m < p) : cs Y M' xa A p (va_up P r g) (va_up cap (si r) cp) si rf := by
  obtain ⟨x0, ⟨gr, x1, hgr⟩, ⟨gn, x2, hgn⟩, ⟨hf, hpr⟩, hs0, ⟨gw, ht⟩, ⟨hs1, hs2⟩, hP, ⟨LS, hS⟩, hN, hc1, hc2, hPp⟩ := h
  have hb := hs1 r (by omega)
  have hne : ∀ i, i ≤ 12 → i ≠ r → si i ≠ si r := fun i hi hir z => hir (hs2 i r hi (by omega) z)
  refine ⟨ho.of x0 (by omega), ⟨gr, ho.of x1 (by omega), hgr⟩, ⟨gn, ho.of x2 (by omega), hgn⟩, ⟨hf.off ho (by omega), hpr⟩, hs, ⟨gw, ht.off ho (by omega)⟩, ⟨hs1, hs2⟩, ?_, ⟨LS, ?_⟩, ?_, ?_, ?_, ?_⟩
  · intro i hi
    by_cases hir : i = r
    · subst hir
      rw [va_up_self, va_up_self]
      exact hp
    · have h1 := hne i (by omega) hir
      have h2 := hs1 i (by omega)
      rw [va_up_ne _ _ h1, va_up_ne _ _ hir]
      exact (hP i hi).off ho (by omega)
  · have h1 := hne 12 (by omega) (by omega)
    have h2 := hs1 12 (by omega)
    rw [va_up_ne _ _ h1]
    exact hS.off ho (by omega)
  · intro c hc
    obtain ⟨L, hL⟩ := hN c hc
    rw [va_up_ne _ _ (by omega)]
    exact ⟨L, hL.off ho (by omega)⟩
  · intro i hi
    by_cases hir : i = r
    · subst hir
      rw [va_up_self]
      exact hcp
    · rw [va_up_ne _ _ (hne i hi hir)]
      exact hc1 i hi
  · intro c hc
    rw [va_up_ne _ _ (by omega)]
    exact hc2 c hc
  · intro i hi m
    by_cases hir : i = r
    · subst hir
      rw [va_up_self]
      exact hg m
    · rw [va_up_ne _ _ hir]
      exact hPp i hi m
/-- .. and the spare one -/
theorem cs.spr (h : cs Y M xa A p P cap si rf) (ho : hp_off (fun i => i = 2 ∨ i = si 12) M M') (hs : sh Y M' (A 1) (A 0) (fun _ => 0)) {L : List (Nat × Nat)} {cp : Nat} (hp : po Y M' (si 12) (A (si 12)) cp L) (hcp : cp ≤ 18278) : cs Y M' xa A p P (va_up cap (si 12) cp) si rf := by
  obtain ⟨x0, ⟨gr, x1, hgr⟩, ⟨gn, x2, hgn⟩, ⟨hf, hpr⟩, hs0, ⟨gw, ht⟩, ⟨hs1, hs2⟩, hP, ⟨LS, hS⟩, hN, hc1, hc2, hPp⟩ := h
  have hb := hs1 12 (by omega)
  have hne : ∀ i, i ≤ 12 → i ≠ 12 → si i ≠ si 12 := fun i hi hir z => hir (hs2 i 12 hi (by omega) z)
  refine ⟨ho.of x0 (by omega), ⟨gr, ho.of x1 (by omega), hgr⟩, ⟨gn, ho.of x2 (by omega), hgn⟩, ⟨hf.off ho (by omega), hpr⟩, hs, ⟨gw, ht.off ho (by omega)⟩, ⟨hs1, hs2⟩, ?_, ⟨L, ?_⟩, ?_, ?_, ?_, hPp⟩
  · intro i hi
    have h1 := hne i (by omega) (by omega)
    have h2 := hs1 i (by omega)
    rw [va_up_ne _ _ h1]
    exact (hP i hi).off ho (by omega)
  · rw [va_up_self]
    exact hp
  · intro c hc
    obtain ⟨L, hL⟩ := hN c hc
    rw [va_up_ne _ _ (by omega)]
    exact ⟨L, hL.off ho (by omega)⟩
  · intro i hi
    by_cases hir : i = 12
    · subst hir
      rw [va_up_self]
      exact hcp
    · rw [va_up_ne _ _ (hne i hi hir)]
      exact hc1 i hi
  · intro c hc
    rw [va_up_ne _ _ (by omega)]
    exact hc2 c hc
/-- nothing of the class has changed -/
theorem cs.off (h : cs Y M xa A p P cap si rf) {S : Nat → Prop} (ho : hp_off S M M') (hS : ∀ i, i < 300 → ¬ S i) : cs Y M' xa A p P cap si rf := by
  obtain ⟨x0, ⟨gr, x1, hgr⟩, ⟨gn, x2, hgn⟩, ⟨hf, hpr⟩, hs0, ⟨gw, ht⟩, ⟨hs1, hs2⟩, hP, ⟨LS, hS9⟩, hN, hc1, hc2, hPp⟩ := h
  exact ⟨ho.of x0 (hS 0 (by omega)), ⟨gr, ho.of x1 (hS 0 (by omega)), hgr⟩, ⟨gn, ho.of x2 (hS 0 (by omega)), hgn⟩, ⟨hf.off ho (hS 1 (by omega)), hpr⟩, hs0.off ho (hS 2 (by omega)), ⟨gw, ht.off ho (hS 3 (by omega))⟩, ⟨hs1, hs2⟩, fun r hr => (hP r hr).off ho (hS _ (by have := hs1 r (by omega); omega)), ⟨LS, hS9.off ho (hS _ (by have := hs1 12 (by omega); omega))⟩, fun c hc => (hN c hc).imp fun L hL => hL.off ho (hS _ (by omega)), hc1, hc2, hPp⟩
end CSL
/-- the spare one changes places with register r -/
def sw (si : Nat → Nat) (r : Nat) : Nat → Nat := fun i => if i = r then si 12 else if i = 12 then si r else si i

theorem room_le {s : State} {pl : Platform} {d d' mc mc' ms ms' : Nat} (hd : d ≤ d') (hc : mc ≤ mc') (hs : ms ≤ ms') (h : s.hasRoom pl (rmL d' mc' ms') = true) : s.hasRoom pl (rmL d mc ms) = true := by
  unfold State.hasRoom at h ⊢
  simp only [Bool.and_eq_true, decide_eq_true_eq] at h ⊢
  have e1 : (rmL d mc ms).locals ≤ (rmL d' mc' ms').locals := Nat.mul_le_mul_left 36 hd
  have e2 : (rmL d mc ms).frames ≤ (rmL d' mc' ms').frames := hd
  have e3 : (rmL d mc ms).cells ≤ (rmL d' mc' ms').cells := hc
  have e4 : (rmL d mc ms).slots ≤ (rmL d' mc' ms').slots := hs
  generalize rmL d mc ms = R1 at *
  generalize rmL d' mc' ms' = R2 at *
  obtain ⟨⟨⟨⟨a1, a2, a3, a4, a5, a6⟩, a7⟩, a8⟩, a9⟩ := h
  exact ⟨⟨⟨⟨by omega, by omega, by omega, by omega, by omega, a6⟩, by omega⟩, by omega⟩, a9⟩
theorem ct_room {ws : List Cond} {y : MethodName} {s : State} {pl : Platform} {d d' mc mc' ms ms' : Nat} (hd : d ≤ d') (hc : mc ≤ mc') (hs : ms ≤ ms') (h : (headSpec ws (rmL d' mc' ms')).appliesLoose y pl s = true) : (headSpec ws (rmL d mc ms)).appliesLoose y pl s = true := by
  unfold Spec.appliesLoose at h ⊢
  split at h
  · simp only [Bool.and_eq_true] at h ⊢
    exact ⟨⟨h.1.1, room_le hd hc hs h.1.2⟩, h.2⟩
  · cases h
/-- a contract may say less, and charge more -/
theorem ct_wk {l : Launch} {D : va_G} {Y : Nat → ClassId} {lo : Nat} {y : MethodName} {cc : ByteArray} {mL : Nat} {ret : Option FieldType} {d d' : Nat} {av : List Value} {M : Hm} {Post Post' : Option Value → Hm → Prop} {PX PX' : String → Hm → Prop} {mc ms mc' ms' : Nat} (h : ct l D Y lo y cc mL ret d av M Post PX mc ms) (h1 : ∀ r M', Post r M' → Post' r M') (h2 : ∀ E M', PX E M' → PX' E M') (hd : d ≤ d') (hc : mc ≤ mc') (hs : ms ≤ ms') : ct l D Y lo y cc mL ret d' av M Post' PX' mc' ms' := by
  intro p e ha hcc hk s m args below hf happ hP hK
  have hap : (headSpec (.code y cc mL ret :: GW) (rmL d mc ms)).appliesLoose y e.platform s = true := ct_room hd hc hs happ
  obtain ⟨n, o, k1, k2, k3, k4⟩ := h p e ha hcc hk s m args below hf hap hP hK
  refine ⟨n, o, k1, k2, k3, ?_⟩
  rcases k4 with ⟨⟨⟨r, M', q1, q2, q3⟩, q4⟩, L, hF, hL⟩ | ⟨q, hq, E, ce, L, ⟨M', hx, q3, q4⟩, z1, z2, z3, z4, z5, z6⟩
  · exact Or.inl ⟨⟨⟨r, M', q1, h1 r M' q2, q3⟩, q4⟩, L, ⟨hF.1, hF.2.1, hF.2.2.mono hc hs⟩, hL⟩
  · exact Or.inr ⟨q, hq, E, ce, L, ⟨M', h2 E M' hx, q3, q4⟩, z1, z2, z3, z4, z5.mono hc hs, z6⟩

set_option maxHeartbeats 4000000 in
set_option maxRecDepth 100000 in
theorem c_H_checkRegisters (l : Launch) (D : va_G) (Y : Nat → ClassId) (lo : Nat) {M : Hm} {a9 b9 c9 : Nat} (ha : a9 < 12) (hb9 : b9 < 12) (hc9 : c9 < 12) : ct l D Y lo y_H_checkRegisters b_H_checkRegisters 3 none 1 [.int (nI a9), .int (nI b9), .int (nI c9)] M (fun r M' => r = none ∧ M = M') nx 0 0 := by
  refine ct_of (by decide) (Nat.le_of_ble_eq_true rfl) ?_
  intro pg eg sg mg bw mt cg ls X hst hl
  have X1 := X
  obtain ⟨hx, hb, hml, hrt, hlocks, hown, hnm, hts, hkz, hex⟩ := X1
  have hG : ∀ w ∈ GW, w.before _ sg = true := fun w h => hts w (List.mem_cons_of_mem _ h)
  have hK := hkz.1
  have hl : lv_has ls 3 [(0, .int (nI a9)), (1, .int (nI b9)), (2, .int (nI c9))] := hl
  refine lv_iload_n hx hb dH_checkRegisters_0 rfl (lv_at hl 0 rfl) ?_
  refine ct_callS (av2 := [.int (nI a9)]) (rest := []) X hst (c_H_checkRegister l D Y lo ha) wc_H_checkRegister ml_H_48 ws_H_checkRegister wn_H md_H_checkRegister (by decide) hl.1 rfl (Nat.le_of_ble_eq_true rfl) ⟨by omega, by omega⟩ (fun _ _ h => h.elim) dH_checkRegisters_1 (fun r M' H locs hp hst => ?_)
  obtain ⟨rfl, rfl⟩ := hp
  refine lv_iload_n hx hb dH_checkRegisters_4 rfl (lv_at hl 1 rfl) ?_
  refine ct_callS (av2 := [.int (nI b9)]) (rest := []) X hst (c_H_checkRegister l D Y lo hb9) wc_H_checkRegister ml_H_48 ws_H_checkRegister wn_H md_H_checkRegister (by decide) hl.1 rfl (Nat.le_of_ble_eq_true rfl) ⟨by omega, by omega⟩ (fun _ _ h => h.elim) dH_checkRegisters_5 (fun r M' H locs hp hst => ?_)
  obtain ⟨rfl, rfl⟩ := hp
  refine lv_iload_n hx hb dH_checkRegisters_8 rfl (lv_at hl 2 rfl) ?_
  refine ct_callS (av2 := [.int (nI c9)]) (rest := []) X hst (c_H_checkRegister l D Y lo hc9) wc_H_checkRegister ml_H_48 ws_H_checkRegister wn_H md_H_checkRegister (by decide) hl.1 rfl (Nat.le_of_ble_eq_true rfl) ⟨by omega, by omega⟩ (fun _ _ h => h.elim) dH_checkRegisters_9 (fun r M' H locs hp hst => ?_)
  obtain ⟨rfl, rfl⟩ := hp
  exact ct_vret X hst ⟨rfl, rfl⟩ (by omega) (by omega) dH_checkRegisters_12

theorem x_cr_call {l : Launch} {D : va_G} {Y : Nat → ClassId} {lo : Nat} (hlt : l.stackTraces = false) (x : Int32) (M : Hm) : ct l D Y lo y_H_checkRegister b_H_checkRegister 1 none 6 [.int x] M (fun r M' => r = none ∧ M = M' ∧ inR x) (fun E M' => E = EI ∧ M = M' ∧ ¬ inR x) 1 6 := by
  by_cases h : inR x
  · obtain ⟨j, hj, rfl⟩ := h
    exact ct_wk (c_H_checkRegister l D Y lo hj) (fun r M' hp => ⟨hp.1, hp.2, j, hj, rfl⟩) (fun E M' hp => hp.elim) (by omega) (by omega) (by omega)
  · exact ct_wk (x_H_checkRegister l D Y lo hlt h) (fun r M' hp => hp.elim) (fun E M' hp => ⟨hp.1, hp.2, h⟩) (by omega) (by omega) (by omega)
theorem x_cv_call {l : Launch} {D : va_G} {Y : Nat → ClassId} {lo : Nat} (hlt : l.stackTraces = false) (x : Int32) (M : Hm) : ct l D Y lo y_H_checkVariable b_H_checkVariable 1 none 6 [.int x] M (fun r M' => r = none ∧ M = M' ∧ inV x) (fun E M' => E = EA ∧ M = M' ∧ ¬ inV x) 1 6 := by
  by_cases h : inV x
  · obtain ⟨j, hj, rfl⟩ := h
    exact ct_wk (c_H_checkVariable l D Y lo hj) (fun r M' hp => ⟨hp.1, hp.2, j, hj, rfl⟩) (fun E M' hp => hp.elim) (by omega) (by omega) (by omega)
  · exact ct_wk (x_H_checkVariable l D Y lo hlt h) (fun r M' hp => hp.elim) (fun E M' hp => ⟨hp.1, hp.2, h⟩) (by omega) (by omega) (by omega)

set_option maxHeartbeats 4000000 in
set_option maxRecDepth 100000 in
theorem x_H_checkRegisters (l : Launch) (D : va_G) (Y : Nat → ClassId) (lo : Nat) (hlt : l.stackTraces = false) {M : Hm} {a9 b9 c9 : Int32} (hno : ¬ (inR a9 ∧ inR b9 ∧ inR c9)) : ct l D Y lo y_H_checkRegisters b_H_checkRegisters 3 none 7 [.int a9, .int b9, .int c9] M (fun _ _ => False) (fun E M' => E = EI ∧ M = M') 3 18 := by
  refine ct_of (by decide) (Nat.le_of_ble_eq_true rfl) ?_
  intro pg eg sg mg bw mt cg ls X hst hl
  have X1 := X
  obtain ⟨hx, hb, hml, hrt, hlocks, hown, hnm, hts, hkz, hex⟩ := X1
  have hG : ∀ w ∈ GW, w.before _ sg = true := fun w h => hts w (List.mem_cons_of_mem _ h)
  have hK := hkz.1
  have hl : lv_has ls 3 [(0, .int a9), (1, .int b9), (2, .int c9)] := hl
  refine lv_iload_n hx hb dH_checkRegisters_0 rfl (lv_at hl 0 rfl) ?_
  refine ct_callS (av2 := [.int a9]) (rest := []) X hst (x_cr_call hlt a9 M) wc_H_checkRegister ml_H_48 ws_H_checkRegister wn_H md_H_checkRegister (by decide) hl.1 rfl (Nat.le_of_ble_eq_true rfl) ⟨by omega, by omega⟩ (fun E M1 h => ⟨h.1, h.2.1⟩) dH_checkRegisters_1 (fun r M' H locs hp hst => ?_)
  obtain ⟨rfl, rfl, hra⟩ := hp
  refine lv_iload_n hx hb dH_checkRegisters_4 rfl (lv_at hl 1 rfl) ?_
  refine ct_callS (av2 := [.int b9]) (rest := []) X hst (x_cr_call hlt b9 M) wc_H_checkRegister ml_H_48 ws_H_checkRegister wn_H md_H_checkRegister (by decide) hl.1 rfl (Nat.le_of_ble_eq_true rfl) ⟨by omega, by omega⟩ (fun E M1 h => ⟨h.1, h.2.1⟩) dH_checkRegisters_5 (fun r M' H locs hp hst => ?_)
  obtain ⟨rfl, rfl, hrb⟩ := hp
  refine lv_iload_n hx hb dH_checkRegisters_8 rfl (lv_at hl 2 rfl) ?_
  refine ct_callS (av2 := [.int c9]) (rest := []) X hst (x_cr_call hlt c9 M) wc_H_checkRegister ml_H_48 ws_H_checkRegister wn_H md_H_checkRegister (by decide) hl.1 rfl (Nat.le_of_ble_eq_true rfl) ⟨by omega, by omega⟩ (fun E M1 h => ⟨h.1, h.2.1⟩) dH_checkRegisters_9 (fun r M' H locs hp hst => ?_)
  obtain ⟨rfl, rfl, hrc⟩ := hp
  exact absurd ⟨hra, hrb, hrc⟩ hno

set_option maxHeartbeats 4000000 in
set_option maxRecDepth 100000 in
theorem c_H_refuse (l : Launch) (D : va_G) (Y : Nat → ClassId) (lo : Nat) {M : Hm} {xa p rf : Nat} {A cap si : Nat → Nat} {P : Nat → Pf} (hcs : cs Y M xa A p P cap si rf) : ct l D Y lo y_H_refuse b_H_refuse 1 (some .boolean) 0 [.ref xa] M (fun r M' => r = some (.int (nI 0)) ∧ cs Y M' xa A p P cap si (rf + 1) ∧ hp_off (fun i => i = 0) M M') nx 0 0 := by
  refine ct_of (by decide) (Nat.le_of_ble_eq_true rfl) ?_
  intro pg eg sg mg bw mt cg ls X hst hl
  have X1 := X
  obtain ⟨hx, hb, hml, hrt, hlocks, hown, hnm, hts, hkz, hex⟩ := X1
  have hG : ∀ w ∈ GW, w.before _ sg = true := fun w h => hts w (List.mem_cons_of_mem _ h)
  have hK := hkz.1
  have hl : lv_has ls 1 [(0, .ref xa)] := hl
  obtain ⟨x0, ⟨gr, x1, hgr⟩, ⟨gn, x2, hgn⟩, ⟨hf, hpr⟩, hs, ⟨gw, ht⟩, ⟨hs1, hs2⟩, hP, ⟨LS, hS⟩, hN, hc1, hc2, hPp⟩ := hcs
  refine lv_aload_n hx hb dH_refuse_0 rfl (lv_at hl 0 rfl) ?_
  refine lv_dup hx hb dH_refuse_1 rfl ?_
  refine hp_get hx hb hG in_H hown hK hst x0 rfl 6 (by decide) (hG _ fl_H_179) rfl rfl dH_refuse_2 ?_
  refine lv_iconst (v := nI 1) hx hb dH_refuse_5 (by decide +kernel) ?_
  refine t_iadd hx hb dH_refuse_6 (v := nI (rf + 1)) (nI_add _ _) ?_
  refine hp_put hx hb hG in_H ty_H tyok_H nm_H hown hK hst x0 rfl 6 (by decide) (hG _ fl_H_179) rfl rfl rfl rfl (Nat.le_of_ble_eq_true rfl) dH_refuse_7 (fs' := [.ref (A 0), .ref (A 1), .ref (A 2), .ref (A 3), .ref (A 4), .ref (A (si 12)), .int (nI (rf + 1))]) rfl (fun H locs hst => ?_)
  generalize hM2 : hp_up M xa ((0, 0), .inr (4, [.ref (A 0), .ref (A 1), .ref (A 2), .ref (A 3), .ref (A 4), .ref (A (si 12)), .int (nI (rf + 1))])) = M1 at hst
  have f3 : M1 xa = some ((0, 0), .inr (4, [.ref (A 0), .ref (A 1), .ref (A 2), .ref (A 3), .ref (A 4), .ref (A (si 12)), .int (nI (rf + 1))])) := by rw [← hM2]; exact hp_up_self _ _ _
  have f4 : M1 (A 3) = some ((0, 1), e_q Y 12 gr) := by rw [← hM2]; exact hp_kt x0 x1 (tg2 (by decide))
  have f5 : M1 (A 4) = some ((0, 2), e_q Y 256 gn) := by rw [← hM2]; exact hp_kt x0 x2 (tg2 (by decide))
  have o6 : hp_off (fun i => i = 0) M M1 := by rw [← hM2]; exact hp_off.up x0 rfl
  refine lv_iconst (v := nI 0) hx hb dH_refuse_10 (by decide +kernel) ?_
  exact ct_zret X hst (by omega) ⟨rfl, ⟨f3, ⟨gr, f4, hgr⟩, ⟨gn, f5, hgn⟩, ⟨hf.off o6 (by omega), hpr⟩, hs.off o6 (by omega), ⟨gw, ht.off o6 (by omega)⟩, ⟨hs1, hs2⟩, fun r hr => (hP r hr).off o6 (by have := hs1 r (by omega); omega), ⟨LS, hS.off o6 (by have := hs1 12 (by omega); omega)⟩, fun c hc => (hN c hc).imp fun L hL => hL.off o6 (by omega), hc1, hc2, hPp⟩, o6⟩ (by omega) (by omega) dH_refuse_11

set_option maxHeartbeats 4000000 in
set_option maxRecDepth 100000 in
theorem c_H_exchangeSpare (l : Launch) (D : va_G) (Y : Nat → ClassId) (lo : Nat) {M : Hm} {xa p rf : Nat} {A cap si : Nat → Nat} {P : Nat → Pf} (hcs : cs Y M xa A p P cap si rf) {r : Nat} (hr : r < 12) {g : Pf} (hS0 : po Y M (si 12) (A (si 12)) (cap (si 12)) (tp g)) (hg : ∀ m, g m < p) : ct l D Y lo y_H_exchangeSpare b_H_exchangeSpare 3 none 0 [.ref xa, .int (nI r)] M (fun r9 M' => r9 = none ∧ cs Y M' xa A p (va_up P r g) cap (sw si r) rf ∧ hp_off (fun i => i = 0) M M') nx 0 0 := by
  refine ct_of (by decide) (Nat.le_of_ble_eq_true rfl) ?_
  intro pg eg sg mg bw mt cg ls X hst hl
  have X1 := X
  obtain ⟨hx, hb, hml, hrt, hlocks, hown, hnm, hts, hkz, hex⟩ := X1
  have hG : ∀ w ∈ GW, w.before _ sg = true := fun w h => hts w (List.mem_cons_of_mem _ h)
  have hK := hkz.1
  have hl : lv_has ls 3 [(0, .ref xa), (1, .int (nI r))] := hl
  obtain ⟨x0, ⟨gr, x1, hgr⟩, ⟨gn, x2, hgn⟩, ⟨hf, hpr⟩, hs, ⟨gw, ht⟩, ⟨hs1, hs2⟩, hP, ⟨LS, hS⟩, hN, hc1, hc2, hPp⟩ := hcs
  refine lv_aload_n hx hb dH_exchangeSpare_0 rfl (lv_at hl 0 rfl) ?_
  refine hp_get hx hb hG in_H hown hK hst x0 rfl 3 (by decide) (hG _ fl_H_11) rfl rfl dH_exchangeSpare_1 ?_
  refine lv_iload_n hx hb dH_exchangeSpare_4 rfl (lv_at hl 1 rfl) ?_
  refine hp_aald hx hb hK rfl hst x1 (j := r) (v := (A (si r))) (by omega) (by omega) (hgr r hr) dH_exchangeSpare_5 ?_
  refine lv_astore_n (lv' := [(2, .ref (A (si r))), (0, .ref xa), (1, .int (nI r))]) hx hb dH_exchangeSpare_6 rfl hl (by decide) rfl (fun ls hl => ?_)
  refine lv_aload_n hx hb dH_exchangeSpare_7 rfl (lv_at hl 1 rfl) ?_
  refine hp_get hx hb hG in_H hown hK hst x0 rfl 3 (by decide) (hG _ fl_H_11) rfl rfl dH_exchangeSpare_8 ?_
  refine lv_iload_n hx hb dH_exchangeSpare_11 rfl (lv_at hl 2 rfl) ?_
  refine lv_aload_n hx hb dH_exchangeSpare_12 rfl (lv_at hl 1 rfl) ?_
  refine hp_get hx hb hG in_H hown hK hst x0 rfl 5 (by decide) (hG _ fl_H_44) rfl rfl dH_exchangeSpare_13 ?_
  obtain ⟨fs9, hcell⟩ := hS0.cell
  refine hp_aast (r := (R_P, T_P, 3)) hx hb hK rfl hst x1 hcell rfl (j := r) hr (by omega) dH_exchangeSpare_16 (fun H locs hst => ?_)
  generalize hM2 : hp_up M (A 3) ((0, 1), e_q Y 12 (va_up gr r (some (A (si 12))))) = M1 at hst
  have f3 : M1 (A 3) = some ((0, 1), e_q Y 12 (va_up gr r (some (A (si 12))))) := by rw [← hM2]; exact hp_up_self _ _ _
  have f4 : M1 xa = some ((0, 0), .inr (4, [.ref (A 0), .ref (A 1), .ref (A 2), .ref (A 3), .ref (A 4), .ref (A (si 12)), .int (nI rf)])) := by rw [← hM2]; exact hp_kt x1 x0 (tg2 (by decide))
  have f5 : M1 (A 4) = some ((0, 2), e_q Y 256 gn) := by rw [← hM2]; exact hp_kt x1 x2 (tg2 (by decide))
  have o6 : hp_off (fun i => i = 0) M M1 := by rw [← hM2]; exact hp_off.up x1 rfl
  refine lv_aload_n hx hb dH_exchangeSpare_17 rfl (lv_at hl 1 rfl) ?_
  refine lv_aload_n hx hb dH_exchangeSpare_18 rfl (lv_at hl 0 rfl) ?_
  refine hp_put hx hb hG in_H ty_H tyok_H nm_H hown hK hst f4 rfl 5 (by decide) (hG _ fl_H_44) rfl rfl rfl rfl (Nat.le_of_ble_eq_true rfl) dH_exchangeSpare_19 (fs' := [.ref (A 0), .ref (A 1), .ref (A 2), .ref (A 3), .ref (A 4), .ref (A (si r)), .int (nI rf)]) rfl (fun H locs hst => ?_)
  generalize hM8 : hp_up M1 xa ((0, 0), .inr (4, [.ref (A 0), .ref (A 1), .ref (A 2), .ref (A 3), .ref (A 4), .ref (A (si r)), .int (nI rf)])) = M7 at hst
  have f9 : M7 xa = some ((0, 0), .inr (4, [.ref (A 0), .ref (A 1), .ref (A 2), .ref (A 3), .ref (A 4), .ref (A (si r)), .int (nI rf)])) := by rw [← hM8]; exact hp_up_self _ _ _
  have f10 : M7 (A 4) = some ((0, 2), e_q Y 256 gn) := by rw [← hM8]; exact hp_kt f4 f5 (tg2 (by decide))
  have f11 : M7 (A 3) = some ((0, 1), e_q Y 12 (va_up gr r (some (A (si 12))))) := by rw [← hM8]; exact hp_kt f4 f3 (tg2 (by decide))
  have o12 : hp_off (fun i => i = 0) M M7 := by rw [← hM8]; exact hp_off.tr o6 (hp_off.up f4 rfl)
  have hsw12 : sw si r 12 = si r := by unfold sw; rw [if_neg (by omega), if_pos rfl]
  have hswr : sw si r r = si 12 := by unfold sw; rw [if_pos rfl]
  have hswn : ∀ i, i ≠ r → i ≠ 12 → sw si r i = si i := fun i h1 h2 => by unfold sw; rw [if_neg h1, if_neg h2]
  have hx0 : M7 xa = some ((0, 0), .inr (4, [.ref (A 0), .ref (A 1), .ref (A 2), .ref (A 3), .ref (A 4), .ref (A (sw si r 12)), .int (nI rf)])) := by rw [hsw12]; exact f9
  have hgr2 : ∀ i, i < 12 → va_up gr r (some (A (si 12))) i = some (A (sw si r i)) := by
    intro i hi
    by_cases h9 : i = r
    · subst h9; rw [va_up_self, hswr]
    · rw [va_up_ne _ _ h9, hswn i h9 (by omega)]; exact hgr i hi
  have hcas : ∀ i, i ≤ 12 → ∃ k, k ≤ 12 ∧ sw si r i = si k ∧ (i = r ∧ k = 12 ∨ i = 12 ∧ k = r ∨ i ≠ r ∧ i ≠ 12 ∧ k = i) := by
    intro i hi
    by_cases h9 : i = r
    · subst h9; exact ⟨12, by omega, hswr, Or.inl ⟨rfl, rfl⟩⟩
    · by_cases h8 : i = 12
      · subst h8; exact ⟨r, by omega, hsw12, Or.inr (Or.inl ⟨rfl, rfl⟩)⟩
      · exact ⟨i, hi, hswn i h9 h8, Or.inr (Or.inr ⟨h9, h8, rfl⟩)⟩
  have hA1 : ∀ i, i ≤ 12 → 10 ≤ sw si r i ∧ sw si r i < 23 := by
    intro i hi
    obtain ⟨k, hk, he, -⟩ := hcas i hi
    rw [he]; exact hs1 k hk
  have hA2 : ∀ i j, i ≤ 12 → j ≤ 12 → sw si r i = sw si r j → i = j := by
    intro i j hi hj he
    obtain ⟨k, hk, e1, c1⟩ := hcas i hi
    obtain ⟨k2, hk2, e2, c2⟩ := hcas j hj
    rw [e1, e2] at he
    have := hs2 k k2 hk hk2 he
    omega
  have hA3 : ∀ i, i < 12 → po Y M7 (sw si r i) (A (sw si r i)) (cap (sw si r i)) (tp (va_up P r g i)) := by
    intro i hi
    by_cases h9 : i = r
    · subst h9; rw [hswr, va_up_self]; exact hS0.off o12 (by have := hs1 12 (by omega); omega)
    · rw [hswn i h9 (by omega), va_up_ne _ _ h9]; exact (hP i hi).off o12 (by have := hs1 i (by omega); omega)
  have hA4 : ∀ i, i ≤ 12 → cap (sw si r i) ≤ 18278 := by
    intro i hi
    obtain ⟨k, hk, he, -⟩ := hcas i hi
    rw [he]; exact hc1 k hk
  have hA5 : ∀ i, i < 12 → ∀ m, va_up P r g i m < p := by
    intro i hi m
    by_cases h9 : i = r
    · subst h9; rw [va_up_self]; exact hg m
    · rw [va_up_ne _ _ h9]; exact hPp i hi m
  exact ct_vret X hst ⟨rfl, ⟨hx0, ⟨_, f11, hgr2⟩, ⟨gn, f10, hgn⟩, ⟨hf.off o12 (by omega), hpr⟩, hs.off o12 (by omega), ⟨gw, ht.off o12 (by omega)⟩, ⟨hA1, hA2⟩, hA3, ⟨_, by rw [hsw12]; exact (hP r hr).off o12 (by have := hs1 r (by omega); omega)⟩, fun c hc => (hN c hc).imp fun L hL => hL.off o12 (by omega), hA4, hc2, hA5⟩, o12⟩ (by omega) (by omega) dH_exchangeSpare_22
end
section
/-! Lists of single terms; updates that change nothing. -/
theorem up_id {α : Type} (f : Nat → α) (i : Nat) : va_up f i (f i) = f := by
  funext z
  by_cases h : z = i
  · subst h; rw [va_up_self]
  · rw [va_up_ne _ _ h]
theorem tp_zero {g : Pf} (h : ∀ r, r < 9139 → g (ur r) = 0) : tp g = [] := by
  have := td_end (g := g) (e := 0) (n := 9139) (by omega) (fun r _ hr => h r hr)
  exact this
theorem tp_single {k x : Nat} (hk : mv k) (hx : x ≠ 0) : tp (fun m => if m = k then x else 0) = [(k, x)] := by
  refine td_of (Nat.le_refl _) ⟨hk, rk_lt hk, hx, trivial⟩ (fun r hr => ?_)
  show (if ur r = k then x else 0) = (if k + 0 = ur r then x else 0) + 0
  by_cases h : ur r = k
  · rw [if_pos h, if_pos (by omega), Nat.add_zero]
  · rw [if_neg h, if_neg (by omega)]
theorem mv_0 : mv 0 := mv_mp (a := 0) (b := 0) (c := 0) (by omega)
theorem vv_mv {v : Nat} (hv : v < 3) : mv (vv v) := by
  refine co3 (P := fun v => mv (vv v)) ?_ ?_ ?_ hv
  · exact mv_mp (a := 1) (b := 0) (c := 0) (by omega)
  · exact mv_mp (a := 0) (b := 1) (c := 0) (by omega)
  · exact mv_mp (a := 0) (b := 0) (c := 1) (by omega)
/-- a number as a polynomial -/
def cst (x : Nat) : Pf := fun m => if m = 0 then x else 0
def vrb (v : Nat) : Pf := fun m => if m = vv v then 1 else 0
theorem tp_cst (x : Nat) : tp (cst x) = if x = 0 then [] else [(0, x)] := by
  by_cases h : x = 0
  · rw [if_pos h]
    refine tp_zero (fun r _ => ?_)
    show (if ur r = 0 then x else 0) = 0
    rw [h]
    split <;> rfl
  · rw [if_neg h]
    exact tp_single mv_0 h
theorem cst_lt {x p : Nat} (h : x < p) : ∀ m, cst x m < p := by
  intro m
  unfold cst
  split <;> omega
/-- a polynomial's terms are good ones -/
theorem tp_mem {g : Pf} {q : Nat × Nat} (h : q ∈ tp g) : mv q.1 ∧ q.2 = g q.1 ∧ q.2 ≠ 0 := by
  obtain ⟨r, h1, h2, h3, h4⟩ := td_mem h
  rw [h2]
  exact ⟨ur_mv h1, h3, by rw [h3]; exact h4⟩
/-- the sum that add makes -/
noncomputable def addP (p : Nat) (a b : Pf) (f : Nat) : Pf := addL p f 0 (tp b) (addL p 1 0 (tp a) (fun _ => 0))
theorem addP_lt {p : Nat} (hp : 0 < p) (a b : Pf) (f : Nat) : ∀ m, addP p a b f m < p := addL_lt hp (addL_lt hp (fun _ => hp))
theorem addP_val {p f r : Nat} {a b : Pf} (ha : ∀ m, a m < p) (hr : r < 9139) : addP p a b f (ur r) = (a (ur r) + f * b (ur r)) % p := by
  have hp : 0 < p := Nat.lt_of_le_of_lt (Nat.zero_le _) (ha 0)
  have h1 := addL_tp (p := p) (f := 1) (t := 0) (g := a) (c := fun _ => 0) hr hp
  rw [Nat.add_zero] at h1
  have h1' : addL p 1 0 (tp a) (fun _ => 0) (ur r) = a (ur r) := by
    rw [h1]
    show (0 + 1 * a (ur r)) % p = _
    rw [Nat.zero_add, Nat.one_mul, Nat.mod_eq_of_lt (ha _)]
  have h2 := addL_tp (p := p) (f := f) (t := 0) (g := b) (c := addL p 1 0 (tp a) (fun _ => 0)) hr (addL_lt hp (fun _ => hp) _)
  rw [Nat.add_zero] at h2
  show addL p f 0 (tp b) _ (ur r) = _
  rw [h2, h1']
end
section
/-! The face, the short methods: where the arguments are good, and where the call throws. -/
set_option maxHeartbeats 4000000 in
set_option maxRecDepth 100000 in
theorem c_H_constant (l : Launch) (D : va_G) (Y : Nat → ClassId) (lo : Nat) {M : Hm} {xa p rf : Nat} {A cap si : Nat → Nat} {P : Nat → Pf} (hcs : cs Y M xa A p P cap si rf) {r : Nat} (x : Int32) (hr : r < 12) : ct l D Y lo y_H_constant b_H_constant 3 none 4 [.ref xa, .int (nI r), .int x] M (fun r9 M' => r9 = none ∧ cs Y M' xa A p (va_up P r (cst (rd p x.toInt))) cap si rf ∧ hp_off (fun i => i < 300) M M') nx 0 0 := by
  refine ct_of (by decide) (Nat.le_of_ble_eq_true rfl) ?_
  intro pg eg sg mg bw mt cg ls X hst hl
  have X1 := X
  obtain ⟨hx, hb, hml, hrt, hlocks, hown, hnm, hts, hkz, hex⟩ := X1
  have hG : ∀ w ∈ GW, w.before _ sg = true := fun w h => hts w (List.mem_cons_of_mem _ h)
  have hK := hkz.1
  have hl : lv_has ls 3 [(0, .ref xa), (1, .int (nI r)), (2, .int x)] := hl
  have hcs0 := hcs
  obtain ⟨x0, ⟨gr, x1, hgr⟩, ⟨gn, x2, hgn⟩, ⟨hf, hpr⟩, hs, ⟨gw, ht⟩, ⟨hs1, hs2⟩, hP, ⟨LS, hS⟩, hN, hc1, hc2, hPp⟩ := hcs
  have hpp := hf.2.1
  have hpp3 := hf.2.2
  have hf0 := hf.1
  refine lv_iload_n hx hb dH_constant_0 rfl (lv_at hl 1 rfl) ?_
  refine ct_callS (av2 := [.int (nI r)]) (rest := []) X hst (c_H_checkRegister l D Y lo hr) wc_H_checkRegister ml_H_48 ws_H_checkRegister wn_H md_H_checkRegister (by decide) hl.1 rfl (Nat.le_of_ble_eq_true rfl) ⟨by omega, by omega⟩ (fun _ _ h => h.elim) dH_constant_1 (fun r M' H locs hp hst => ?_)
  obtain ⟨rfl, rfl⟩ := hp
  refine lv_aload_n hx hb dH_constant_4 rfl (lv_at hl 0 rfl) ?_
  refine hp_get hx hb hG in_H hown hK hst x0 rfl 3 (by decide) (hG _ fl_H_11) rfl rfl dH_constant_5 ?_
  refine lv_iload_n hx hb dH_constant_8 rfl (lv_at hl 1 rfl) ?_
  refine hp_aald hx hb hK rfl hst x1 (j := r) (v := (A (si r))) (by omega) (by omega) (hgr r hr) dH_constant_9 ?_
  obtain ⟨fs_r, cell_r⟩ := (hP r hr).cell
  refine lv_aload_n hx hb dH_constant_10 rfl (lv_at hl 0 rfl) ?_
  refine hp_get hx hb hG in_H hown hK hst x0 rfl 0 (by decide) (hG _ fl_H_23) rfl rfl dH_constant_11 ?_
  refine lv_iload_n hx hb dH_constant_14 rfl (lv_at hl 2 rfl) ?_
  refine ct_callV (av2 := [.int x]) (rest := [.ref (A (si r))]) (b := (A 0)) X hst (c_F_reduced l D Y lo x hf) hf0 rfl wc_F_reduced ml_H_51 wi_F_reduced wl_F_reduced wn_F md_F_reduced (by decide) hl.1 rfl (Nat.le_of_ble_eq_true rfl) ⟨by omega, by omega⟩ (fun _ _ h => h.elim) dH_constant_15 (fun r M' H locs hp hst => ?_)
  obtain ⟨rfl, rfl⟩ := hp
  have hrd := rd_lt (p := p) (by omega) x.toInt
  have hc18 := hc1 r (by omega)
  have hb9 := hs1 r (by omega)
  refine ct_callV (av2 := [.int (nI (rd p x.toInt))]) (rest := []) (b := (A (si r))) X hst (c_P_becomeNumber l D Y lo (hP r hr) (x := rd p x.toInt) (by omega) (by omega)) cell_r rfl wc_P_becomeNumber ml_H_55 wi_P_becomeNumber wl_P_becomeNumber wn_P md_P_becomeNumber (by decide) hl.1 rfl (Nat.le_of_ble_eq_true rfl) ⟨by omega, by omega⟩ (fun _ _ h => h.elim) dH_constant_18 (fun r M' H locs hp hst => ?_)
  obtain ⟨rfl, hp1, ho1⟩ := hp
  rw [← tp_cst] at hp1
  have ho2 : hp_off (fun i => i = 2 ∨ i = si r) M M' := ho1.wk (fun i hi => Or.inr hi)
  have hs9 : sh Y M' (A 1) (A 0) (fun _ => 0) := hs.off ho1 (by omega)
  have hcs1 := hcs0.reg hr ho2 hs9 hp1 hc18 (cst_lt hrd)
  rw [up_id] at hcs1
  exact ct_vret X hst ⟨rfl, hcs1, ho1.wk (fun i hi => by omega)⟩ (by omega) (by omega) dH_constant_21

set_option maxHeartbeats 4000000 in
set_option maxRecDepth 100000 in
theorem x_H_constant (l : Launch) (D : va_G) (Y : Nat → ClassId) (lo : Nat) (hlt : l.stackTraces = false) {M : Hm} {xa : Nat} {x1 x2 : Int32} (hno : ¬ inR x1) : ct l D Y lo y_H_constant b_H_constant 3 none 7 [.ref xa, .int x1, .int x2] M (fun _ _ => False) (fun E M' => E = EI ∧ M = M') 1 6 := by
  refine ct_of (by decide) (Nat.le_of_ble_eq_true rfl) ?_
  intro pg eg sg mg bw mt cg ls X hst hl
  have X1 := X
  obtain ⟨hx, hb, hml, hrt, hlocks, hown, hnm, hts, hkz, hex⟩ := X1
  have hG : ∀ w ∈ GW, w.before _ sg = true := fun w h => hts w (List.mem_cons_of_mem _ h)
  have hK := hkz.1
  have hl : lv_has ls 3 [(0, .ref xa), (1, .int x1), (2, .int x2)] := hl
  refine lv_iload_n hx hb dH_constant_0 rfl (lv_at hl 1 rfl) ?_
  refine ct_callS (av2 := [.int x1]) (rest := []) X hst (x_H_checkRegister l D Y lo hlt hno) wc_H_checkRegister ml_H_48 ws_H_checkRegister wn_H md_H_checkRegister (by decide) hl.1 rfl (Nat.le_of_ble_eq_true rfl) ⟨by omega, by omega⟩ (fun E M1 h => h) dH_constant_1 (fun r M' H locs hp hst => ?_)
  exact False.elim hp

set_option maxHeartbeats 4000000 in
set_option maxRecDepth 100000 in
theorem c_H_variable (l : Launch) (D : va_G) (Y : Nat → ClassId) (lo : Nat) {M : Hm} {xa p rf : Nat} {A cap si : Nat → Nat} {P : Nat → Pf} (hcs : cs Y M xa A p P cap si rf) {r v : Nat} (hr : r < 12) (hv : v < 3) : ct l D Y lo y_H_variable b_H_variable 3 none 4 [.ref xa, .int (nI r), .int (nI v)] M (fun r9 M' => r9 = none ∧ cs Y M' xa A p (va_up P r (vrb v)) cap si rf ∧ hp_off (fun i => i < 300) M M') nx 0 0 := by
  refine ct_of (by decide) (Nat.le_of_ble_eq_true rfl) ?_
  intro pg eg sg mg bw mt cg ls X hst hl
  have X1 := X
  obtain ⟨hx, hb, hml, hrt, hlocks, hown, hnm, hts, hkz, hex⟩ := X1
  have hG : ∀ w ∈ GW, w.before _ sg = true := fun w h => hts w (List.mem_cons_of_mem _ h)
  have hK := hkz.1
  have hl : lv_has ls 3 [(0, .ref xa), (1, .int (nI r)), (2, .int (nI v))] := hl
  have hcs0 := hcs
  obtain ⟨x0, ⟨gr, x1, hgr⟩, ⟨gn, x2, hgn⟩, ⟨hf, hpr⟩, hs, ⟨gw, ht⟩, ⟨hs1, hs2⟩, hP, ⟨LS, hS⟩, hN, hc1, hc2, hPp⟩ := hcs
  have hpp := hf.2.1
  have hpp3 := hf.2.2
  have hf0 := hf.1
  refine lv_iload_n hx hb dH_variable_0 rfl (lv_at hl 1 rfl) ?_
  refine ct_callS (av2 := [.int (nI r)]) (rest := []) X hst (c_H_checkRegister l D Y lo hr) wc_H_checkRegister ml_H_48 ws_H_checkRegister wn_H md_H_checkRegister (by decide) hl.1 rfl (Nat.le_of_ble_eq_true rfl) ⟨by omega, by omega⟩ (fun _ _ h => h.elim) dH_variable_1 (fun r M' H locs hp hst => ?_)
  obtain ⟨rfl, rfl⟩ := hp
  refine lv_iload_n hx hb dH_variable_4 rfl (lv_at hl 2 rfl) ?_
  refine ct_callS (av2 := [.int (nI v)]) (rest := []) X hst (c_H_checkVariable l D Y lo hv) wc_H_checkVariable ml_H_58 ws_H_checkVariable wn_H md_H_checkVariable (by decide) hl.1 rfl (Nat.le_of_ble_eq_true rfl) ⟨by omega, by omega⟩ (fun _ _ h => h.elim) dH_variable_5 (fun r M' H locs hp hst => ?_)
  obtain ⟨rfl, rfl⟩ := hp
  have hc18 := hc1 r (by omega)
  have hb9 := hs1 r (by omega)
  refine lv_aload_n hx hb dH_variable_8 rfl (lv_at hl 0 rfl) ?_
  refine hp_get hx hb hG in_H hown hK hst x0 rfl 3 (by decide) (hG _ fl_H_11) rfl rfl dH_variable_9 ?_
  refine lv_iload_n hx hb dH_variable_12 rfl (lv_at hl 1 rfl) ?_
  refine hp_aald hx hb hK rfl hst x1 (j := r) (v := (A (si r))) (by omega) (by omega) (hgr r hr) dH_variable_13 ?_
  obtain ⟨fs_r, cell_r⟩ := (hP r hr).cell
  refine ct_callV (av2 := []) (rest := []) (b := (A (si r))) X hst (c_P_clear l D Y lo (hP r hr)) cell_r rfl wc_P_clear ml_H_61 wi_P_clear wl_P_clear wn_P md_P_clear (by decide) hl.1 rfl (Nat.le_of_ble_eq_true rfl) ⟨by omega, by omega⟩ (fun _ _ h => h.elim) dH_variable_14 (fun r M' H locs hp hst => ?_)
  obtain ⟨rfl, hp1, ho1⟩ := hp
  have x0' := ho1.of x0 (by omega)
  have x1' := ho1.of x1 (by omega)
  refine lv_aload_n hx hb dH_variable_17 rfl (lv_at hl 0 rfl) ?_
  refine hp_get hx hb hG in_H hown hK hst x0' rfl 3 (by decide) (hG _ fl_H_11) rfl rfl dH_variable_18 ?_
  refine lv_iload_n hx hb dH_variable_21 rfl (lv_at hl 1 rfl) ?_
  refine hp_aald hx hb hK rfl hst x1' (j := r) (v := (A (si r))) (by omega) (by omega) (hgr r hr) dH_variable_22 ?_
  refine lv_iload_n hx hb dH_variable_23 rfl (lv_at hl 2 rfl) ?_
  refine ct_callS (av2 := [.int (nI v)]) (rest := [.ref (A (si r))]) X hst (c_Q_ofVariable l D Y lo (v := v) hv) wc_Q_ofVariable ml_H_64 ws_Q_ofVariable wn_Q md_Q_ofVariable (by decide) hl.1 rfl (Nat.le_of_ble_eq_true rfl) ⟨by omega, by omega⟩ (fun _ _ h => h.elim) dH_variable_24 (fun r M' H locs hp hst => ?_)
  obtain ⟨rfl, rfl⟩ := hp
  refine lv_iconst (v := nI 1) hx hb dH_variable_27 (by decide +kernel) ?_
  obtain ⟨fs1, cell1⟩ := hp1.cell
  have hcp : 16 ≤ cap (si r) := by obtain ⟨_, _, _, _, _, _, _, _, _, h9, _⟩ := hp1; exact h9
  have hg0 : gc1 ([] : List (Nat × Nat)).length (cap (si r)) = cap (si r) := if_neg (by show ¬ 0 = cap (si r); omega)
  refine ct_callV (av2 := [.int (nI (vv v)), .int (nI 1)]) (rest := []) (b := (A (si r))) X hst (c_P_append l D Y lo hp1 (mo := vv v) (co := 1) (by omega)) cell1 rfl wc_P_append ml_H_69 wi_P_append wl_P_append wn_P md_P_append (by decide) hl.1 rfl (Nat.le_of_ble_eq_true rfl) ⟨by omega, by omega⟩ (fun _ _ h => h.elim) dH_variable_28 (fun r M' H locs hp hst => ?_)
  obtain ⟨rfl, hp2, ho2⟩ := hp
  rw [hg0] at hp2
  have hp2 : po Y M' (si r) (A (si r)) (cap (si r)) [(vv v, 1)] := hp2
  rw [← tp_single (vv_mv hv) (by omega)] at hp2
  have ho3 := ho1.tr ho2
  have hs9 : sh Y M' (A 1) (A 0) (fun _ => 0) := hs.off ho3 (by omega)
  have hcs1 := hcs0.reg hr (ho3.wk (fun i hi => Or.inr hi)) hs9 hp2 hc18 (fun m => by show (if m = vv v then 1 else 0) < p; split <;> omega)
  rw [up_id] at hcs1
  exact ct_vret X hst ⟨rfl, hcs1, ho3.wk (fun i hi => by omega)⟩ (by omega) (by omega) dH_variable_31

set_option maxHeartbeats 4000000 in
set_option maxRecDepth 100000 in
theorem x_H_variable (l : Launch) (D : va_G) (Y : Nat → ClassId) (lo : Nat) (hlt : l.stackTraces = false) {M : Hm} {xa : Nat} {x1 x2 : Int32} (hno : ¬ (inR x1 ∧ inV x2)) : ct l D Y lo y_H_variable b_H_variable 3 none 7 [.ref xa, .int x1, .int x2] M (fun _ _ => False) (fun E M' => M = M' ∧ (E = EI ∧ ¬ (inR x1) ∨ E = EA ∧ (inR x1))) 2 12 := by
  refine ct_of (by decide) (Nat.le_of_ble_eq_true rfl) ?_
  intro pg eg sg mg bw mt cg ls X hst hl
  have X1 := X
  obtain ⟨hx, hb, hml, hrt, hlocks, hown, hnm, hts, hkz, hex⟩ := X1
  have hG : ∀ w ∈ GW, w.before _ sg = true := fun w h => hts w (List.mem_cons_of_mem _ h)
  have hK := hkz.1
  have hl : lv_has ls 3 [(0, .ref xa), (1, .int x1), (2, .int x2)] := hl
  refine lv_iload_n hx hb dH_variable_0 rfl (lv_at hl 1 rfl) ?_
  refine ct_callS (av2 := [.int x1]) (rest := []) X hst (x_cr_call hlt x1 M) wc_H_checkRegister ml_H_48 ws_H_checkRegister wn_H md_H_checkRegister (by decide) hl.1 rfl (Nat.le_of_ble_eq_true rfl) ⟨by omega, by omega⟩ (fun E M1 h => ⟨h.2.1, Or.inl ⟨h.1, h.2.2⟩⟩) dH_variable_1 (fun r M' H locs hp hst => ?_)
  obtain ⟨rfl, rfl, h1⟩ := hp
  refine lv_iload_n hx hb dH_variable_4 rfl (lv_at hl 2 rfl) ?_
  refine ct_callS (av2 := [.int x2]) (rest := []) X hst (x_cv_call hlt x2 M) wc_H_checkVariable ml_H_58 ws_H_checkVariable wn_H md_H_checkVariable (by decide) hl.1 rfl (Nat.le_of_ble_eq_true rfl) ⟨by omega, by omega⟩ (fun E M1 h => ⟨h.2.1, Or.inr ⟨h.1, h1⟩⟩) dH_variable_5 (fun r M' H locs hp hst => ?_)
  obtain ⟨rfl, rfl, h2⟩ := hp
  exact absurd ⟨h1, h2⟩ hno

set_option maxHeartbeats 4000000 in
set_option maxRecDepth 100000 in
theorem c_H_add (l : Launch) (D : va_G) (Y : Nat → ClassId) (lo : Nat) {M : Hm} {xa p rf : Nat} {A cap si : Nat → Nat} {P : Nat → Pf} (hcs : cs Y M xa A p P cap si rf) {r a b : Nat} (x : Int32) (hr : r < 12) (ha : a < 12) (hb9 : b < 12) : ct l D Y lo y_H_add b_H_add 5 none 5 [.ref xa, .int (nI r), .int (nI a), .int (nI b), .int x] M (fun r9 M' => r9 = none ∧ cs Y M' xa A p (va_up P r (addP p (P a) (P b) (rd p x.toInt))) (va_up cap (si r) (gcn (cap (si r)) 0 (td (addP p (P a) (P b) (rd p x.toInt)) 9139).length)) si rf ∧ hp_off (fun i => i < 300) M M') nx (gcn (cap (si r)) 0 (td (addP p (P a) (P b) (rd p x.toInt)) 9139).length - cap (si r)) (4 * (gcn (cap (si r)) 0 (td (addP p (P a) (P b) (rd p x.toInt)) 9139).length - cap (si r))) := by
  refine ct_of (by decide) (Nat.le_of_ble_eq_true rfl) ?_
  intro pg eg sg mg bw mt cg ls X hst hl
  have X1 := X
  obtain ⟨hx, hb, hml, hrt, hlocks, hown, hnm, hts, hkz, hex⟩ := X1
  have hG : ∀ w ∈ GW, w.before _ sg = true := fun w h => hts w (List.mem_cons_of_mem _ h)
  have hK := hkz.1
  have hl : lv_has ls 5 [(0, .ref xa), (1, .int (nI r)), (2, .int (nI a)), (3, .int (nI b)), (4, .int x)] := hl
  have hcs0 := hcs
  obtain ⟨x0, ⟨gr, x1, hgr⟩, ⟨gn, x2, hgn⟩, ⟨hf, hpr⟩, hs, ⟨gw, ht⟩, ⟨hs1, hs2⟩, hP, ⟨LS, hS⟩, hN, hc1, hc2, hPp⟩ := hcs
  have hpp := hf.2.1
  have hpp3 := hf.2.2
  have hf0 := hf.1
  refine lv_iload_n hx hb dH_add_0 rfl (lv_at hl 1 rfl) ?_
  refine lv_iload_n hx hb dH_add_1 rfl (lv_at hl 2 rfl) ?_
  refine lv_iload_n hx hb dH_add_2 rfl (lv_at hl 3 rfl) ?_
  refine ct_callS (av2 := [.int (nI r), .int (nI a), .int (nI b)]) (rest := []) X hst (c_H_checkRegisters l D Y lo hr ha hb9) wc_H_checkRegisters ml_H_73 ws_H_checkRegisters wn_H md_H_checkRegisters (by decide) hl.1 rfl (Nat.le_of_ble_eq_true rfl) ⟨by omega, by omega⟩ (fun _ _ h => h.elim) dH_add_3 (fun r M' H locs hp hst => ?_)
  obtain ⟨rfl, rfl⟩ := hp
  have hc18 := hc1 r (by omega)
  have hbr := hs1 r (by omega)
  have hba := hs1 a (by omega)
  have hbb := hs1 b (by omega)
  obtain ⟨fss, cells9⟩ := hs.cell
  refine lv_aload_n hx hb dH_add_6 rfl (lv_at hl 0 rfl) ?_
  refine hp_get hx hb hG in_H hown hK hst x0 rfl 1 (by decide) (hG _ fl_H_32) rfl rfl dH_add_7 ?_
  refine lv_aload_n hx hb dH_add_10 rfl (lv_at hl 0 rfl) ?_
  refine hp_get hx hb hG in_H hown hK hst x0 rfl 3 (by decide) (hG _ fl_H_11) rfl rfl dH_add_11 ?_
  refine lv_iload_n hx hb dH_add_14 rfl (lv_at hl 2 rfl) ?_
  refine hp_aald hx hb hK rfl hst x1 (j := a) (v := (A (si a))) (by omega) (by omega) (hgr a ha) dH_add_15 ?_
  refine lv_iconst (v := nI 1) hx hb dH_add_16 (by decide +kernel) ?_
  refine lv_iconst (v := nI 0) hx hb dH_add_17 (by decide +kernel) ?_
  refine ct_callV (av2 := [.ref (A (si a)), .int (nI 1), .int (nI 0)]) (rest := []) (b := (A 1)) X hst (c_S_addMultiple l D Y lo hs hf (fun _ => by omega) (hP a ha) (by omega) (f := 1) (t := 0) (by omega) (fun q hq => ⟨(tp_mem hq).1, by rw [(tp_mem hq).2.1]; exact hPp a ha _⟩)) cells9 rfl wc_S_addMultiple ml_H_77 wi_S_addMultiple wl_S_addMultiple wn_S md_S_addMultiple (by decide) hl.1 rfl (Nat.le_of_ble_eq_true rfl) ⟨by omega, by omega⟩ (fun _ _ h => h.elim) dH_add_18 (fun r M' H locs hp hst => ?_)
  obtain ⟨rfl, hs3, ho3⟩ := hp
  have x0a := ho3.of x0 (by omega)
  have x1a := ho3.of x1 (by omega)
  have hfa := hf.off ho3 (by omega)
  have hf0a := hfa.1
  have hPb := (hP b hb9).off ho3 (by omega)
  refine lv_aload_n hx hb dH_add_21 rfl (lv_at hl 0 rfl) ?_
  refine hp_get hx hb hG in_H hown hK hst x0a rfl 1 (by decide) (hG _ fl_H_32) rfl rfl dH_add_22 ?_
  refine lv_aload_n hx hb dH_add_25 rfl (lv_at hl 0 rfl) ?_
  refine hp_get hx hb hG in_H hown hK hst x0a rfl 3 (by decide) (hG _ fl_H_11) rfl rfl dH_add_26 ?_
  refine lv_iload_n hx hb dH_add_29 rfl (lv_at hl 3 rfl) ?_
  refine hp_aald hx hb hK rfl hst x1a (j := b) (v := (A (si b))) (by omega) (by omega) (hgr b hb9) dH_add_30 ?_
  refine lv_aload_n hx hb dH_add_31 rfl (lv_at hl 0 rfl) ?_
  refine hp_get hx hb hG in_H hown hK hst x0a rfl 0 (by decide) (hG _ fl_H_23) rfl rfl dH_add_32 ?_
  refine lv_iload hx hb dH_add_35 (lv_at hl 4 rfl) ?_
  refine ct_callV (av2 := [.int x]) (rest := [.ref (A (si b)), .ref (A 1)]) (b := (A 0)) X hst (c_F_reduced l D Y lo x hfa) hf0a rfl wc_F_reduced ml_H_51 wi_F_reduced wl_F_reduced wn_F md_F_reduced (by decide) hl.1 rfl (Nat.le_of_ble_eq_true rfl) ⟨by omega, by omega⟩ (fun _ _ h => h.elim) dH_add_37 (fun r M' H locs hp hst => ?_)
  obtain ⟨rfl, rfl⟩ := hp
  have hrd := rd_lt (p := p) (by omega) x.toInt
  obtain ⟨fst, cellt⟩ := hs3.cell
  refine lv_iconst (v := nI 0) hx hb dH_add_40 (by decide +kernel) ?_
  have hcp1 : ∀ m, addL p 1 0 (tp (P a)) (fun _ => 0) m < p := addL_lt (by omega) (fun _ => by omega)
  refine ct_callV (av2 := [.ref (A (si b)), .int (nI (rd p x.toInt)), .int (nI 0)]) (rest := []) (b := (A 1)) X hst (c_S_addMultiple l D Y lo hs3 hfa hcp1 hPb (by omega) (f := rd p x.toInt) (t := 0) hrd (fun q hq => ⟨(tp_mem hq).1, by rw [(tp_mem hq).2.1]; exact hPp b hb9 _⟩)) cellt rfl wc_S_addMultiple ml_H_77 wi_S_addMultiple wl_S_addMultiple wn_S md_S_addMultiple (by decide) hl.1 rfl (Nat.le_of_ble_eq_true rfl) ⟨by omega, by omega⟩ (fun _ _ h => h.elim) dH_add_41 (fun r M' H locs hp hst => ?_)
  obtain ⟨rfl, hs4, ho4⟩ := hp
  have ho5 := ho3.tr ho4
  have x0b := ho5.of x0 (by omega)
  have x1b := ho5.of x1 (by omega)
  have hPr := (hP r hr).off ho5 (by omega)
  obtain ⟨fsu, cellu⟩ := hs4.cell
  refine lv_aload_n hx hb dH_add_44 rfl (lv_at hl 0 rfl) ?_
  refine hp_get hx hb hG in_H hown hK hst x0b rfl 1 (by decide) (hG _ fl_H_32) rfl rfl dH_add_45 ?_
  refine lv_aload_n hx hb dH_add_48 rfl (lv_at hl 0 rfl) ?_
  refine hp_get hx hb hG in_H hown hK hst x0b rfl 3 (by decide) (hG _ fl_H_11) rfl rfl dH_add_49 ?_
  refine lv_iload_n hx hb dH_add_52 rfl (lv_at hl 1 rfl) ?_
  refine hp_aald hx hb hK rfl hst x1b (j := r) (v := (A (si r))) (by omega) (by omega) (hgr r hr) dH_add_53 ?_
  have hs4 : sh Y M' (A 1) (A 0) (addP p (P a) (P b) (rd p x.toInt)) := hs4
  have hcp2 := addP_lt (p := p) (by omega) (P a) (P b) (rd p x.toInt)
  refine ct_callV (av2 := [.ref (A (si r))]) (rest := []) (b := (A 1)) X hst (c_S_moveTo l D Y lo hs4 hPr (by omega) hc18 (fun m => by have := hcp2 m; omega)) cellu rfl wc_S_moveTo ml_H_81 wi_S_moveTo wl_S_moveTo wn_S md_S_moveTo (by decide) hl.1 rfl (Nat.le_of_ble_eq_true rfl) ⟨by omega, by omega⟩ (fun _ _ h => h.elim) dH_add_54 (fun r M' H locs hp hst => ?_)
  obtain ⟨rfl, hp6, hs6, ho6⟩ := hp
  have ho7 := (ho5.wk (fun i hi => Or.inl hi : ∀ i, i = 2 → (i = 2 ∨ i = si r))).tr ho6
  have hl9 := td_len (addP p (P a) (P b) (rd p x.toInt)) 9139
  have hgl := gcn_le (td (addP p (P a) (P b) (rd p x.toInt)) 9139).length (cap (si r)) 0 18278 hc18 (by omega)
  have hcs1 := hcs0.reg hr ho7 hs6 (g := addP p (P a) (P b) (rd p x.toInt)) hp6 hgl hcp2
  exact ct_vret X hst ⟨rfl, hcs1, ho7.wk (fun i hi => by omega)⟩ (by omega) (by omega) dH_add_57

set_option maxHeartbeats 4000000 in
set_option maxRecDepth 100000 in
theorem x_H_add (l : Launch) (D : va_G) (Y : Nat → ClassId) (lo : Nat) (hlt : l.stackTraces = false) {M : Hm} {xa : Nat} {x1 x2 x3 x4 : Int32} (hno : ¬ (inR x1 ∧ inR x2 ∧ inR x3)) : ct l D Y lo y_H_add b_H_add 5 none 8 [.ref xa, .int x1, .int x2, .int x3, .int x4] M (fun _ _ => False) (fun E M' => E = EI ∧ M = M') 3 18 := by
  refine ct_of (by decide) (Nat.le_of_ble_eq_true rfl) ?_
  intro pg eg sg mg bw mt cg ls X hst hl
  have X1 := X
  obtain ⟨hx, hb, hml, hrt, hlocks, hown, hnm, hts, hkz, hex⟩ := X1
  have hG : ∀ w ∈ GW, w.before _ sg = true := fun w h => hts w (List.mem_cons_of_mem _ h)
  have hK := hkz.1
  have hl : lv_has ls 5 [(0, .ref xa), (1, .int x1), (2, .int x2), (3, .int x3), (4, .int x4)] := hl
  refine lv_iload_n hx hb dH_add_0 rfl (lv_at hl 1 rfl) ?_
  refine lv_iload_n hx hb dH_add_1 rfl (lv_at hl 2 rfl) ?_
  refine lv_iload_n hx hb dH_add_2 rfl (lv_at hl 3 rfl) ?_
  refine ct_callS (av2 := [.int x1, .int x2, .int x3]) (rest := []) X hst (x_H_checkRegisters l D Y lo hlt hno) wc_H_checkRegisters ml_H_73 ws_H_checkRegisters wn_H md_H_checkRegisters (by decide) hl.1 rfl (Nat.le_of_ble_eq_true rfl) ⟨by omega, by omega⟩ (fun E M1 h => h) dH_add_3 (fun r M' H locs hp hst => ?_)
  exact False.elim hp
end
section
/-! The face: the methods that only answer. -/
theorem tp_b {g : Pf} {p : Nat} (hp : p ≤ 46337) (hg : ∀ m, g m < p) : ∀ q ∈ tp g, q.1 < 2 ^ 31 ∧ q.2 < 2 ^ 31 := by
  intro q hq
  obtain ⟨h1, h2, -⟩ := tp_mem hq
  have h3 := mv_lt h1
  have h4 := hg q.1
  rw [h2]
  omega
/-- the sum that value gathers -/
def vlF (p : Nat) (ys : Nat → Nat) : List (Nat × Nat) → Nat → Nat
  | [], z => z
  | q :: qs, z => vlF p ys qs ((z + q.2 * atF p (fun v k => pw p (ys v) k) q.1 3) % p)
theorem atF_congr {p k : Nat} {g g' : Nat → Nat → Nat} (h : ∀ v, v < 3 → g v (xe k v) = g' v (xe k v)) : ∀ {n : Nat}, n ≤ 3 → atF p g k n = atF p g' k n := by
  intro n
  induction n with
  | zero => intro _; rfl
  | succ n ih =>
    intro hn
    show atF p g k n * g n (xe k n) % p = atF p g' k n * g' n (xe k n) % p
    rw [ih (by omega), h n (by omega)]
theorem atF_lt {p k : Nat} {g : Nat → Nat → Nat} (hp : 2 ≤ p) : ∀ {n : Nat}, atF p g k n < p := by
  intro n
  cases n with
  | zero => exact hp
  | succ n => exact Nat.mod_lt _ (by omega)
def gd3 (L : List (Nat × Nat)) (g : Nat) : Nat → Nat
  | 0 => g
  | v + 1 => max (gd3 L g v) (dgl v L 0)
noncomputable def gdA (P : Nat → Pf) : Nat → Nat
  | 0 => 0
  | r + 1 => gd3 (tp (P r)) (gdA P r) 3
theorem gd3_lt {L : List (Nat × Nat)} {g : Nat} (h : g < 64) : ∀ v, gd3 L g v < 64
  | 0 => h
  | v + 1 => by
    have h1 := gd3_lt (L := L) h v
    have h2 := dgl_lt (v := v) (g := 0) (L := L) (by omega)
    show max _ _ < 64
    omega
theorem gdA_lt (P : Nat → Pf) : ∀ r, gdA P r < 64
  | 0 => by show 0 < 64; omega
  | r + 1 => gd3_lt (gdA_lt P r) 3

set_option maxHeartbeats 4000000 in
set_option maxRecDepth 100000 in
theorem c_H_terms (l : Launch) (D : va_G) (Y : Nat → ClassId) (lo : Nat) {M : Hm} {xa p rf : Nat} {A cap si : Nat → Nat} {P : Nat → Pf} (hcs : cs Y M xa A p P cap si rf) {r : Nat} (hr : r < 12) : ct l D Y lo y_H_terms b_H_terms 2 (some .int) 1 [.ref xa, .int (nI r)] M (fun r9 M' => r9 = some (.int (nI (tp (P r)).length)) ∧ M = M') nx 0 0 := by
  refine ct_of (by decide) (Nat.le_of_ble_eq_true rfl) ?_
  intro pg eg sg mg bw mt cg ls X hst hl
  have X1 := X
  obtain ⟨hx, hb, hml, hrt, hlocks, hown, hnm, hts, hkz, hex⟩ := X1
  have hG : ∀ w ∈ GW, w.before _ sg = true := fun w h => hts w (List.mem_cons_of_mem _ h)
  have hK := hkz.1
  have hl : lv_has ls 2 [(0, .ref xa), (1, .int (nI r))] := hl
  have hcs0 := hcs
  obtain ⟨x0, ⟨gr, x1, hgr⟩, ⟨gn, x2, hgn⟩, ⟨hf, hpr⟩, hs, ⟨gw, ht⟩, ⟨hs1, hs2⟩, hP, ⟨LS, hS⟩, hN, hc1, hc2, hPp⟩ := hcs
  have hpp := hf.2.1
  have hpp3 := hf.2.2
  have hf0 := hf.1
  refine lv_iload_n hx hb dH_terms_0 rfl (lv_at hl 1 rfl) ?_
  refine ct_callS (av2 := [.int (nI r)]) (rest := []) X hst (c_H_checkRegister l D Y lo hr) wc_H_checkRegister ml_H_48 ws_H_checkRegister wn_H md_H_checkRegister (by decide) hl.1 rfl (Nat.le_of_ble_eq_true rfl) ⟨by omega, by omega⟩ (fun _ _ h => h.elim) dH_terms_1 (fun r M' H locs hp hst => ?_)
  obtain ⟨rfl, rfl⟩ := hp
  refine lv_aload_n hx hb dH_terms_4 rfl (lv_at hl 0 rfl) ?_
  refine hp_get hx hb hG in_H hown hK hst x0 rfl 3 (by decide) (hG _ fl_H_11) rfl rfl dH_terms_5 ?_
  refine lv_iload_n hx hb dH_terms_8 rfl (lv_at hl 1 rfl) ?_
  refine hp_aald hx hb hK rfl hst x1 (j := r) (v := (A (si r))) (by omega) (by omega) (hgr r hr) dH_terms_9 ?_
  have hPr := hP r hr
  obtain ⟨a9, b9, fa9, fb9, h09, h19, h29, hL9, hn9, hc19, hc29⟩ := hPr
  refine hp_get hx hb hG in_P hown hK hst h09 rfl 2 (by decide) (hG _ fl_H_109) rfl rfl dH_terms_10 ?_
  exact ct_iret X hst ⟨rfl, rfl⟩ (by omega) (by omega) dH_terms_13

set_option maxHeartbeats 4000000 in
set_option maxRecDepth 100000 in
theorem x_H_terms (l : Launch) (D : va_G) (Y : Nat → ClassId) (lo : Nat) (hlt : l.stackTraces = false) {M : Hm} {xa : Nat} {x1 : Int32} (hno : ¬ inR x1) : ct l D Y lo y_H_terms b_H_terms 2 (some .int) 7 [.ref xa, .int x1] M (fun _ _ => False) (fun E M' => E = EI ∧ M = M') 1 6 := by
  refine ct_of (by decide) (Nat.le_of_ble_eq_true rfl) ?_
  intro pg eg sg mg bw mt cg ls X hst hl
  have X1 := X
  obtain ⟨hx, hb, hml, hrt, hlocks, hown, hnm, hts, hkz, hex⟩ := X1
  have hG : ∀ w ∈ GW, w.before _ sg = true := fun w h => hts w (List.mem_cons_of_mem _ h)
  have hK := hkz.1
  have hl : lv_has ls 2 [(0, .ref xa), (1, .int x1)] := hl
  refine lv_iload_n hx hb dH_terms_0 rfl (lv_at hl 1 rfl) ?_
  refine ct_callS (av2 := [.int x1]) (rest := []) X hst (x_H_checkRegister l D Y lo hlt hno) wc_H_checkRegister ml_H_48 ws_H_checkRegister wn_H md_H_checkRegister (by decide) hl.1 rfl (Nat.le_of_ble_eq_true rfl) ⟨by omega, by omega⟩ (fun E M1 h => h) dH_terms_1 (fun r M' H locs hp hst => ?_)
  exact False.elim hp

set_option maxHeartbeats 4000000 in
set_option maxRecDepth 100000 in
theorem c_H_degree (l : Launch) (D : va_G) (Y : Nat → ClassId) (lo : Nat) {M : Hm} {xa p rf : Nat} {A cap si : Nat → Nat} {P : Nat → Pf} (hcs : cs Y M xa A p P cap si rf) {r v : Nat} (hr : r < 12) (hv : v < 3) : ct l D Y lo y_H_degree b_H_degree 3 (some .int) 2 [.ref xa, .int (nI r), .int (nI v)] M (fun r9 M' => r9 = some (.int (nI (dgl v (tp (P r)) 0))) ∧ M = M') nx 0 0 := by
  refine ct_of (by decide) (Nat.le_of_ble_eq_true rfl) ?_
  intro pg eg sg mg bw mt cg ls X hst hl
  have X1 := X
  obtain ⟨hx, hb, hml, hrt, hlocks, hown, hnm, hts, hkz, hex⟩ := X1
  have hG : ∀ w ∈ GW, w.before _ sg = true := fun w h => hts w (List.mem_cons_of_mem _ h)
  have hK := hkz.1
  have hl : lv_has ls 3 [(0, .ref xa), (1, .int (nI r)), (2, .int (nI v))] := hl
  have hcs0 := hcs
  obtain ⟨x0, ⟨gr, x1, hgr⟩, ⟨gn, x2, hgn⟩, ⟨hf, hpr⟩, hs, ⟨gw, ht⟩, ⟨hs1, hs2⟩, hP, ⟨LS, hS⟩, hN, hc1, hc2, hPp⟩ := hcs
  have hpp := hf.2.1
  have hpp3 := hf.2.2
  have hf0 := hf.1
  refine lv_iload_n hx hb dH_degree_0 rfl (lv_at hl 1 rfl) ?_
  refine ct_callS (av2 := [.int (nI r)]) (rest := []) X hst (c_H_checkRegister l D Y lo hr) wc_H_checkRegister ml_H_48 ws_H_checkRegister wn_H md_H_checkRegister (by decide) hl.1 rfl (Nat.le_of_ble_eq_true rfl) ⟨by omega, by omega⟩ (fun _ _ h => h.elim) dH_degree_1 (fun r M' H locs hp hst => ?_)
  obtain ⟨rfl, rfl⟩ := hp
  refine lv_iload_n hx hb dH_degree_4 rfl (lv_at hl 2 rfl) ?_
  refine ct_callS (av2 := [.int (nI v)]) (rest := []) X hst (c_H_checkVariable l D Y lo hv) wc_H_checkVariable ml_H_58 ws_H_checkVariable wn_H md_H_checkVariable (by decide) hl.1 rfl (Nat.le_of_ble_eq_true rfl) ⟨by omega, by omega⟩ (fun _ _ h => h.elim) dH_degree_5 (fun r M' H locs hp hst => ?_)
  obtain ⟨rfl, rfl⟩ := hp
  refine lv_aload_n hx hb dH_degree_8 rfl (lv_at hl 0 rfl) ?_
  refine hp_get hx hb hG in_H hown hK hst x0 rfl 3 (by decide) (hG _ fl_H_11) rfl rfl dH_degree_9 ?_
  refine lv_iload_n hx hb dH_degree_12 rfl (lv_at hl 1 rfl) ?_
  refine hp_aald hx hb hK rfl hst x1 (j := r) (v := (A (si r))) (by omega) (by omega) (hgr r hr) dH_degree_13 ?_
  obtain ⟨fs_r, cell_r⟩ := (hP r hr).cell
  refine lv_iload_n hx hb dH_degree_14 rfl (lv_at hl 2 rfl) ?_
  refine ct_callV (av2 := [.int (nI v)]) (rest := []) (b := (A (si r))) X hst (c_P_degreeIn l D Y lo (hP r hr) hv (fun q hq => (tp_b hpp3 (hPp r hr) q hq).1)) cell_r rfl wc_P_degreeIn ml_H_85 wi_P_degreeIn wl_P_degreeIn wn_P md_P_degreeIn (by decide) hl.1 rfl (Nat.le_of_ble_eq_true rfl) ⟨by omega, by omega⟩ (fun _ _ h => h.elim) dH_degree_15 (fun r M' H locs hp hst => ?_)
  obtain ⟨rfl, rfl⟩ := hp
  exact ct_iret X hst ⟨rfl, rfl⟩ (by omega) (by omega) dH_degree_18

set_option maxHeartbeats 4000000 in
set_option maxRecDepth 100000 in
theorem x_H_degree (l : Launch) (D : va_G) (Y : Nat → ClassId) (lo : Nat) (hlt : l.stackTraces = false) {M : Hm} {xa : Nat} {x1 x2 : Int32} (hno : ¬ (inR x1 ∧ inV x2)) : ct l D Y lo y_H_degree b_H_degree 3 (some .int) 7 [.ref xa, .int x1, .int x2] M (fun _ _ => False) (fun E M' => M = M' ∧ (E = EI ∧ ¬ (inR x1) ∨ E = EA ∧ (inR x1))) 2 12 := by
  refine ct_of (by decide) (Nat.le_of_ble_eq_true rfl) ?_
  intro pg eg sg mg bw mt cg ls X hst hl
  have X1 := X
  obtain ⟨hx, hb, hml, hrt, hlocks, hown, hnm, hts, hkz, hex⟩ := X1
  have hG : ∀ w ∈ GW, w.before _ sg = true := fun w h => hts w (List.mem_cons_of_mem _ h)
  have hK := hkz.1
  have hl : lv_has ls 3 [(0, .ref xa), (1, .int x1), (2, .int x2)] := hl
  refine lv_iload_n hx hb dH_degree_0 rfl (lv_at hl 1 rfl) ?_
  refine ct_callS (av2 := [.int x1]) (rest := []) X hst (x_cr_call hlt x1 M) wc_H_checkRegister ml_H_48 ws_H_checkRegister wn_H md_H_checkRegister (by decide) hl.1 rfl (Nat.le_of_ble_eq_true rfl) ⟨by omega, by omega⟩ (fun E M1 h => ⟨h.2.1, Or.inl ⟨h.1, h.2.2⟩⟩) dH_degree_1 (fun r M' H locs hp hst => ?_)
  obtain ⟨rfl, rfl, h1⟩ := hp
  refine lv_iload_n hx hb dH_degree_4 rfl (lv_at hl 2 rfl) ?_
  refine ct_callS (av2 := [.int x2]) (rest := []) X hst (x_cv_call hlt x2 M) wc_H_checkVariable ml_H_58 ws_H_checkVariable wn_H md_H_checkVariable (by decide) hl.1 rfl (Nat.le_of_ble_eq_true rfl) ⟨by omega, by omega⟩ (fun E M1 h => ⟨h.2.1, Or.inr ⟨h.1, h1⟩⟩) dH_degree_5 (fun r M' H locs hp hst => ?_)
  obtain ⟨rfl, rfl, h2⟩ := hp
  exact absurd ⟨h1, h2⟩ hno

set_option maxHeartbeats 4000000 in
set_option maxRecDepth 100000 in
theorem c_H_isSame (l : Launch) (D : va_G) (Y : Nat → ClassId) (lo : Nat) {M : Hm} {xa p rf : Nat} {A cap si : Nat → Nat} {P : Nat → Pf} (hcs : cs Y M xa A p P cap si rf) {r a : Nat} (hr : r < 12) (ha : a < 12) : ct l D Y lo y_H_isSame b_H_isSame 3 (some .boolean) 1 [.ref xa, .int (nI r), .int (nI a)] M (fun r9 M' => ∃ b : Nat, r9 = some (.int (nI b)) ∧ b ≤ 1 ∧ (b = 1 ↔ tp (P r) = tp (P a)) ∧ M = M') nx 0 0 := by
  refine ct_of (by decide) (Nat.le_of_ble_eq_true rfl) ?_
  intro pg eg sg mg bw mt cg ls X hst hl
  have X1 := X
  obtain ⟨hx, hb, hml, hrt, hlocks, hown, hnm, hts, hkz, hex⟩ := X1
  have hG : ∀ w ∈ GW, w.before _ sg = true := fun w h => hts w (List.mem_cons_of_mem _ h)
  have hK := hkz.1
  have hl : lv_has ls 3 [(0, .ref xa), (1, .int (nI r)), (2, .int (nI a))] := hl
  have hcs0 := hcs
  obtain ⟨x0, ⟨gr, x1, hgr⟩, ⟨gn, x2, hgn⟩, ⟨hf, hpr⟩, hs, ⟨gw, ht⟩, ⟨hs1, hs2⟩, hP, ⟨LS, hS⟩, hN, hc1, hc2, hPp⟩ := hcs
  have hpp := hf.2.1
  have hpp3 := hf.2.2
  have hf0 := hf.1
  refine lv_iload_n hx hb dH_isSame_0 rfl (lv_at hl 1 rfl) ?_
  refine ct_callS (av2 := [.int (nI r)]) (rest := []) X hst (c_H_checkRegister l D Y lo hr) wc_H_checkRegister ml_H_48 ws_H_checkRegister wn_H md_H_checkRegister (by decide) hl.1 rfl (Nat.le_of_ble_eq_true rfl) ⟨by omega, by omega⟩ (fun _ _ h => h.elim) dH_isSame_1 (fun r M' H locs hp hst => ?_)
  obtain ⟨rfl, rfl⟩ := hp
  refine lv_iload_n hx hb dH_isSame_4 rfl (lv_at hl 2 rfl) ?_
  refine ct_callS (av2 := [.int (nI a)]) (rest := []) X hst (c_H_checkRegister l D Y lo ha) wc_H_checkRegister ml_H_48 ws_H_checkRegister wn_H md_H_checkRegister (by decide) hl.1 rfl (Nat.le_of_ble_eq_true rfl) ⟨by omega, by omega⟩ (fun _ _ h => h.elim) dH_isSame_5 (fun r M' H locs hp hst => ?_)
  obtain ⟨rfl, rfl⟩ := hp
  refine lv_aload_n hx hb dH_isSame_8 rfl (lv_at hl 0 rfl) ?_
  refine hp_get hx hb hG in_H hown hK hst x0 rfl 3 (by decide) (hG _ fl_H_11) rfl rfl dH_isSame_9 ?_
  refine lv_iload_n hx hb dH_isSame_12 rfl (lv_at hl 1 rfl) ?_
  refine hp_aald hx hb hK rfl hst x1 (j := r) (v := (A (si r))) (by omega) (by omega) (hgr r hr) dH_isSame_13 ?_
  obtain ⟨fs_r, cell_r⟩ := (hP r hr).cell
  refine lv_aload_n hx hb dH_isSame_14 rfl (lv_at hl 0 rfl) ?_
  refine hp_get hx hb hG in_H hown hK hst x0 rfl 3 (by decide) (hG _ fl_H_11) rfl rfl dH_isSame_15 ?_
  refine lv_iload_n hx hb dH_isSame_18 rfl (lv_at hl 2 rfl) ?_
  refine hp_aald hx hb hK rfl hst x1 (j := a) (v := (A (si a))) (by omega) (by omega) (hgr a ha) dH_isSame_19 ?_
  refine ct_callV (av2 := [.ref (A (si a))]) (rest := []) (b := (A (si r))) X hst (c_P_matches l D Y lo (hP r hr) (hP a ha) (tp_b hpp3 (hPp r hr)) (tp_b hpp3 (hPp a ha))) cell_r rfl wc_P_matches ml_H_162 wi_P_matches wl_P_matches wn_P md_P_matches (by decide) hl.1 rfl (Nat.le_of_ble_eq_true rfl) ⟨by omega, by omega⟩ (fun _ _ h => h.elim) dH_isSame_20 (fun r M' H locs hp hst => ?_)
  obtain ⟨b, rfl, hb1, hb2, rfl⟩ := hp
  exact ct_zret X hst (by omega) ⟨b, rfl, hb1, hb2, rfl⟩ (by omega) (by omega) dH_isSame_23

set_option maxHeartbeats 4000000 in
set_option maxRecDepth 100000 in
theorem x_H_isSame (l : Launch) (D : va_G) (Y : Nat → ClassId) (lo : Nat) (hlt : l.stackTraces = false) {M : Hm} {xa : Nat} {x1 x2 : Int32} (hno : ¬ (inR x1 ∧ inR x2)) : ct l D Y lo y_H_isSame b_H_isSame 3 (some .boolean) 7 [.ref xa, .int x1, .int x2] M (fun _ _ => False) (fun E M' => E = EI ∧ M = M') 2 12 := by
  refine ct_of (by decide) (Nat.le_of_ble_eq_true rfl) ?_
  intro pg eg sg mg bw mt cg ls X hst hl
  have X1 := X
  obtain ⟨hx, hb, hml, hrt, hlocks, hown, hnm, hts, hkz, hex⟩ := X1
  have hG : ∀ w ∈ GW, w.before _ sg = true := fun w h => hts w (List.mem_cons_of_mem _ h)
  have hK := hkz.1
  have hl : lv_has ls 3 [(0, .ref xa), (1, .int x1), (2, .int x2)] := hl
  refine lv_iload_n hx hb dH_isSame_0 rfl (lv_at hl 1 rfl) ?_
  refine ct_callS (av2 := [.int x1]) (rest := []) X hst (x_cr_call hlt x1 M) wc_H_checkRegister ml_H_48 ws_H_checkRegister wn_H md_H_checkRegister (by decide) hl.1 rfl (Nat.le_of_ble_eq_true rfl) ⟨by omega, by omega⟩ (fun E M1 h => ⟨h.1, h.2.1⟩) dH_isSame_1 (fun r M' H locs hp hst => ?_)
  obtain ⟨rfl, rfl, h1⟩ := hp
  refine lv_iload_n hx hb dH_isSame_4 rfl (lv_at hl 2 rfl) ?_
  refine ct_callS (av2 := [.int x2]) (rest := []) X hst (x_cr_call hlt x2 M) wc_H_checkRegister ml_H_48 ws_H_checkRegister wn_H md_H_checkRegister (by decide) hl.1 rfl (Nat.le_of_ble_eq_true rfl) ⟨by omega, by omega⟩ (fun E M1 h => ⟨h.1, h.2.1⟩) dH_isSame_5 (fun r M' H locs hp hst => ?_)
  obtain ⟨rfl, rfl, h2⟩ := hp
  exact absurd ⟨h1, h2⟩ hno

set_option maxHeartbeats 4000000 in
set_option maxRecDepth 100000 in
theorem c_H_coefficient (l : Launch) (D : va_G) (Y : Nat → ClassId) (lo : Nat) {M : Hm} {xa p rf : Nat} {A cap si : Nat → Nat} {P : Nat → Pf} (hcs : cs Y M xa A p P cap si rf) {r e0 e1 e2 : Nat} (hr : r < 12) (h0 : e0 < 2 ^ 31) (h1 : e1 < 2 ^ 31) (h2 : e2 < 2 ^ 31) : ct l D Y lo y_H_coefficient b_H_coefficient 5 (some .int) 1 [.ref xa, .int (nI r), .int (nI e0), .int (nI e1), .int (nI e2)] M (fun r9 M' => r9 = some (.int (nI (if e0 + e1 + e2 ≤ 36 then cfo (mp e0 e1 e2) (tp (P r)) else 0))) ∧ M = M') nx 0 0 := by
  refine ct_of (by decide) (Nat.le_of_ble_eq_true rfl) ?_
  intro pg eg sg mg bw mt cg ls X hst hl
  have X1 := X
  obtain ⟨hx, hb, hml, hrt, hlocks, hown, hnm, hts, hkz, hex⟩ := X1
  have hG : ∀ w ∈ GW, w.before _ sg = true := fun w h => hts w (List.mem_cons_of_mem _ h)
  have hK := hkz.1
  have hl : lv_has ls 5 [(0, .ref xa), (1, .int (nI r)), (2, .int (nI e0)), (3, .int (nI e1)), (4, .int (nI e2))] := hl
  have hcs0 := hcs
  obtain ⟨x0, ⟨gr, x1, hgr⟩, ⟨gn, x2, hgn⟩, ⟨hf, hpr⟩, hs, ⟨gw, ht⟩, ⟨hs1, hs2⟩, hP, ⟨LS, hS⟩, hN, hc1, hc2, hPp⟩ := hcs
  have hpp := hf.2.1
  have hpp3 := hf.2.2
  have hf0 := hf.1
  refine lv_iload_n hx hb dH_coefficient_0 rfl (lv_at hl 1 rfl) ?_
  refine ct_callS (av2 := [.int (nI r)]) (rest := []) X hst (c_H_checkRegister l D Y lo hr) wc_H_checkRegister ml_H_48 ws_H_checkRegister wn_H md_H_checkRegister (by decide) hl.1 rfl (Nat.le_of_ble_eq_true rfl) ⟨by omega, by omega⟩ (fun _ _ h => h.elim) dH_coefficient_1 (fun r M' H locs hp hst => ?_)
  obtain ⟨rfl, rfl⟩ := hp
  refine lv_iload_n hx hb dH_coefficient_4 rfl (lv_at hl 2 rfl) ?_
  refine lv_if_lt hx hb dH_coefficient_5 (tgt := 17) rfl (fun hc => ?_) (fun hc => ?_)
  · skip
    rw [← nI_0] at hc
    have hc9 : e0 < 0 := (nI_ltI (by omega) (by omega)).mp hc
    exact absurd hc9 (by omega)
  · skip
    rw [← nI_0] at hc
    have hc9 : ¬ e0 < 0 := fun z => hc ((nI_ltI (by omega) (by omega)).mpr z)
    refine lv_iload_n hx hb dH_coefficient_8 rfl (lv_at hl 3 rfl) ?_
    refine lv_if_lt hx hb dH_coefficient_9 (tgt := 17) rfl (fun hc => ?_) (fun hc => ?_)
    · skip
      rw [← nI_0] at hc
      have hc9 : e1 < 0 := (nI_ltI (by omega) (by omega)).mp hc
      exact absurd hc9 (by omega)
    · skip
      rw [← nI_0] at hc
      have hc9 : ¬ e1 < 0 := fun z => hc ((nI_ltI (by omega) (by omega)).mpr z)
      refine lv_iload hx hb dH_coefficient_12 (lv_at hl 4 rfl) ?_
      refine lv_if_ge hx hb dH_coefficient_14 (tgt := 25) rfl (fun hc => ?_) (fun hc => ?_)
      · skip
        rw [← nI_0] at hc
        have hc9 : 0 ≤ e2 := (nI_leI (by omega) (by omega)).mp hc
        refine lv_iload_n hx hb dH_coefficient_25 rfl (lv_at hl 2 rfl) ?_
        refine lv_iload_n hx hb dH_coefficient_26 rfl (lv_at hl 3 rfl) ?_
        refine lv_iload hx hb dH_coefficient_27 (lv_at hl 4 rfl) ?_
        refine ct_callS (av2 := [.int (nI e0), .int (nI e1), .int (nI e2)]) (rest := []) X hst (c_Q_exists l D Y lo (a := e0) (b := e1) (c := e2) h0 h1 h2) wc_Q_exists ml_H_152 ws_Q_exists wn_Q md_Q_exists (by decide) hl.1 rfl (Nat.le_of_ble_eq_true rfl) ⟨by omega, by omega⟩ (fun _ _ h => h.elim) dH_coefficient_29 (fun r M' H locs hp hst => ?_)
        obtain ⟨z, rfl, hz1, hz2, rfl⟩ := hp
        refine lv_if_ne hx hb dH_coefficient_32 (tgt := 37) rfl (fun hc => ?_) (fun hc => ?_)
        · skip
          rw [← nI_0] at hc
          have hc8 : ¬ z = 0 := fun z => hc ((nI_eq (by omega) (by omega)).mpr z)
          have hsum : e0 + e1 + e2 ≤ 36 := hz2.mp (by omega)
          refine lv_aload_n hx hb dH_coefficient_37 rfl (lv_at hl 0 rfl) ?_
          refine hp_get hx hb hG in_H hown hK hst x0 rfl 3 (by decide) (hG _ fl_H_11) rfl rfl dH_coefficient_38 ?_
          refine lv_iload_n hx hb dH_coefficient_41 rfl (lv_at hl 1 rfl) ?_
          refine hp_aald hx hb hK rfl hst x1 (j := r) (v := (A (si r))) (by omega) (by omega) (hgr r hr) dH_coefficient_42 ?_
          obtain ⟨fs_r, cell_r⟩ := (hP r hr).cell
          refine lv_iload_n hx hb dH_coefficient_43 rfl (lv_at hl 2 rfl) ?_
          refine lv_iload_n hx hb dH_coefficient_44 rfl (lv_at hl 3 rfl) ?_
          refine lv_iload hx hb dH_coefficient_45 (lv_at hl 4 rfl) ?_
          refine ct_callS (av2 := [.int (nI e0), .int (nI e1), .int (nI e2)]) (rest := [.ref (A (si r))]) X hst (c_Q_of l D Y lo (a := e0) (b := e1) (c := e2) hsum) wc_Q_of ml_H_156 ws_Q_of wn_Q md_Q_of (by decide) hl.1 rfl (Nat.le_of_ble_eq_true rfl) ⟨by omega, by omega⟩ (fun _ _ h => h.elim) dH_coefficient_47 (fun r M' H locs hp hst => ?_)
          obtain ⟨rfl, rfl⟩ := hp
          have hmp := mv_lt (mv_mp hsum)
          refine ct_callV (av2 := [.int (nI (mp e0 e1 e2))]) (rest := []) (b := (A (si r))) X hst (c_P_coefficientOf l D Y lo (hP r hr) (k9 := mp e0 e1 e2) (by omega) (fun q hq => (tp_b hpp3 (hPp r hr) q hq).1)) cell_r rfl wc_P_coefficientOf ml_H_159 wi_P_coefficientOf wl_P_coefficientOf wn_P md_P_coefficientOf (by decide) hl.1 rfl (Nat.le_of_ble_eq_true rfl) ⟨by omega, by omega⟩ (fun _ _ h => h.elim) dH_coefficient_50 (fun r M' H locs hp hst => ?_)
          obtain ⟨rfl, rfl⟩ := hp
          exact ct_iret X hst ⟨by rw [if_pos hsum], rfl⟩ (by omega) (by omega) dH_coefficient_53
        · skip
          rw [← nI_0] at hc
          have hc8 : z = 0 := (nI_eq (by omega) (by omega)).mp hc
          refine lv_iconst (v := nI 0) hx hb dH_coefficient_35 (by decide +kernel) ?_
          exact ct_iret X hst ⟨by rw [if_neg (fun h => by have := hz2.mpr h; omega)], rfl⟩ (by omega) (by omega) dH_coefficient_36
      · skip
        rw [← nI_0] at hc
        have hc9 : ¬ 0 ≤ e2 := fun z => hc ((nI_leI (by omega) (by omega)).mpr z)
        exact absurd (Nat.zero_le _) hc9

set_option maxHeartbeats 4000000 in
set_option maxRecDepth 100000 in
theorem x_H_coefficient (l : Launch) (D : va_G) (Y : Nat → ClassId) (lo : Nat) (hlt : l.stackTraces = false) {M : Hm} {xa : Nat} {x1 x2 x3 x4 : Int32} (hno : ¬ (inR x1 ∧ ¬ x2 < 0 ∧ ¬ x3 < 0 ∧ ¬ x4 < 0)) : ct l D Y lo y_H_coefficient b_H_coefficient 5 (some .int) 7 [.ref xa, .int x1, .int x2, .int x3, .int x4] M (fun _ _ => False) (fun E M' => M = M' ∧ (E = EI ∧ ¬ (inR x1) ∨ E = EA ∧ (inR x1))) 2 12 := by
  refine ct_of (by decide) (Nat.le_of_ble_eq_true rfl) ?_
  intro pg eg sg mg bw mt cg ls X hst hl
  have X1 := X
  obtain ⟨hx, hb, hml, hrt, hlocks, hown, hnm, hts, hkz, hex⟩ := X1
  have hG : ∀ w ∈ GW, w.before _ sg = true := fun w h => hts w (List.mem_cons_of_mem _ h)
  have hK := hkz.1
  have hl : lv_has ls 5 [(0, .ref xa), (1, .int x1), (2, .int x2), (3, .int x3), (4, .int x4)] := hl
  refine lv_iload_n hx hb dH_coefficient_0 rfl (lv_at hl 1 rfl) ?_
  refine ct_callS (av2 := [.int x1]) (rest := []) X hst (x_cr_call hlt x1 M) wc_H_checkRegister ml_H_48 ws_H_checkRegister wn_H md_H_checkRegister (by decide) hl.1 rfl (Nat.le_of_ble_eq_true rfl) ⟨by omega, by omega⟩ (fun E M1 h => ⟨h.2.1, Or.inl ⟨h.1, h.2.2⟩⟩) dH_coefficient_1 (fun r M' H locs hp hst => ?_)
  obtain ⟨rfl, rfl, h1⟩ := hp
  refine lv_iload_n hx hb dH_coefficient_4 rfl (lv_at hl 2 rfl) ?_
  refine lv_if_lt hx hb dH_coefficient_5 (tgt := 17) rfl (fun hc => ?_) (fun hc => ?_)
  · skip
    exact ct_throw (cls := EA) (ik := 96) (ic := 98) X hst hlt rfl (by decide +kernel) cl_H_96 wn_IllegalArgumentException at_A gd_A hl.1 (by decide) (Nat.le_of_ble_eq_true rfl) (by omega) (by omega) ⟨rfl, Or.inr ⟨rfl, h1⟩⟩ dH_coefficient_17 dH_coefficient_20 dH_coefficient_21 dH_coefficient_24
  · skip
    have n1 := hc
    refine lv_iload_n hx hb dH_coefficient_8 rfl (lv_at hl 3 rfl) ?_
    refine lv_if_lt hx hb dH_coefficient_9 (tgt := 17) rfl (fun hc => ?_) (fun hc => ?_)
    · skip
      exact ct_throw (cls := EA) (ik := 96) (ic := 98) X hst hlt rfl (by decide +kernel) cl_H_96 wn_IllegalArgumentException at_A gd_A hl.1 (by decide) (Nat.le_of_ble_eq_true rfl) (by omega) (by omega) ⟨rfl, Or.inr ⟨rfl, h1⟩⟩ dH_coefficient_17 dH_coefficient_20 dH_coefficient_21 dH_coefficient_24
    · skip
      have n2 := hc
      refine lv_iload hx hb dH_coefficient_12 (lv_at hl 4 rfl) ?_
      refine lv_if_ge hx hb dH_coefficient_14 (tgt := 25) rfl (fun hc => ?_) (fun hc => ?_)
      · skip
        exact absurd ⟨h1, n1, n2, fun z => absurd hc (by rw [Int32.le_iff_toInt_le]; rw [Int32.lt_iff_toInt_lt] at z; omega)⟩ hno
      · skip
        exact ct_throw (cls := EA) (ik := 96) (ic := 98) X hst hlt rfl (by decide +kernel) cl_H_96 wn_IllegalArgumentException at_A gd_A hl.1 (by decide) (Nat.le_of_ble_eq_true rfl) (by omega) (by omega) ⟨rfl, Or.inr ⟨rfl, h1⟩⟩ dH_coefficient_17 dH_coefficient_20 dH_coefficient_21 dH_coefficient_24

set_option maxHeartbeats 4000000 in
set_option maxRecDepth 100000 in
theorem c_H_allTerms (l : Launch) (D : va_G) (Y : Nat → ClassId) (lo : Nat) {M : Hm} {xa p rf : Nat} {A cap si : Nat → Nat} {P : Nat → Pf} (hcs : cs Y M xa A p P cap si rf) : ct l D Y lo y_H_allTerms b_H_allTerms 3 (some .int) 0 [.ref xa] M (fun r9 M' => r9 = some (.int (nI (sm (fun r => (tp (P r)).length) 12))) ∧ M = M') nx 0 0 := by
  refine ct_of (by decide) (Nat.le_of_ble_eq_true rfl) ?_
  intro pg eg sg mg bw mt cg ls X hst hl
  have X1 := X
  obtain ⟨hx, hb, hml, hrt, hlocks, hown, hnm, hts, hkz, hex⟩ := X1
  have hG : ∀ w ∈ GW, w.before _ sg = true := fun w h => hts w (List.mem_cons_of_mem _ h)
  have hK := hkz.1
  have hl : lv_has ls 3 [(0, .ref xa)] := hl
  have hcs0 := hcs
  obtain ⟨x0, ⟨gr, x1, hgr⟩, ⟨gn, x2, hgn⟩, ⟨hf, hpr⟩, hs, ⟨gw, ht⟩, ⟨hs1, hs2⟩, hP, ⟨LS, hS⟩, hN, hc1, hc2, hPp⟩ := hcs
  have hpp := hf.2.1
  have hpp3 := hf.2.2
  have hf0 := hf.1
  refine lv_iconst (v := nI 0) hx hb dH_allTerms_0 (by decide +kernel) ?_
  refine lv_istore_n (lv' := [(1, .int (nI 0)), (0, .ref xa)]) hx hb dH_allTerms_1 rfl hl (by decide) rfl (fun ls hl => ?_)
  refine lv_iconst (v := nI 0) hx hb dH_allTerms_2 (by decide +kernel) ?_
  refine lv_istore_n (lv' := [(2, .int (nI 0)), (1, .int (nI 0)), (0, .ref xa)]) hx hb dH_allTerms_3 rfl hl (by decide) rfl (fun ls hl => ?_)
  have LP : ∀ (kk : Nat) (z r : Nat) (H : Heap) (locs : List Loc) (ls : Array Slot), kk = 13 - r → (r ≤ 12) → (z = sm (fun r => (tp (P r)).length) r) → hp_st D vC lo M sg.heap H locs → lv_has ls 3 [(0, .ref xa), (1, .int (nI z)), (2, .int (nI r))] → cW pg l eg sg mg [.ref xa] bw mt cg y_H_allTerms b_H_allTerms 3 (some .int) 0 D lo (fun r9 M' => r9 = some (.int (nI (sm (fun r => (tp (P r)).length) 12))) ∧ M = M') nx 0 0 H locs 0 0 (F0 mg 4 ls []) := by
    intro kk
    induction kk using Nat.strongRecOn with
    | _ kk ih =>
    intro z r H locs ls hkk hr9 hz hst hl
    refine lv_iload_n hx hb dH_allTerms_4 rfl (lv_at hl 2 rfl) ?_
    refine lv_bipush (v := nI 12) hx hb dH_allTerms_5 (by decide +kernel) ?_
    refine lv_icmp_ge hx hb dH_allTerms_7 (tgt := 28) rfl (fun hc => ?_) (fun hc => ?_)
    · skip
      have hc : 12 ≤ r := (nI_leI (by omega) (by omega)).mp hc
      have : r = 12 := by omega
      subst this
      refine lv_iload_n hx hb dH_allTerms_28 rfl (lv_at hl 1 rfl) ?_
      exact ct_iret X hst ⟨by rw [hz], rfl⟩ (by omega) (by omega) dH_allTerms_29
    · skip
      have hc : ¬ 12 ≤ r := fun z => hc ((nI_leI (by omega) (by omega)).mpr z)
      have hr : r < 12 := by omega
      refine lv_iload_n hx hb dH_allTerms_10 rfl (lv_at hl 1 rfl) ?_
      refine lv_aload_n hx hb dH_allTerms_11 rfl (lv_at hl 0 rfl) ?_
      refine hp_get hx hb hG in_H hown hK hst x0 rfl 3 (by decide) (hG _ fl_H_11) rfl rfl dH_allTerms_12 ?_
      refine lv_iload_n hx hb dH_allTerms_15 rfl (lv_at hl 2 rfl) ?_
      refine hp_aald hx hb hK rfl hst x1 (j := r) (v := (A (si r))) (by omega) (by omega) (hgr r hr) dH_allTerms_16 ?_
      have hPr := hP r hr
      obtain ⟨a9, b9, fa9, fb9, h09, h19, h29, hL9, hn9, hc19, hc29⟩ := hPr
      refine hp_get hx hb hG in_P hown hK hst h09 rfl 2 (by decide) (hG _ fl_H_109) rfl rfl dH_allTerms_17 ?_
      refine t_iadd hx hb dH_allTerms_20 (v := nI (z + ((tp (P r)).length))) (nI_add _ _) ?_
      refine lv_istore_n (lv' := [(1, .int (nI (z + ((tp (P r)).length)))), (0, .ref xa), (2, .int (nI r))]) hx hb dH_allTerms_21 rfl hl (by decide) rfl (fun ls hl => ?_)
      refine lv_iinc (lv' := [(2, .int (nI (r + 1))), (1, .int (nI (z + ((tp (P r)).length)))), (0, .ref xa)]) hx hb dH_allTerms_22 hl (k := 2) rfl (ii_p _) (by decide) rfl (fun ls hl => ?_)
      refine lv_goto hx hb dH_allTerms_25 (tgt := 4) rfl ?_
      exact ih _ (by omega) (z + (tp (P r)).length) (r + 1) _ _ _ rfl (by omega) (by rw [hz]; rfl) hst (lv_sub hl [2, 1, 0] rfl)
  exact LP _ 0 0 _ _ _ rfl (by omega) rfl hst (lv_sub hl [2, 1, 0] rfl)

set_option maxHeartbeats 4000000 in
set_option maxRecDepth 100000 in
theorem c_H_zeroRegisters (l : Launch) (D : va_G) (Y : Nat → ClassId) (lo : Nat) {M : Hm} {xa p rf : Nat} {A cap si : Nat → Nat} {P : Nat → Pf} (hcs : cs Y M xa A p P cap si rf) : ct l D Y lo y_H_zeroRegisters b_H_zeroRegisters 3 (some .int) 1 [.ref xa] M (fun r9 M' => r9 = some (.int (nI (sm (fun r => if (tp (P r)).length = 0 then 1 else 0) 12))) ∧ M = M') nx 0 0 := by
  refine ct_of (by decide) (Nat.le_of_ble_eq_true rfl) ?_
  intro pg eg sg mg bw mt cg ls X hst hl
  have X1 := X
  obtain ⟨hx, hb, hml, hrt, hlocks, hown, hnm, hts, hkz, hex⟩ := X1
  have hG : ∀ w ∈ GW, w.before _ sg = true := fun w h => hts w (List.mem_cons_of_mem _ h)
  have hK := hkz.1
  have hl : lv_has ls 3 [(0, .ref xa)] := hl
  have hcs0 := hcs
  obtain ⟨x0, ⟨gr, x1, hgr⟩, ⟨gn, x2, hgn⟩, ⟨hf, hpr⟩, hs, ⟨gw, ht⟩, ⟨hs1, hs2⟩, hP, ⟨LS, hS⟩, hN, hc1, hc2, hPp⟩ := hcs
  have hpp := hf.2.1
  have hpp3 := hf.2.2
  have hf0 := hf.1
  refine lv_iconst (v := nI 0) hx hb dH_zeroRegisters_0 (by decide +kernel) ?_
  refine lv_istore_n (lv' := [(1, .int (nI 0)), (0, .ref xa)]) hx hb dH_zeroRegisters_1 rfl hl (by decide) rfl (fun ls hl => ?_)
  refine lv_iconst (v := nI 0) hx hb dH_zeroRegisters_2 (by decide +kernel) ?_
  refine lv_istore_n (lv' := [(2, .int (nI 0)), (1, .int (nI 0)), (0, .ref xa)]) hx hb dH_zeroRegisters_3 rfl hl (by decide) rfl (fun ls hl => ?_)
  have LP : ∀ (kk : Nat) (z r : Nat) (H : Heap) (locs : List Loc) (ls : Array Slot), kk = 13 - r → (r ≤ 12) → (z = sm (fun r => if (tp (P r)).length = 0 then 1 else 0) r) → hp_st D vC lo M sg.heap H locs → lv_has ls 3 [(0, .ref xa), (1, .int (nI z)), (2, .int (nI r))] → cW pg l eg sg mg [.ref xa] bw mt cg y_H_zeroRegisters b_H_zeroRegisters 3 (some .int) 1 D lo (fun r9 M' => r9 = some (.int (nI (sm (fun r => if (tp (P r)).length = 0 then 1 else 0) 12))) ∧ M = M') nx 0 0 H locs 0 0 (F0 mg 4 ls []) := by
    intro kk
    induction kk using Nat.strongRecOn with
    | _ kk ih =>
    intro z r H locs ls hkk hr9 hz hst hl
    refine lv_iload_n hx hb dH_zeroRegisters_4 rfl (lv_at hl 2 rfl) ?_
    refine lv_bipush (v := nI 12) hx hb dH_zeroRegisters_5 (by decide +kernel) ?_
    refine lv_icmp_ge hx hb dH_zeroRegisters_7 (tgt := 31) rfl (fun hc => ?_) (fun hc => ?_)
    · skip
      have hc : 12 ≤ r := (nI_leI (by omega) (by omega)).mp hc
      have : r = 12 := by omega
      subst this
      refine lv_iload_n hx hb dH_zeroRegisters_31 rfl (lv_at hl 1 rfl) ?_
      exact ct_iret X hst ⟨by rw [hz], rfl⟩ (by omega) (by omega) dH_zeroRegisters_32
    · skip
      have hc : ¬ 12 ≤ r := fun z => hc ((nI_leI (by omega) (by omega)).mpr z)
      have hr : r < 12 := by omega
      refine lv_aload_n hx hb dH_zeroRegisters_10 rfl (lv_at hl 0 rfl) ?_
      refine hp_get hx hb hG in_H hown hK hst x0 rfl 3 (by decide) (hG _ fl_H_11) rfl rfl dH_zeroRegisters_11 ?_
      refine lv_iload_n hx hb dH_zeroRegisters_14 rfl (lv_at hl 2 rfl) ?_
      refine hp_aald hx hb hK rfl hst x1 (j := r) (v := (A (si r))) (by omega) (by omega) (hgr r hr) dH_zeroRegisters_15 ?_
      obtain ⟨fs_r, cell_r⟩ := (hP r hr).cell
      refine ct_callV (av2 := []) (rest := []) (b := (A (si r))) X hst (c_P_isZero l D Y lo (hP r hr)) cell_r rfl wc_P_isZero ml_H_102 wi_P_isZero wl_P_isZero wn_P md_P_isZero (by decide) hl.1 rfl (Nat.le_of_ble_eq_true rfl) ⟨by omega, by omega⟩ (fun _ _ h => h.elim) dH_zeroRegisters_16 (fun r M' H locs hp hst => ?_)
      obtain ⟨b, rfl, hb1, hb2, rfl⟩ := hp
      refine lv_if_eq hx hb dH_zeroRegisters_19 (tgt := 25) rfl (fun hc => ?_) (fun hc => ?_)
      · skip
        rw [← nI_0] at hc
        have hc7 : b = 0 := (nI_eq (by omega) (by omega)).mp hc
        refine lv_iinc (lv' := [(2, .int (nI (r + 1))), (0, .ref xa), (1, .int (nI z))]) hx hb dH_zeroRegisters_25 hl (k := 2) rfl (ii_p _) (by decide) rfl (fun ls hl => ?_)
        refine lv_goto hx hb dH_zeroRegisters_28 (tgt := 4) rfl ?_
        exact ih _ (by omega) z (r + 1) _ _ _ rfl (by omega) (by
            rw [hz]
            show _ = sm _ r + (if (tp (P r)).length = 0 then 1 else 0)
            rw [if_neg (fun h => by have := hb2.mpr (List.length_eq_zero_iff.mp h); omega)]; rfl) hst (lv_sub hl [1, 2, 0] rfl)
      · skip
        rw [← nI_0] at hc
        have hc7 : ¬ b = 0 := fun z => hc ((nI_eq (by omega) (by omega)).mpr z)
        refine lv_iinc (lv' := [(1, .int (nI (z + 1))), (0, .ref xa), (2, .int (nI r))]) hx hb dH_zeroRegisters_22 hl (k := 1) rfl (ii_p _) (by decide) rfl (fun ls hl => ?_)
        refine lv_iinc (lv' := [(2, .int (nI (r + 1))), (1, .int (nI (z + 1))), (0, .ref xa)]) hx hb dH_zeroRegisters_25 hl (k := 2) rfl (ii_p _) (by decide) rfl (fun ls hl => ?_)
        refine lv_goto hx hb dH_zeroRegisters_28 (tgt := 4) rfl ?_
        exact ih _ (by omega) (z + 1) (r + 1) _ _ _ rfl (by omega) (by
            rw [hz]
            show _ = sm _ r + (if (tp (P r)).length = 0 then 1 else 0)
            rw [if_pos (List.length_eq_zero_iff.mpr (hb2.mp (by omega)))]) hst (lv_sub hl [2, 1, 0] rfl)
  exact LP _ 0 0 _ _ _ rfl (by omega) rfl hst (lv_sub hl [2, 1, 0] rfl)

set_option maxHeartbeats 4000000 in
set_option maxRecDepth 100000 in
theorem c_H_greatestDegree (l : Launch) (D : va_G) (Y : Nat → ClassId) (lo : Nat) {M : Hm} {xa p rf : Nat} {A cap si : Nat → Nat} {P : Nat → Pf} (hcs : cs Y M xa A p P cap si rf) : ct l D Y lo y_H_greatestDegree b_H_greatestDegree 4 (some .int) 2 [.ref xa] M (fun r9 M' => r9 = some (.int (nI (gdA P 12))) ∧ M = M') nx 0 0 := by
  refine ct_of (by decide) (Nat.le_of_ble_eq_true rfl) ?_
  intro pg eg sg mg bw mt cg ls X hst hl
  have X1 := X
  obtain ⟨hx, hb, hml, hrt, hlocks, hown, hnm, hts, hkz, hex⟩ := X1
  have hG : ∀ w ∈ GW, w.before _ sg = true := fun w h => hts w (List.mem_cons_of_mem _ h)
  have hK := hkz.1
  have hl : lv_has ls 4 [(0, .ref xa)] := hl
  have hcs0 := hcs
  obtain ⟨x0, ⟨gr, x1, hgr⟩, ⟨gn, x2, hgn⟩, ⟨hf, hpr⟩, hs, ⟨gw, ht⟩, ⟨hs1, hs2⟩, hP, ⟨LS, hS⟩, hN, hc1, hc2, hPp⟩ := hcs
  have hpp := hf.2.1
  have hpp3 := hf.2.2
  have hf0 := hf.1
  refine lv_iconst (v := nI 0) hx hb dH_greatestDegree_0 (by decide +kernel) ?_
  refine lv_istore_n (lv' := [(1, .int (nI 0)), (0, .ref xa)]) hx hb dH_greatestDegree_1 rfl hl (by decide) rfl (fun ls hl => ?_)
  refine lv_iconst (v := nI 0) hx hb dH_greatestDegree_2 (by decide +kernel) ?_
  refine lv_istore_n (lv' := [(2, .int (nI 0)), (1, .int (nI 0)), (0, .ref xa)]) hx hb dH_greatestDegree_3 rfl hl (by decide) rfl (fun ls hl => ?_)
  have LP : ∀ (kk : Nat) (r : Nat) (H : Heap) (locs : List Loc) (ls : Array Slot), kk = 13 - r → (r ≤ 12) → hp_st D vC lo M sg.heap H locs → lv_has ls 4 [(0, .ref xa), (1, .int (nI (gdA P r))), (2, .int (nI r))] → cW pg l eg sg mg [.ref xa] bw mt cg y_H_greatestDegree b_H_greatestDegree 4 (some .int) 2 D lo (fun r9 M' => r9 = some (.int (nI (gdA P 12))) ∧ M = M') nx 0 0 H locs 0 0 (F0 mg 4 ls []) := by
    intro kk
    induction kk using Nat.strongRecOn with
    | _ kk ihLP =>
    intro r H locs ls hkk hr9 hst hl
    refine lv_iload_n hx hb dH_greatestDegree_4 rfl (lv_at hl 2 rfl) ?_
    refine lv_bipush (v := nI 12) hx hb dH_greatestDegree_5 (by decide +kernel) ?_
    refine lv_icmp_ge hx hb dH_greatestDegree_7 (tgt := 44) rfl (fun hc => ?_) (fun hc => ?_)
    · skip
      have hc : 12 ≤ r := (nI_leI (by omega) (by omega)).mp hc
      have : r = 12 := by omega
      subst this
      refine lv_iload_n hx hb dH_greatestDegree_44 rfl (lv_at hl 1 rfl) ?_
      exact ct_iret X hst ⟨rfl, rfl⟩ (by omega) (by omega) dH_greatestDegree_45
    · skip
      have hc : ¬ 12 ≤ r := fun z => hc ((nI_leI (by omega) (by omega)).mpr z)
      have hr : r < 12 := by omega
      have hgl := gdA_lt P r
      refine lv_iconst (v := nI 0) hx hb dH_greatestDegree_10 (by decide +kernel) ?_
      refine lv_istore_n (lv' := [(3, .int (nI 0)), (0, .ref xa), (1, .int (nI (gdA P r))), (2, .int (nI r))]) hx hb dH_greatestDegree_11 rfl hl (by decide) rfl (fun ls hl => ?_)
      have LQ : ∀ (kk : Nat) (v : Nat) (H : Heap) (locs : List Loc) (ls : Array Slot), kk = 4 - v → (v ≤ 3) → hp_st D vC lo M sg.heap H locs → lv_has ls 4 [(0, .ref xa), (1, .int (nI (gd3 (tp (P r)) (gdA P r) v))), (2, .int (nI r)), (3, .int (nI v))] → cW pg l eg sg mg [.ref xa] bw mt cg y_H_greatestDegree b_H_greatestDegree 4 (some .int) 2 D lo (fun r9 M' => r9 = some (.int (nI (gdA P 12))) ∧ M = M') nx 0 0 H locs 0 0 (F0 mg 12 ls []) := by
        intro kk
        induction kk using Nat.strongRecOn with
        | _ kk ihLQ =>
        intro v H locs ls hkk hv9 hst hl
        have hg3 := gd3_lt (L := tp (P r)) hgl v
        refine lv_iload_n hx hb dH_greatestDegree_12 rfl (lv_at hl 3 rfl) ?_
        refine lv_iconst (v := nI 3) hx hb dH_greatestDegree_13 (by decide +kernel) ?_
        refine lv_icmp_ge hx hb dH_greatestDegree_14 (tgt := 38) rfl (fun hc => ?_) (fun hc => ?_)
        · skip
          have hc2 : 3 ≤ v := (nI_leI (by omega) (by omega)).mp hc
          have : v = 3 := by omega
          subst this
          have hl : lv_has ls 4 [(0, .ref xa), (1, .int (nI (gdA P (r + 1)))), (2, .int (nI r)), (3, .int (nI 3))] := hl
          refine lv_iinc (lv' := [(2, .int (nI (r + 1))), (0, .ref xa), (1, .int (nI (gdA P (r + 1)))), (3, .int (nI 3))]) hx hb dH_greatestDegree_38 hl (k := 2) rfl (ii_p _) (by decide) rfl (fun ls hl => ?_)
          refine lv_goto hx hb dH_greatestDegree_41 (tgt := 4) rfl ?_
          exact ihLP _ (by omega) (r + 1) _ _ _ rfl (by omega) hst (lv_sub hl [1, 2, 0] rfl)
        · skip
          have hc2 : ¬ 3 ≤ v := fun z => hc ((nI_leI (by omega) (by omega)).mpr z)
          have hv : v < 3 := by omega
          have hdg := dgl_lt (v := v) (g := 0) (L := tp (P r)) (by omega)
          refine lv_iload_n hx hb dH_greatestDegree_17 rfl (lv_at hl 1 rfl) ?_
          refine lv_aload_n hx hb dH_greatestDegree_18 rfl (lv_at hl 0 rfl) ?_
          refine hp_get hx hb hG in_H hown hK hst x0 rfl 3 (by decide) (hG _ fl_H_11) rfl rfl dH_greatestDegree_19 ?_
          refine lv_iload_n hx hb dH_greatestDegree_22 rfl (lv_at hl 2 rfl) ?_
          refine hp_aald hx hb hK rfl hst x1 (j := r) (v := (A (si r))) (by omega) (by omega) (hgr r hr) dH_greatestDegree_23 ?_
          obtain ⟨fs_r, cell_r⟩ := (hP r hr).cell
          refine lv_iload_n hx hb dH_greatestDegree_24 rfl (lv_at hl 3 rfl) ?_
          refine ct_callV (av2 := [.int (nI v)]) (rest := [.int (nI (gd3 (tp (P r)) (gdA P r) v))]) (b := (A (si r))) X hst (c_P_degreeIn l D Y lo (hP r hr) hv (fun q hq => (tp_b hpp3 (hPp r hr) q hq).1)) cell_r rfl wc_P_degreeIn ml_H_85 wi_P_degreeIn wl_P_degreeIn wn_P md_P_degreeIn (by decide) hl.1 rfl (Nat.le_of_ble_eq_true rfl) ⟨by omega, by omega⟩ (fun _ _ h => h.elim) dH_greatestDegree_25 (fun r M' H locs hp hst => ?_)
          obtain ⟨rfl, rfl⟩ := hp
          refine va_mmax hx hb (by rw [hml]; exact hl.1.symm) hown (hG _ ml_H_188) (hG _ ws_Jm_max) (hG _ wn_Jm) (hG _ wc_Jm_max) (Nat.le_of_ble_eq_true rfl) (Nat.le_of_ble_eq_true rfl) (by show _ ≤ _; omega) (by show _ ≤ _; omega) dH_greatestDegree_28 ?_
          refine tp_i (e2 := nI (max (gd3 (tp (P r)) (gdA P r) v) (dgl v (tp (P r)) 0))) (mx9 (by omega) (by omega)) ?_
          refine lv_istore_n (lv' := [(1, .int (nI (max (gd3 (tp (P r)) (gdA P r) v) (dgl v (tp (P r)) 0)))), (0, .ref xa), (2, .int (nI r)), (3, .int (nI v))]) hx hb dH_greatestDegree_31 rfl hl (by decide) rfl (fun ls hl => ?_)
          refine lv_iinc (lv' := [(3, .int (nI (v + 1))), (1, .int (nI (max (gd3 (tp (P r)) (gdA P r) v) (dgl v (tp (P r)) 0)))), (0, .ref xa), (2, .int (nI r))]) hx hb dH_greatestDegree_32 hl (k := 3) rfl (ii_p _) (by decide) rfl (fun ls hl => ?_)
          refine lv_goto hx hb dH_greatestDegree_35 (tgt := 12) rfl ?_
          exact ihLQ _ (by omega) (v + 1) _ _ _ rfl (by omega) hst (lv_sub hl [2, 1, 3, 0] rfl)
      exact LQ _ 0 _ _ _ rfl (by omega) hst (lv_sub hl [1, 2, 3, 0] rfl)
  exact LP _ 0 _ _ _ rfl (by omega) hst (lv_sub hl [2, 1, 0] rfl)
end
section
/-! The face: count, term, value. -/
/-- what count answers -/
noncomputable def cnt (p rf : Nat) (P : Nat → Pf) (x : Int32) : Int32 := if x = nI 0 then nI p else if x = nI 1 then nI (sm (fun r => (tp (P r)).length) 12) else if x = nI 2 then nI (sm (fun r => if (tp (P r)).length = 0 then 1 else 0) 12) else if x = nI 3 then nI (gdA P 12) else if x = nI 4 then nI rf else -1
theorem nI_ne {a b : Nat} (h : a ≠ b) (ha : a < 2 ^ 31) (hb : b < 2 ^ 31) : nI a ≠ nI b := fun z => h ((nI_eq ha hb).mp z)

set_option maxHeartbeats 4000000 in
set_option maxRecDepth 100000 in
theorem c_H_count (l : Launch) (D : va_G) (Y : Nat → ClassId) (lo : Nat) {M : Hm} {xa p rf : Nat} {A cap si : Nat → Nat} {P : Nat → Pf} (hcs : cs Y M xa A p P cap si rf) (x : Int32) : ct l D Y lo y_H_count b_H_count 2 (some .int) 3 [.ref xa, .int x] M (fun r9 M' => r9 = some (.int (cnt p rf P x)) ∧ M = M') nx 0 0 := by
  refine ct_of (by decide) (Nat.le_of_ble_eq_true rfl) ?_
  intro pg eg sg mg bw mt cg ls X hst hl
  have X1 := X
  obtain ⟨hx, hb, hml, hrt, hlocks, hown, hnm, hts, hkz, hex⟩ := X1
  have hG : ∀ w ∈ GW, w.before _ sg = true := fun w h => hts w (List.mem_cons_of_mem _ h)
  have hK := hkz.1
  have hl : lv_has ls 2 [(0, .ref xa), (1, .int x)] := hl
  have hcs0 := hcs
  obtain ⟨x0, ⟨gr, x1, hgr⟩, ⟨gn, x2, hgn⟩, ⟨hf, hpr⟩, hs, ⟨gw, ht⟩, ⟨hs1, hs2⟩, hP, ⟨LS, hS⟩, hN, hc1, hc2, hPp⟩ := hcs
  have hpp := hf.2.1
  have hpp3 := hf.2.2
  have hf0 := hf.1
  refine lv_iload_n hx hb dH_count_0 rfl (lv_at hl 1 rfl) ?_
  by_cases hin : 0 ≤ x.toInt ∧ x.toInt ≤ 4
  · skip
    obtain ⟨k, hk, rfl⟩ : ∃ k : Nat, k < 5 ∧ x = nI k := ⟨x.toInt.toNat, by omega, i32_of (by omega)⟩
    rcases (show k = 0 ∨ k = 1 ∨ k = 2 ∨ k = 3 ∨ k = 4 by omega) with rfl | rfl | rfl | rfl | rfl
    · skip
      refine lv_tableIn hx hb dH_count_1 (off := 35) (tgt := 36) (by decide +kernel) (by decide +kernel) (by decide +kernel) rfl ?_
      have hcn : cnt p rf P (nI 0) = nI p := by unfold cnt; rw [if_pos rfl]
      refine lv_aload_n hx hb dH_count_36 rfl (lv_at hl 0 rfl) ?_
      refine hp_get hx hb hG in_H hown hK hst x0 rfl 0 (by decide) (hG _ fl_H_23) rfl rfl dH_count_37 ?_
      refine hp_get hx hb hG in_F hown hK hst hf0 rfl 0 (by decide) (hG _ fl_H_166) rfl rfl dH_count_40 ?_
      exact ct_iret X hst ⟨by rw [hcn], rfl⟩ (by omega) (by omega) dH_count_43
    · skip
      refine lv_tableIn hx hb dH_count_1 (off := 43) (tgt := 44) (by decide +kernel) (by decide +kernel) (by decide +kernel) rfl ?_
      have hcn : cnt p rf P (nI 1) = nI (sm (fun r => (tp (P r)).length) 12) := by unfold cnt; rw [if_neg (nI_ne (by omega) (by omega) (by omega))]; rw [if_pos rfl]
      refine lv_aload_n hx hb dH_count_44 rfl (lv_at hl 0 rfl) ?_
      refine ct_callV (av2 := []) (rest := []) (b := xa) X hst (c_H_allTerms l D Y lo hcs0) x0 rfl wc_H_allTerms ml_H_169 wi_H_allTerms wl_H_allTerms wn_H md_H_allTerms (by decide) hl.1 rfl (Nat.le_of_ble_eq_true rfl) ⟨by omega, by omega⟩ (fun _ _ h => h.elim) dH_count_45 (fun r M' H locs hp hst => ?_)
      obtain ⟨rfl, rfl⟩ := hp
      exact ct_iret X hst ⟨by rw [hcn], rfl⟩ (by omega) (by omega) dH_count_48
    · skip
      refine lv_tableIn hx hb dH_count_1 (off := 48) (tgt := 49) (by decide +kernel) (by decide +kernel) (by decide +kernel) rfl ?_
      have hcn : cnt p rf P (nI 2) = nI (sm (fun r => if (tp (P r)).length = 0 then 1 else 0) 12) := by unfold cnt; rw [if_neg (nI_ne (by omega) (by omega) (by omega))]; rw [if_neg (nI_ne (by omega) (by omega) (by omega))]; rw [if_pos rfl]
      refine lv_aload_n hx hb dH_count_49 rfl (lv_at hl 0 rfl) ?_
      refine ct_callV (av2 := []) (rest := []) (b := xa) X hst (c_H_zeroRegisters l D Y lo hcs0) x0 rfl wc_H_zeroRegisters ml_H_173 wi_H_zeroRegisters wl_H_zeroRegisters wn_H md_H_zeroRegisters (by decide) hl.1 rfl (Nat.le_of_ble_eq_true rfl) ⟨by omega, by omega⟩ (fun _ _ h => h.elim) dH_count_50 (fun r M' H locs hp hst => ?_)
      obtain ⟨rfl, rfl⟩ := hp
      exact ct_iret X hst ⟨by rw [hcn], rfl⟩ (by omega) (by omega) dH_count_53
    · skip
      refine lv_tableIn hx hb dH_count_1 (off := 53) (tgt := 54) (by decide +kernel) (by decide +kernel) (by decide +kernel) rfl ?_
      have hcn : cnt p rf P (nI 3) = nI (gdA P 12) := by unfold cnt; rw [if_neg (nI_ne (by omega) (by omega) (by omega))]; rw [if_neg (nI_ne (by omega) (by omega) (by omega))]; rw [if_neg (nI_ne (by omega) (by omega) (by omega))]; rw [if_pos rfl]
      refine lv_aload_n hx hb dH_count_54 rfl (lv_at hl 0 rfl) ?_
      refine ct_callV (av2 := []) (rest := []) (b := xa) X hst (c_H_greatestDegree l D Y lo hcs0) x0 rfl wc_H_greatestDegree ml_H_176 wi_H_greatestDegree wl_H_greatestDegree wn_H md_H_greatestDegree (by decide) hl.1 rfl (Nat.le_of_ble_eq_true rfl) ⟨by omega, by omega⟩ (fun _ _ h => h.elim) dH_count_55 (fun r M' H locs hp hst => ?_)
      obtain ⟨rfl, rfl⟩ := hp
      exact ct_iret X hst ⟨by rw [hcn], rfl⟩ (by omega) (by omega) dH_count_58
    · skip
      refine lv_tableIn hx hb dH_count_1 (off := 58) (tgt := 59) (by decide +kernel) (by decide +kernel) (by decide +kernel) rfl ?_
      have hcn : cnt p rf P (nI 4) = nI rf := by unfold cnt; rw [if_neg (nI_ne (by omega) (by omega) (by omega))]; rw [if_neg (nI_ne (by omega) (by omega) (by omega))]; rw [if_neg (nI_ne (by omega) (by omega) (by omega))]; rw [if_neg (nI_ne (by omega) (by omega) (by omega))]; rw [if_pos rfl]
      refine lv_aload_n hx hb dH_count_59 rfl (lv_at hl 0 rfl) ?_
      refine hp_get hx hb hG in_H hown hK hst x0 rfl 6 (by decide) (hG _ fl_H_179) rfl rfl dH_count_60 ?_
      exact ct_iret X hst ⟨by rw [hcn], rfl⟩ (by omega) (by omega) dH_count_63
  · skip
    refine lv_tableOut hx hb dH_count_1 (tgt := 64) (by omega) rfl ?_
    have hne : ∀ k : Nat, k < 5 → x ≠ nI k := fun k hk z => hin (by rw [z, nI_toInt (by omega)]; omega)
    have hcn : cnt p rf P x = -1 := by unfold cnt; rw [if_neg (hne 0 (by omega)), if_neg (hne 1 (by omega)), if_neg (hne 2 (by omega)), if_neg (hne 3 (by omega)), if_neg (hne 4 (by omega))]
    refine lv_iconst (v := (-1 : Int32)) hx hb dH_count_64 (by decide +kernel) ?_
    exact ct_iret X hst ⟨by rw [hcn], rfl⟩ (by omega) (by omega) dH_count_65

set_option maxHeartbeats 4000000 in
set_option maxRecDepth 100000 in
theorem c_H_term (l : Launch) (D : va_G) (Y : Nat → ClassId) (lo : Nat) {M : Hm} {xa p rf : Nat} {A cap si : Nat → Nat} {P : Nat → Pf} (hcs : cs Y M xa A p P cap si rf) {r i wh : Nat} {q : Nat × Nat} (hr : r < 12) (hq : (tp (P r))[i]? = some q) (hwh : wh ≤ 3) : ct l D Y lo y_H_term b_H_term 5 (some .int) 1 [.ref xa, .int (nI r), .int (nI i), .int (nI wh)] M (fun r9 M' => r9 = some (.int (nI (if wh = 0 then q.2 else xe q.1 (wh - 1)))) ∧ M = M') nx 0 0 := by
  refine ct_of (by decide) (Nat.le_of_ble_eq_true rfl) ?_
  intro pg eg sg mg bw mt cg ls X hst hl
  have X1 := X
  obtain ⟨hx, hb, hml, hrt, hlocks, hown, hnm, hts, hkz, hex⟩ := X1
  have hG : ∀ w ∈ GW, w.before _ sg = true := fun w h => hts w (List.mem_cons_of_mem _ h)
  have hK := hkz.1
  have hl : lv_has ls 5 [(0, .ref xa), (1, .int (nI r)), (2, .int (nI i)), (3, .int (nI wh))] := hl
  have hcs0 := hcs
  obtain ⟨x0, ⟨gr, x1, hgr⟩, ⟨gn, x2, hgn⟩, ⟨hf, hpr⟩, hs, ⟨gw, ht⟩, ⟨hs1, hs2⟩, hP, ⟨LS, hS⟩, hN, hc1, hc2, hPp⟩ := hcs
  have hpp := hf.2.1
  have hpp3 := hf.2.2
  have hf0 := hf.1
  refine lv_iload_n hx hb dH_term_0 rfl (lv_at hl 1 rfl) ?_
  refine ct_callS (av2 := [.int (nI r)]) (rest := []) X hst (c_H_checkRegister l D Y lo hr) wc_H_checkRegister ml_H_48 ws_H_checkRegister wn_H md_H_checkRegister (by decide) hl.1 rfl (Nat.le_of_ble_eq_true rfl) ⟨by omega, by omega⟩ (fun _ _ h => h.elim) dH_term_1 (fun r M' H locs hp hst => ?_)
  obtain ⟨rfl, rfl⟩ := hp
  refine lv_aload_n hx hb dH_term_4 rfl (lv_at hl 0 rfl) ?_
  refine hp_get hx hb hG in_H hown hK hst x0 rfl 3 (by decide) (hG _ fl_H_11) rfl rfl dH_term_5 ?_
  refine lv_iload_n hx hb dH_term_8 rfl (lv_at hl 1 rfl) ?_
  refine hp_aald hx hb hK rfl hst x1 (j := r) (v := (A (si r))) (by omega) (by omega) (hgr r hr) dH_term_9 ?_
  have hPr := hP r hr
  obtain ⟨a9, b9, fa9, fb9, h09, h19, h29, hL9, hn9, hc19, hc29⟩ := hPr
  obtain ⟨i1, i2⟩ := hL9 i q hq
  have hil : i < (tp (P r)).length := (List.getElem?_eq_some_iff.mp hq).1
  have hqb := tp_b hpp3 (hPp r hr) q (List.mem_of_getElem? hq)
  refine lv_astore (lv' := [(4, .ref (A (si r))), (0, .ref xa), (1, .int (nI r)), (2, .int (nI i)), (3, .int (nI wh))]) hx hb dH_term_10 hl (by decide) rfl (fun ls hl => ?_)
  refine lv_iload_n hx hb dH_term_12 rfl (lv_at hl 3 rfl) ?_
  refine lv_if_lt hx hb dH_term_13 (tgt := 25) rfl (fun hc => ?_) (fun hc => ?_)
  · skip
    rw [← nI_0] at hc
    have hc9 : i < 0 := (nI_ltI (by omega) (by omega)).mp hc
    exact absurd hc9 (by omega)
  · skip
    rw [← nI_0] at hc
    have hc9 : ¬ i < 0 := fun z => hc ((nI_ltI (by omega) (by omega)).mpr z)
    refine lv_iload_n hx hb dH_term_16 rfl (lv_at hl 3 rfl) ?_
    refine lv_aload hx hb dH_term_17 (lv_at hl 0 rfl) ?_
    refine hp_get hx hb hG in_P hown hK hst h09 rfl 2 (by decide) (hG _ fl_H_109) rfl rfl dH_term_19 ?_
    refine lv_icmp_lt hx hb dH_term_22 (tgt := 33) rfl (fun hc => ?_) (fun hc => ?_)
    · skip
      have hc9 : i < ((tp (P r)).length) := (nI_ltI (by omega) (by omega)).mp hc
      refine lv_iload_n hx hb dH_term_33 rfl (lv_at hl 4 rfl) ?_
      refine lv_if_lt hx hb dH_term_34 (tgt := 42) rfl (fun hc => ?_) (fun hc => ?_)
      · skip
        rw [← nI_0] at hc
        have hc9 : wh < 0 := (nI_ltI (by omega) (by omega)).mp hc
        exact absurd hc9 (by omega)
      · skip
        rw [← nI_0] at hc
        have hc9 : ¬ wh < 0 := fun z => hc ((nI_ltI (by omega) (by omega)).mpr z)
        refine lv_iload_n hx hb dH_term_37 rfl (lv_at hl 4 rfl) ?_
        refine lv_iconst (v := nI 3) hx hb dH_term_38 (by decide +kernel) ?_
        refine lv_icmp_le hx hb dH_term_39 (tgt := 50) rfl (fun hc => ?_) (fun hc => ?_)
        · skip
          have hc9 : wh ≤ 3 := (nI_leI (by omega) (by omega)).mp hc
          refine lv_iload_n hx hb dH_term_50 rfl (lv_at hl 4 rfl) ?_
          refine lv_if_ne hx hb dH_term_51 (tgt := 64) rfl (fun hc => ?_) (fun hc => ?_)
          · skip
            rw [← nI_0] at hc
            have hc8 : ¬ wh = 0 := fun z => hc ((nI_eq (by omega) (by omega)).mpr z)
            refine lv_aload hx hb dH_term_64 (lv_at hl 0 rfl) ?_
            refine hp_get hx hb hG in_P hown hK hst h09 rfl 0 (by decide) (hG _ fl_H_113) rfl rfl dH_term_66 ?_
            refine lv_iload_n hx hb dH_term_69 rfl (lv_at hl 3 rfl) ?_
            refine hp_iald hx hb hK rfl hst h19 (j := i) (by omega) (by omega) dH_term_70 ?_
            refine tp_n (e2 := q.1) i1 ?_
            refine lv_iload_n hx hb dH_term_71 rfl (lv_at hl 4 rfl) ?_
            refine lv_iconst (v := nI 1) hx hb dH_term_72 (by decide +kernel) ?_
            refine t_isub hx hb dH_term_73 (v := nI (wh - 1)) (pk_sub (by omega)) ?_
            refine ct_callS (av2 := [.int (nI q.1), .int (nI (wh - 1))]) (rest := []) X hst (c_Q_exponent l D Y lo (k := q.1) (v := wh - 1) (by omega) (by omega)) wc_Q_exponent ml_H_117 ws_Q_exponent wn_Q md_Q_exponent (by decide) hl.1 rfl (Nat.le_of_ble_eq_true rfl) ⟨by omega, by omega⟩ (fun _ _ h => h.elim) dH_term_74 (fun r M' H locs hp hst => ?_)
            obtain ⟨rfl, rfl⟩ := hp
            exact ct_iret X hst ⟨by rw [if_neg hc8], rfl⟩ (by omega) (by omega) dH_term_77
          · skip
            rw [← nI_0] at hc
            have hc8 : wh = 0 := (nI_eq (by omega) (by omega)).mp hc
            refine lv_aload hx hb dH_term_54 (lv_at hl 0 rfl) ?_
            refine hp_get hx hb hG in_P hown hK hst h09 rfl 1 (by decide) (hG _ fl_H_121) rfl rfl dH_term_56 ?_
            refine lv_iload_n hx hb dH_term_59 rfl (lv_at hl 3 rfl) ?_
            refine hp_iald hx hb hK rfl hst h29 (j := i) (by omega) (by omega) dH_term_60 ?_
            refine tp_n (e2 := q.2) i2 ?_
            refine lv_goto hx hb dH_term_61 (tgt := 77) rfl ?_
            exact ct_iret X hst ⟨by rw [if_pos hc8], rfl⟩ (by omega) (by omega) dH_term_77
        · skip
          have hc9 : ¬ wh ≤ 3 := fun z => hc ((nI_leI (by omega) (by omega)).mpr z)
          exact absurd hc9 (by omega)
    · skip
      have hc9 : ¬ i < ((tp (P r)).length) := fun z => hc ((nI_ltI (by omega) (by omega)).mpr z)
      exact absurd hc9 (by omega)

theorem vlF_lt {p : Nat} {ys : Nat → Nat} (hp : 0 < p) : ∀ {L : List (Nat × Nat)} {z : Nat}, z < p → vlF p ys L z < p := by
  intro L
  induction L with
  | nil => intro z h; exact h
  | cons q qs ih => intro z _; exact ih (Nat.mod_lt _ hp)

set_option maxHeartbeats 4000000 in
set_option maxRecDepth 100000 in
theorem c_H_value (l : Launch) (D : va_G) (Y : Nat → ClassId) (lo : Nat) {M : Hm} {xa p rf : Nat} {A cap si : Nat → Nat} {P : Nat → Pf} (hcs : cs Y M xa A p P cap si rf) {r : Nat} (z0 z1 z2 : Int32) (hr : r < 12) : ct l D Y lo y_H_value b_H_value 8 (some .int) 2 [.ref xa, .int (nI r), .int z0, .int z1, .int z2] M (fun r9 M' => r9 = some (.int (nI (vlF p (fun v => if v = 0 then rd p z0.toInt else if v = 1 then rd p z1.toInt else rd p z2.toInt) (tp (P r)) 0))) ∧ cs Y M' xa A p P cap si rf ∧ hp_off (fun i => i < 300) M M') nx 0 0 := by
  refine ct_of (by decide) (Nat.le_of_ble_eq_true rfl) ?_
  intro pg eg sg mg bw mt cg ls X hst hl
  have X1 := X
  obtain ⟨hx, hb, hml, hrt, hlocks, hown, hnm, hts, hkz, hex⟩ := X1
  have hG : ∀ w ∈ GW, w.before _ sg = true := fun w h => hts w (List.mem_cons_of_mem _ h)
  have hK := hkz.1
  have hl : lv_has ls 8 [(0, .ref xa), (1, .int (nI r)), (2, .int z0), (3, .int z1), (4, .int z2)] := hl
  have hcs0 := hcs
  obtain ⟨x0, ⟨gr, x1, hgr⟩, ⟨gn, x2, hgn⟩, ⟨hf, hpr⟩, hs, ⟨gw, ht⟩, ⟨hs1, hs2⟩, hP, ⟨LS, hS⟩, hN, hc1, hc2, hPp⟩ := hcs
  have hpp := hf.2.1
  have hpp3 := hf.2.2
  have hf0 := hf.1
  refine lv_iload_n hx hb dH_value_0 rfl (lv_at hl 1 rfl) ?_
  refine ct_callS (av2 := [.int (nI r)]) (rest := []) X hst (c_H_checkRegister l D Y lo hr) wc_H_checkRegister ml_H_48 ws_H_checkRegister wn_H md_H_checkRegister (by decide) hl.1 rfl (Nat.le_of_ble_eq_true rfl) ⟨by omega, by omega⟩ (fun _ _ h => h.elim) dH_value_1 (fun r M' H locs hp hst => ?_)
  obtain ⟨rfl, rfl⟩ := hp
  have hbr := hs1 r (by omega)
  have hy0 := rd_lt (p := p) (by omega) z0.toInt
  have hy1 := rd_lt (p := p) (by omega) z1.toInt
  have hy2 := rd_lt (p := p) (by omega) z2.toInt
  refine lv_aload_n hx hb dH_value_4 rfl (lv_at hl 0 rfl) ?_
  refine hp_get hx hb hG in_H hown hK hst x0 rfl 2 (by decide) (hG _ fl_H_39) rfl rfl dH_value_5 ?_
  refine lv_iconst (v := nI 0) hx hb dH_value_8 (by decide +kernel) ?_
  refine lv_aload_n hx hb dH_value_9 rfl (lv_at hl 0 rfl) ?_
  refine hp_get hx hb hG in_H hown hK hst x0 rfl 0 (by decide) (hG _ fl_H_23) rfl rfl dH_value_10 ?_
  refine lv_iload_n hx hb dH_value_13 rfl (lv_at hl 2 rfl) ?_
  refine ct_callV (av2 := [.int z0]) (rest := [.int (nI 0), .ref (A 2)]) (b := (A 0)) X hst (c_F_reduced l D Y lo z0 hf) hf0 rfl wc_F_reduced ml_H_51 wi_F_reduced wl_F_reduced wn_F md_F_reduced (by decide) hl.1 rfl (Nat.le_of_ble_eq_true rfl) ⟨by omega, by omega⟩ (fun _ _ h => h.elim) dH_value_14 (fun r M' H locs hp hst => ?_)
  obtain ⟨rfl, rfl⟩ := hp
  obtain ⟨fst0, cellt0⟩ := ht.cell
  refine ct_callV (av2 := [.int (nI 0), .int (nI (rd p z0.toInt))]) (rest := []) (b := (A 2)) X hst (c_T_fillRow l D Y lo ht hf (v := 0) (x := rd p z0.toInt) (by omega) hy0) cellt0 rfl wc_T_fillRow ml_H_139 wi_T_fillRow wl_T_fillRow wn_T md_T_fillRow (by decide) hl.1 rfl (Nat.le_of_ble_eq_true rfl) ⟨by omega, by omega⟩ (fun _ _ h => h.elim) dH_value_17 (fun r M' H locs hp hst => ?_)
  obtain ⟨rfl, ⟨g0, hga0, hgb0, ht0⟩, ho0⟩ := hp
  have oo0 := ho0
  have x0_1 := oo0.of x0 (by omega)
  have x1_1 := oo0.of x1 (by omega)
  have hf_1 := hf.off oo0 (by omega)
  have hf0_1 := hf_1.1
  refine lv_aload_n hx hb dH_value_20 rfl (lv_at hl 0 rfl) ?_
  refine hp_get hx hb hG in_H hown hK hst x0_1 rfl 2 (by decide) (hG _ fl_H_39) rfl rfl dH_value_21 ?_
  refine lv_iconst (v := nI 1) hx hb dH_value_24 (by decide +kernel) ?_
  refine lv_aload_n hx hb dH_value_25 rfl (lv_at hl 0 rfl) ?_
  refine hp_get hx hb hG in_H hown hK hst x0_1 rfl 0 (by decide) (hG _ fl_H_23) rfl rfl dH_value_26 ?_
  refine lv_iload_n hx hb dH_value_29 rfl (lv_at hl 3 rfl) ?_
  refine ct_callV (av2 := [.int z1]) (rest := [.int (nI 1), .ref (A 2)]) (b := (A 0)) X hst (c_F_reduced l D Y lo z1 hf_1) hf0_1 rfl wc_F_reduced ml_H_51 wi_F_reduced wl_F_reduced wn_F md_F_reduced (by decide) hl.1 rfl (Nat.le_of_ble_eq_true rfl) ⟨by omega, by omega⟩ (fun _ _ h => h.elim) dH_value_30 (fun r M' H locs hp hst => ?_)
  obtain ⟨rfl, rfl⟩ := hp
  obtain ⟨fst1, cellt1⟩ := ht0.cell
  refine ct_callV (av2 := [.int (nI 1), .int (nI (rd p z1.toInt))]) (rest := []) (b := (A 2)) X hst (c_T_fillRow l D Y lo ht0 hf_1 (v := 1) (x := rd p z1.toInt) (by omega) hy1) cellt1 rfl wc_T_fillRow ml_H_139 wi_T_fillRow wl_T_fillRow wn_T md_T_fillRow (by decide) hl.1 rfl (Nat.le_of_ble_eq_true rfl) ⟨by omega, by omega⟩ (fun _ _ h => h.elim) dH_value_33 (fun r M' H locs hp hst => ?_)
  obtain ⟨rfl, ⟨g1, hga1, hgb1, ht1⟩, ho1⟩ := hp
  have oo1 := oo0.tr ho1
  have x0_2 := oo1.of x0 (by omega)
  have x1_2 := oo1.of x1 (by omega)
  have hf_2 := hf.off oo1 (by omega)
  have hf0_2 := hf_2.1
  refine lv_aload_n hx hb dH_value_36 rfl (lv_at hl 0 rfl) ?_
  refine hp_get hx hb hG in_H hown hK hst x0_2 rfl 2 (by decide) (hG _ fl_H_39) rfl rfl dH_value_37 ?_
  refine lv_iconst (v := nI 2) hx hb dH_value_40 (by decide +kernel) ?_
  refine lv_aload_n hx hb dH_value_41 rfl (lv_at hl 0 rfl) ?_
  refine hp_get hx hb hG in_H hown hK hst x0_2 rfl 0 (by decide) (hG _ fl_H_23) rfl rfl dH_value_42 ?_
  refine lv_iload hx hb dH_value_45 (lv_at hl 4 rfl) ?_
  refine ct_callV (av2 := [.int z2]) (rest := [.int (nI 2), .ref (A 2)]) (b := (A 0)) X hst (c_F_reduced l D Y lo z2 hf_2) hf0_2 rfl wc_F_reduced ml_H_51 wi_F_reduced wl_F_reduced wn_F md_F_reduced (by decide) hl.1 rfl (Nat.le_of_ble_eq_true rfl) ⟨by omega, by omega⟩ (fun _ _ h => h.elim) dH_value_47 (fun r M' H locs hp hst => ?_)
  obtain ⟨rfl, rfl⟩ := hp
  obtain ⟨fst2, cellt2⟩ := ht1.cell
  refine ct_callV (av2 := [.int (nI 2), .int (nI (rd p z2.toInt))]) (rest := []) (b := (A 2)) X hst (c_T_fillRow l D Y lo ht1 hf_2 (v := 2) (x := rd p z2.toInt) (by omega) hy2) cellt2 rfl wc_T_fillRow ml_H_139 wi_T_fillRow wl_T_fillRow wn_T md_T_fillRow (by decide) hl.1 rfl (Nat.le_of_ble_eq_true rfl) ⟨by omega, by omega⟩ (fun _ _ h => h.elim) dH_value_50 (fun r M' H locs hp hst => ?_)
  obtain ⟨rfl, ⟨g2, hga2, hgb2, ht2⟩, ho2⟩ := hp
  have oo2 := oo1.tr ho2
  have hcsZ : cs Y M' xa A p P cap si rf := by
    exact ⟨oo2.of x0 (by omega), ⟨gr, oo2.of x1 (by omega), hgr⟩, ⟨gn, oo2.of x2 (by omega), hgn⟩, ⟨hf.off oo2 (by omega), hpr⟩, hs.off oo2 (by omega), ⟨g2, ht2⟩, ⟨hs1, hs2⟩, fun r hr => (hP r hr).off oo2 (by have := hs1 r (by omega); omega), ⟨LS, hS.off oo2 (by have := hs1 12 (by omega); omega)⟩, fun c hc => (hN c hc).imp fun L hL => hL.off oo2 (by omega), hc1, hc2, hPp⟩
  have x0z := oo2.of x0 (by omega)
  have x1z := oo2.of x1 (by omega)
  have hfz := hf.off oo2 (by omega)
  have hf0z := hfz.1
  have hPz := (hP r hr).off oo2 (by omega)
  have hPzc := hPz
  obtain ⟨a9, b9, fa9, fb9, h09, h19, h29, hL9, hn9, hc19, hc29⟩ := hPz
  obtain ⟨fstz, celltz⟩ := ht2.cell
  have hgg : ∀ v k, v < 3 → k < 37 → g2 v k = pw p ((fun v => if v = 0 then rd p z0.toInt else if v = 1 then rd p z1.toInt else rd p z2.toInt) v) k := by
    intro v k hv hk
    rcases (show v = 0 ∨ v = 1 ∨ v = 2 by omega) with rfl | rfl | rfl
    · rw [hgb2 0 (by omega), hgb1 0 (by omega)]; exact hga0 k hk
    · rw [hgb2 1 (by omega)]; exact hga1 k hk
    · exact hga2 k hk
  have hgp : ∀ v k, v < 3 → k < 37 → g2 v k < p := fun v k hv hk => by rw [hgg v k hv hk]; exact pw_lt hpp k
  refine lv_aload_n hx hb dH_value_53 rfl (lv_at hl 0 rfl) ?_
  refine hp_get hx hb hG in_H hown hK hst x0z rfl 3 (by decide) (hG _ fl_H_11) rfl rfl dH_value_54 ?_
  refine lv_iload_n hx hb dH_value_57 rfl (lv_at hl 1 rfl) ?_
  refine hp_aald hx hb hK rfl hst x1z (j := r) (v := (A (si r))) (by omega) (by omega) (hgr r hr) dH_value_58 ?_
  refine lv_astore (lv' := [(5, .ref (A (si r))), (0, .ref xa), (1, .int (nI r)), (2, .int z0), (3, .int z1), (4, .int z2)]) hx hb dH_value_59 hl (by decide) rfl (fun ls hl => ?_)
  refine lv_iconst (v := nI 0) hx hb dH_value_61 (by decide +kernel) ?_
  refine lv_istore (lv' := [(6, .int (nI 0)), (5, .ref (A (si r))), (0, .ref xa), (1, .int (nI r)), (2, .int z0), (3, .int z1), (4, .int z2)]) hx hb dH_value_62 hl (by decide) rfl (fun ls hl => ?_)
  refine lv_iconst (v := nI 0) hx hb dH_value_64 (by decide +kernel) ?_
  refine lv_istore (lv' := [(7, .int (nI 0)), (6, .int (nI 0)), (5, .ref (A (si r))), (0, .ref xa), (1, .int (nI r)), (2, .int z0), (3, .int z1), (4, .int z2)]) hx hb dH_value_65 hl (by decide) rfl (fun ls hl => ?_)
  have LP : ∀ (kk : Nat) (z i : Nat) (H : Heap) (locs : List Loc) (ls : Array Slot), kk = (tp (P r)).length - i → (z < p) → (i ≤ (tp (P r)).length) → (vlF p (fun v => if v = 0 then rd p z0.toInt else if v = 1 then rd p z1.toInt else rd p z2.toInt) ((tp (P r)).drop i) z = vlF p (fun v => if v = 0 then rd p z0.toInt else if v = 1 then rd p z1.toInt else rd p z2.toInt) (tp (P r)) 0) → hp_st D vC lo M' sg.heap H locs → lv_has ls 8 [(0, .ref xa), (5, .ref (A (si r))), (6, .int (nI z)), (7, .int (nI i))] → cW pg l eg sg mg [.ref xa, .int (nI r), .int z0, .int z1, .int z2] bw mt cg y_H_value b_H_value 8 (some .int) 2 D lo (fun r9 M' => r9 = some (.int (nI (vlF p (fun v => if v = 0 then rd p z0.toInt else if v = 1 then rd p z1.toInt else rd p z2.toInt) (tp (P r)) 0))) ∧ cs Y M' xa A p P cap si rf ∧ hp_off (fun i => i < 300) M M') nx 0 0 H locs 0 0 (F0 mg 67 ls []) := by
    intro kk
    induction kk using Nat.strongRecOn with
    | _ kk ihLP =>
    intro z i H locs ls hkk hz hi hinv hst hl
    refine lv_iload hx hb dH_value_67 (lv_at hl 3 rfl) ?_
    refine lv_aload hx hb dH_value_69 (lv_at hl 1 rfl) ?_
    refine hp_get hx hb hG in_P hown hK hst h09 rfl 2 (by decide) (hG _ fl_H_109) rfl rfl dH_value_71 ?_
    refine lv_icmp_ge hx hb dH_value_74 (tgt := 117) rfl (fun hc => ?_) (fun hc => ?_)
    · skip
      have hc : ((tp (P r)).length) ≤ i := (nI_leI (by omega) (by omega)).mp hc
      rw [List.drop_eq_nil_of_le (by omega)] at hinv
      have hinv : z = vlF p (fun v => if v = 0 then rd p z0.toInt else if v = 1 then rd p z1.toInt else rd p z2.toInt) (tp (P r)) 0 := hinv
      refine lv_iload hx hb dH_value_117 (lv_at hl 2 rfl) ?_
      exact ct_iret X hst ⟨by rw [hinv], hcsZ, oo2.wk (fun i hi => by omega)⟩ (by omega) (by omega) dH_value_119
    · skip
      have hc : ¬ ((tp (P r)).length) ≤ i := fun z => hc ((nI_leI (by omega) (by omega)).mpr z)
      obtain ⟨q, hq1, hq2, hq3⟩ := dr_cons (L := tp (P r)) (i := i) (by omega)
      obtain ⟨i1, i2⟩ := hL9 i q hq1
      obtain ⟨m1, m2, m3⟩ := tp_mem hq2
      have hqp : q.2 < p := by rw [m2]; exact hPp r hr _
      refine lv_aload_n hx hb dH_value_77 rfl (lv_at hl 0 rfl) ?_
      refine hp_get hx hb hG in_H hown hK hst x0z rfl 0 (by decide) (hG _ fl_H_23) rfl rfl dH_value_78 ?_
      refine lv_iload hx hb dH_value_81 (lv_at hl 2 rfl) ?_
      refine lv_aload hx hb dH_value_83 (lv_at hl 1 rfl) ?_
      refine hp_get hx hb hG in_P hown hK hst h09 rfl 1 (by decide) (hG _ fl_H_121) rfl rfl dH_value_85 ?_
      refine lv_iload hx hb dH_value_88 (lv_at hl 3 rfl) ?_
      refine hp_iald hx hb hK rfl hst h29 (j := i) (by omega) (by omega) dH_value_90 ?_
      refine tp_n (e2 := q.2) i2 ?_
      refine lv_aload_n hx hb dH_value_91 rfl (lv_at hl 0 rfl) ?_
      refine hp_get hx hb hG in_H hown hK hst x0z rfl 2 (by decide) (hG _ fl_H_39) rfl rfl dH_value_92 ?_
      refine lv_aload hx hb dH_value_95 (lv_at hl 1 rfl) ?_
      refine hp_get hx hb hG in_P hown hK hst h09 rfl 0 (by decide) (hG _ fl_H_113) rfl rfl dH_value_97 ?_
      refine lv_iload hx hb dH_value_100 (lv_at hl 3 rfl) ?_
      refine hp_iald hx hb hK rfl hst h19 (j := i) (by omega) (by omega) dH_value_102 ?_
      refine tp_n (e2 := q.1) i1 ?_
      refine ct_callV (av2 := [.int (nI q.1)]) (rest := [.int (nI q.2), .int (nI z), .ref (A 0)]) (b := (A 2)) X hst (c_T_at l D Y lo ht2 hfz hgp m1) celltz rfl wc_T_at ml_H_142 wi_T_at wl_T_at wn_T md_T_at (by decide) hl.1 rfl (Nat.le_of_ble_eq_true rfl) ⟨by omega, by omega⟩ (fun _ _ h => h.elim) dH_value_103 (fun r M' H locs hp hst => ?_)
      obtain ⟨rfl, rfl⟩ := hp
      have hat : atF p g2 q.1 3 = atF p (fun v k => pw p ((fun v => if v = 0 then rd p z0.toInt else if v = 1 then rd p z1.toInt else rd p z2.toInt) v) k) q.1 3 := atF_congr (fun v hv => hgg v _ hv (by
        have h1 := m1.1
        refine co3 (P := fun v => xe q.1 v < 37) ?_ ?_ ?_ hv <;> omega)) (by omega)
      refine ct_callV (av2 := [.int (nI z), .int (nI q.2), .int (nI (atF p g2 q.1 3))]) (rest := []) (b := (A 0)) X hst (c_F_sumWithProduct l D Y lo hfz hz hqp (atF_lt hpp)) hf0z rfl wc_F_sumWithProduct ml_H_145 wi_F_sumWithProduct wl_F_sumWithProduct wn_F md_F_sumWithProduct (by decide) hl.1 rfl (Nat.le_of_ble_eq_true rfl) ⟨by omega, by omega⟩ (fun _ _ h => h.elim) dH_value_106 (fun r M' H locs hp hst => ?_)
      obtain ⟨rfl, rfl⟩ := hp
      refine lv_istore (lv' := [(6, .int (nI ((z + q.2 * atF p g2 q.1 3) % p))), (0, .ref xa), (5, .ref (A (si r))), (7, .int (nI i))]) hx hb dH_value_109 hl (by decide) rfl (fun ls hl => ?_)
      refine lv_iinc (lv' := [(7, .int (nI (i + 1))), (6, .int (nI ((z + q.2 * atF p g2 q.1 3) % p))), (0, .ref xa), (5, .ref (A (si r)))]) hx hb dH_value_111 hl (k := 3) rfl (ii_p _) (by decide) rfl (fun ls hl => ?_)
      refine lv_goto hx hb dH_value_114 (tgt := 67) rfl ?_
      exact ihLP _ (by omega) ((z + q.2 * atF p g2 q.1 3) % p) (i + 1) _ _ _ rfl (Nat.mod_lt _ (by omega)) (by omega) (by rw [hq3] at hinv; rw [hat]; exact hinv) hst (lv_sub hl [2, 3, 1, 0] rfl)
  exact LP _ 0 0 _ _ _ rfl (by omega) (by omega) rfl hst (lv_sub hl [3, 2, 1, 0] rfl)

set_option maxHeartbeats 4000000 in
set_option maxRecDepth 100000 in
theorem x_H_value (l : Launch) (D : va_G) (Y : Nat → ClassId) (lo : Nat) (hlt : l.stackTraces = false) {M : Hm} {xa : Nat} {x1 x2 x3 x4 : Int32} (hno : ¬ inR x1) : ct l D Y lo y_H_value b_H_value 8 (some .int) 7 [.ref xa, .int x1, .int x2, .int x3, .int x4] M (fun _ _ => False) (fun E M' => E = EI ∧ M = M') 1 6 := by
  refine ct_of (by decide) (Nat.le_of_ble_eq_true rfl) ?_
  intro pg eg sg mg bw mt cg ls X hst hl
  have X1 := X
  obtain ⟨hx, hb, hml, hrt, hlocks, hown, hnm, hts, hkz, hex⟩ := X1
  have hG : ∀ w ∈ GW, w.before _ sg = true := fun w h => hts w (List.mem_cons_of_mem _ h)
  have hK := hkz.1
  have hl : lv_has ls 8 [(0, .ref xa), (1, .int x1), (2, .int x2), (3, .int x3), (4, .int x4)] := hl
  refine lv_iload_n hx hb dH_value_0 rfl (lv_at hl 1 rfl) ?_
  refine ct_callS (av2 := [.int x1]) (rest := []) X hst (x_H_checkRegister l D Y lo hlt hno) wc_H_checkRegister ml_H_48 ws_H_checkRegister wn_H md_H_checkRegister (by decide) hl.1 rfl (Nat.le_of_ble_eq_true rfl) ⟨by omega, by omega⟩ (fun E M1 h => h) dH_value_1 (fun r M' H locs hp hst => ?_)
  exact False.elim hp
end
section
/-! Degrees of products; the powers of a polynomial. -/
theorem dgl_ge {v : Nat} : ∀ {L : List (Nat × Nat)} {g : Nat}, g ≤ dgl v L g ∧ ∀ q ∈ L, xe q.1 v ≤ dgl v L g := by
  intro L
  induction L with
  | nil => intro g; exact ⟨Nat.le_refl _, fun q hq => by cases hq⟩
  | cons a L ih =>
    intro g
    obtain ⟨h1, h2⟩ := ih (g := max g (xe a.1 v))
    refine ⟨Nat.le_trans (Nat.le_max_left _ _) h1, fun q hq => ?_⟩
    rcases List.mem_cons.mp hq with rfl | hq
    · exact Nat.le_trans (Nat.le_max_right _ _) h1
    · exact h2 q hq
theorem dgl_le {v b : Nat} : ∀ {L : List (Nat × Nat)} {g : Nat}, g ≤ b → (∀ q ∈ L, xe q.1 v ≤ b) → dgl v L g ≤ b := by
  intro L
  induction L with
  | nil => intro g h _; exact h
  | cons a L ih =>
    intro g h hq
    exact ih (Nat.max_le.mpr ⟨h, hq a List.mem_cons_self⟩) (fun q hq9 => hq q (List.mem_cons_of_mem _ hq9))
theorem xe_add {k q : Nat} (hk : mv k) (hq : mv q) (h : xe k 0 + xe q 0 + (xe k 1 + xe q 1) + (xe k 2 + xe q 2) ≤ 36) : mv (k + q) ∧ ∀ v, v < 3 → xe (k + q) v = xe k v + xe q v := by
  have h1 := hk.2
  have h2 := hq.2
  have h3 : k + q = mp (xe k 0 + xe q 0) (xe k 1 + xe q 1) (xe k 2 + xe q 2) := by
    rw [← mp_add, ← h1, ← h2]
  have h4 : xe k 0 + xe q 0 + (xe k 1 + xe q 1) + (xe k 2 + xe q 2) < 64 := by omega
  rw [h3]
  refine ⟨mv_mp (by omega), fun v hv => ?_⟩
  refine co3 (P := fun v => xe (mp (xe k 0 + xe q 0) (xe k 1 + xe q 1) (xe k 2 + xe q 2)) v = xe k v + xe q v) ?_ ?_ ?_ hv
  · exact mp_x0 h4
  · exact mp_x1 h4
  · exact mp_x2 h4
theorem mul_mv {L R : List (Nat × Nat)} (h : ∀ u, u < 3 → dgl u L 0 + dgl u R 0 ≤ 12) (hL : ∀ q ∈ L, mv q.1) (hR : ∀ q ∈ R, mv q.1) : ∀ q ∈ L, ∀ q2 ∈ R, mv (q2.1 + q.1) ∧ ∀ v, v < 3 → xe (q2.1 + q.1) v = xe q2.1 v + xe q.1 v := by
  intro q hq q2 hq2
  have a := fun u => (dgl_ge (v := u) (L := L) (g := 0)).2 q hq
  have b := fun u => (dgl_ge (v := u) (L := R) (g := 0)).2 q2 hq2
  refine xe_add (hR q2 hq2) (hL q hq) ?_
  have h0 := h 0 (by omega)
  have h1 := h 1 (by omega)
  have h2 := h 2 (by omega)
  have a0 := a 0
  have a1 := a 1
  have a2 := a 2
  have b0 := b 0
  have b1 := b 1
  have b2 := b 2
  omega
noncomputable def mulP (p : Nat) (a b : Pf) : Pf := mulL p (tp b) (tp a) (fun _ => 0)
theorem mulP_lt {p : Nat} (hp : 0 < p) (a b : Pf) : ∀ m, mulP p a b m < p := mulL_lt hp (fun _ => hp)
theorem mulP_deg {p : Nat} (hp : 0 < p) {a b : Pf} (h : ∀ u, u < 3 → dgl u (tp a) 0 + dgl u (tp b) 0 ≤ 12) {v : Nat} (hv : v < 3) : dgl v (tp (mulP p a b)) 0 ≤ dgl v (tp a) 0 + dgl v (tp b) 0 := by
  refine dgl_le (Nat.zero_le _) (fun q hq => ?_)
  obtain ⟨h1, h2, h3⟩ := tp_mem hq
  rw [h2] at h3
  obtain ⟨x, hx, y, hy, he⟩ := mulL_supp hp h3
  obtain ⟨m1, m2⟩ := mul_mv h (fun q hq => (tp_mem hq).1) (fun q hq => (tp_mem hq).1) x hx y hy
  rw [← he, m2 v hv]
  have e1 := (dgl_ge (v := v) (L := tp a) (g := 0)).2 x hx
  have e2 := (dgl_ge (v := v) (L := tp b) (g := 0)).2 y hy
  omega
noncomputable def pwP (p : Nat) (b : Pf) : Nat → Pf
  | 0 => cst 1
  | n + 1 => mulP p (pwP p b n) b
theorem pwP_lt {p : Nat} (hp : 2 ≤ p) (b : Pf) : ∀ n m, pwP p b n m < p
  | 0, m => cst_lt hp m
  | n + 1, m => mulP_lt (by omega) _ _ m
theorem pwP_deg {p : Nat} (hp : 2 ≤ p) {b : Pf} {n : Nat} (h : ∀ u, u < 3 → n * dgl u (tp b) 0 ≤ 12) : ∀ {i : Nat}, i ≤ n → ∀ u, u < 3 → dgl u (tp (pwP p b i)) 0 ≤ i * dgl u (tp b) 0 := by
  intro i
  induction i with
  | zero =>
    intro _ u hu
    refine dgl_le (Nat.zero_le _) (fun q hq => ?_)
    rw [show pwP p b 0 = cst 1 from rfl, tp_cst, if_neg (by omega)] at hq
    rw [List.mem_singleton] at hq
    rw [hq]
    refine co3 (P := fun u => xe 0 u ≤ 0 * dgl u (tp b) 0) ?_ ?_ ?_ hu <;> (rw [Nat.zero_mul]; decide)
  | succ i ih =>
    intro hi u hu
    have hs : ∀ u, u < 3 → dgl u (tp (pwP p b i)) 0 + dgl u (tp b) 0 ≤ 12 := fun u hu => by
      have h1 := ih (by omega) u hu
      have h2 := h u hu
      have h3 : (i + 1) * dgl u (tp b) 0 ≤ n * dgl u (tp b) 0 := Nat.mul_le_mul_right _ hi
      rw [Nat.add_mul, Nat.one_mul] at h3
      omega
    have h4 := mulP_deg (p := p) (by omega) hs hu
    have h5 := ih (by omega) u hu
    show dgl u (tp (mulP p (pwP p b i) b)) 0 ≤ _
    rw [Nat.add_mul, Nat.one_mul]
    omega
/-- the spare one's room behind n products -/
noncomputable def cpw (p : Nat) (b : Pf) (cp : Nat) : Nat → Nat
  | 0 => cp
  | n + 1 => gcn (cpw p b cp n) 0 (td (pwP p b (n + 1)) 9139).length
theorem cpw_ge (p : Nat) (b : Pf) (cp : Nat) : ∀ n, cp ≤ cpw p b cp n
  | 0 => Nat.le_refl _
  | n + 1 => Nat.le_trans (cpw_ge p b cp n) (gcn_ge _ _ _)
theorem cpw_mono (p : Nat) (b : Pf) (cp : Nat) {i : Nat} : ∀ {n : Nat}, i ≤ n → cpw p b cp i ≤ cpw p b cp n := by
  intro n
  induction n with
  | zero => intro h; rw [show i = 0 by omega]; exact Nat.le_refl _
  | succ n ih =>
    intro h
    by_cases hn : i = n + 1
    · rw [hn]; exact Nat.le_refl _
    · exact Nat.le_trans (ih (by omega)) (gcn_ge _ _ _)
theorem cpw_le (p : Nat) (b : Pf) {cp : Nat} (h : cp ≤ 18278) : ∀ n, cpw p b cp n ≤ 18278
  | 0 => h
  | n + 1 => by
    have h1 := td_len (pwP p b (n + 1)) 9139
    exact gcn_le _ _ _ _ (cpw_le p b h n) (by omega)
end
section
/-! The face: term's throws, multiply, power. -/
set_option maxHeartbeats 4000000 in
set_option maxRecDepth 100000 in
theorem x_H_term (l : Launch) (D : va_G) (Y : Nat → ClassId) (lo : Nat) (hlt : l.stackTraces = false) {M : Hm} {xa : Nat} {x1 x2 x3 : Int32} (hno : ¬ inR x1) : ct l D Y lo y_H_term b_H_term 5 (some .int) 7 [.ref xa, .int x1, .int x2, .int x3] M (fun _ _ => False) (fun E M' => E = EI ∧ M = M') 1 6 := by
  refine ct_of (by decide) (Nat.le_of_ble_eq_true rfl) ?_
  intro pg eg sg mg bw mt cg ls X hst hl
  have X1 := X
  obtain ⟨hx, hb, hml, hrt, hlocks, hown, hnm, hts, hkz, hex⟩ := X1
  have hG : ∀ w ∈ GW, w.before _ sg = true := fun w h => hts w (List.mem_cons_of_mem _ h)
  have hK := hkz.1
  have hl : lv_has ls 5 [(0, .ref xa), (1, .int x1), (2, .int x2), (3, .int x3)] := hl
  refine lv_iload_n hx hb dH_term_0 rfl (lv_at hl 1 rfl) ?_
  refine ct_callS (av2 := [.int x1]) (rest := []) X hst (x_H_checkRegister l D Y lo hlt hno) wc_H_checkRegister ml_H_48 ws_H_checkRegister wn_H md_H_checkRegister (by decide) hl.1 rfl (Nat.le_of_ble_eq_true rfl) ⟨by omega, by omega⟩ (fun E M1 h => h) dH_term_1 (fun r M' H locs hp hst => ?_)
  exact False.elim hp

set_option maxHeartbeats 4000000 in
set_option maxRecDepth 100000 in
theorem x_H_term_i (l : Launch) (D : va_G) (Y : Nat → ClassId) (lo : Nat) (hlt : l.stackTraces = false) {M : Hm} {xa p rf : Nat} {A cap si : Nat → Nat} {P : Nat → Pf} (hcs : cs Y M xa A p P cap si rf) {r : Nat} {z2 z3 : Int32} (hr : r < 12) (hno : ¬ ∃ i : Nat, i < (tp (P r)).length ∧ z2 = nI i) : ct l D Y lo y_H_term b_H_term 5 (some .int) 7 [.ref xa, .int (nI r), .int z2, .int z3] M (fun _ _ => False) (fun E M' => E = EI ∧ M = M') 1 6 := by
  refine ct_of (by decide) (Nat.le_of_ble_eq_true rfl) ?_
  intro pg eg sg mg bw mt cg ls X hst hl
  have X1 := X
  obtain ⟨hx, hb, hml, hrt, hlocks, hown, hnm, hts, hkz, hex⟩ := X1
  have hG : ∀ w ∈ GW, w.before _ sg = true := fun w h => hts w (List.mem_cons_of_mem _ h)
  have hK := hkz.1
  have hl : lv_has ls 5 [(0, .ref xa), (1, .int (nI r)), (2, .int z2), (3, .int z3)] := hl
  have hcs0 := hcs
  obtain ⟨x0, ⟨gr, x1, hgr⟩, ⟨gn, x2, hgn⟩, ⟨hf, hpr⟩, hs, ⟨gw, ht⟩, ⟨hs1, hs2⟩, hP, ⟨LS, hS⟩, hN, hc1, hc2, hPp⟩ := hcs
  have hpp := hf.2.1
  have hpp3 := hf.2.2
  have hf0 := hf.1
  refine lv_iload_n hx hb dH_term_0 rfl (lv_at hl 1 rfl) ?_
  refine ct_callS (av2 := [.int (nI r)]) (rest := []) X hst (c_H_checkRegister l D Y lo hr) wc_H_checkRegister ml_H_48 ws_H_checkRegister wn_H md_H_checkRegister (by decide) hl.1 rfl (Nat.le_of_ble_eq_true rfl) ⟨by omega, by omega⟩ (fun _ _ h => h.elim) dH_term_1 (fun r M' H locs hp hst => ?_)
  obtain ⟨rfl, rfl⟩ := hp
  refine lv_aload_n hx hb dH_term_4 rfl (lv_at hl 0 rfl) ?_
  refine hp_get hx hb hG in_H hown hK hst x0 rfl 3 (by decide) (hG _ fl_H_11) rfl rfl dH_term_5 ?_
  refine lv_iload_n hx hb dH_term_8 rfl (lv_at hl 1 rfl) ?_
  refine hp_aald hx hb hK rfl hst x1 (j := r) (v := (A (si r))) (by omega) (by omega) (hgr r hr) dH_term_9 ?_
  have hPr := hP r hr
  obtain ⟨a9, b9, fa9, fb9, h09, h19, h29, hL9, hn9, hc19, hc29⟩ := hPr
  refine lv_astore (lv' := [(4, .ref (A (si r))), (0, .ref xa), (1, .int (nI r)), (2, .int z2), (3, .int z3)]) hx hb dH_term_10 hl (by decide) rfl (fun ls hl => ?_)
  refine lv_iload_n hx hb dH_term_12 rfl (lv_at hl 3 rfl) ?_
  refine lv_if_lt hx hb dH_term_13 (tgt := 25) rfl (fun hc => ?_) (fun hc => ?_)
  · skip
    exact ct_throw (cls := EI) (ik := 149) (ic := 151) X hst hlt rfl (by decide +kernel) cl_H_149 wn_IndexOutOfBoundsException at_I gd_I hl.1 (by decide) (Nat.le_of_ble_eq_true rfl) (by omega) (by omega) ⟨rfl, rfl⟩ dH_term_25 dH_term_28 dH_term_29 dH_term_32
  · skip
    have n1 := hc
    refine lv_iload_n hx hb dH_term_16 rfl (lv_at hl 3 rfl) ?_
    refine lv_aload hx hb dH_term_17 (lv_at hl 0 rfl) ?_
    refine hp_get hx hb hG in_P hown hK hst h09 rfl 2 (by decide) (hG _ fl_H_109) rfl rfl dH_term_19 ?_
    refine lv_icmp_lt hx hb dH_term_22 (tgt := 33) rfl (fun hc => ?_) (fun hc => ?_)
    · exact absurd (in_of n1 hc (by omega)) hno
    · skip
      exact ct_throw (cls := EI) (ik := 149) (ic := 151) X hst hlt rfl (by decide +kernel) cl_H_149 wn_IndexOutOfBoundsException at_I gd_I hl.1 (by decide) (Nat.le_of_ble_eq_true rfl) (by omega) (by omega) ⟨rfl, rfl⟩ dH_term_25 dH_term_28 dH_term_29 dH_term_32

set_option maxHeartbeats 4000000 in
set_option maxRecDepth 100000 in
theorem x_H_term_w (l : Launch) (D : va_G) (Y : Nat → ClassId) (lo : Nat) (hlt : l.stackTraces = false) {M : Hm} {xa p rf : Nat} {A cap si : Nat → Nat} {P : Nat → Pf} (hcs : cs Y M xa A p P cap si rf) {r i : Nat} {z3 : Int32} (hr : r < 12) (hi : i < (tp (P r)).length) (hno : ¬ ∃ k : Nat, k ≤ 3 ∧ z3 = nI k) : ct l D Y lo y_H_term b_H_term 5 (some .int) 7 [.ref xa, .int (nI r), .int (nI i), .int z3] M (fun _ _ => False) (fun E M' => E = EA ∧ M = M') 1 6 := by
  refine ct_of (by decide) (Nat.le_of_ble_eq_true rfl) ?_
  intro pg eg sg mg bw mt cg ls X hst hl
  have X1 := X
  obtain ⟨hx, hb, hml, hrt, hlocks, hown, hnm, hts, hkz, hex⟩ := X1
  have hG : ∀ w ∈ GW, w.before _ sg = true := fun w h => hts w (List.mem_cons_of_mem _ h)
  have hK := hkz.1
  have hl : lv_has ls 5 [(0, .ref xa), (1, .int (nI r)), (2, .int (nI i)), (3, .int z3)] := hl
  have hcs0 := hcs
  obtain ⟨x0, ⟨gr, x1, hgr⟩, ⟨gn, x2, hgn⟩, ⟨hf, hpr⟩, hs, ⟨gw, ht⟩, ⟨hs1, hs2⟩, hP, ⟨LS, hS⟩, hN, hc1, hc2, hPp⟩ := hcs
  have hpp := hf.2.1
  have hpp3 := hf.2.2
  have hf0 := hf.1
  refine lv_iload_n hx hb dH_term_0 rfl (lv_at hl 1 rfl) ?_
  refine ct_callS (av2 := [.int (nI r)]) (rest := []) X hst (c_H_checkRegister l D Y lo hr) wc_H_checkRegister ml_H_48 ws_H_checkRegister wn_H md_H_checkRegister (by decide) hl.1 rfl (Nat.le_of_ble_eq_true rfl) ⟨by omega, by omega⟩ (fun _ _ h => h.elim) dH_term_1 (fun r M' H locs hp hst => ?_)
  obtain ⟨rfl, rfl⟩ := hp
  refine lv_aload_n hx hb dH_term_4 rfl (lv_at hl 0 rfl) ?_
  refine hp_get hx hb hG in_H hown hK hst x0 rfl 3 (by decide) (hG _ fl_H_11) rfl rfl dH_term_5 ?_
  refine lv_iload_n hx hb dH_term_8 rfl (lv_at hl 1 rfl) ?_
  refine hp_aald hx hb hK rfl hst x1 (j := r) (v := (A (si r))) (by omega) (by omega) (hgr r hr) dH_term_9 ?_
  have hPr := hP r hr
  obtain ⟨a9, b9, fa9, fb9, h09, h19, h29, hL9, hn9, hc19, hc29⟩ := hPr
  refine lv_astore (lv' := [(4, .ref (A (si r))), (0, .ref xa), (1, .int (nI r)), (2, .int (nI i)), (3, .int z3)]) hx hb dH_term_10 hl (by decide) rfl (fun ls hl => ?_)
  refine lv_iload_n hx hb dH_term_12 rfl (lv_at hl 3 rfl) ?_
  refine lv_if_lt hx hb dH_term_13 (tgt := 25) rfl (fun hc => ?_) (fun hc => ?_)
  · skip
    rw [← nI_0] at hc
    have hc9 : i < 0 := (nI_ltI (by omega) (by omega)).mp hc
    exact absurd hc9 (by omega)
  · skip
    rw [← nI_0] at hc
    have hc9 : ¬ i < 0 := fun z => hc ((nI_ltI (by omega) (by omega)).mpr z)
    refine lv_iload_n hx hb dH_term_16 rfl (lv_at hl 3 rfl) ?_
    refine lv_aload hx hb dH_term_17 (lv_at hl 0 rfl) ?_
    refine hp_get hx hb hG in_P hown hK hst h09 rfl 2 (by decide) (hG _ fl_H_109) rfl rfl dH_term_19 ?_
    refine lv_icmp_lt hx hb dH_term_22 (tgt := 33) rfl (fun hc => ?_) (fun hc => ?_)
    · skip
      have hc9 : i < ((tp (P r)).length) := (nI_ltI (by omega) (by omega)).mp hc
      refine lv_iload_n hx hb dH_term_33 rfl (lv_at hl 4 rfl) ?_
      refine lv_if_lt hx hb dH_term_34 (tgt := 42) rfl (fun hc => ?_) (fun hc => ?_)
      · skip
        exact ct_throw (cls := EA) (ik := 96) (ic := 98) X hst hlt rfl (by decide +kernel) cl_H_96 wn_IllegalArgumentException at_A gd_A hl.1 (by decide) (Nat.le_of_ble_eq_true rfl) (by omega) (by omega) ⟨rfl, rfl⟩ dH_term_42 dH_term_45 dH_term_46 dH_term_49
      · skip
        have n1 := hc
        refine lv_iload_n hx hb dH_term_37 rfl (lv_at hl 4 rfl) ?_
        refine lv_iconst (v := nI 3) hx hb dH_term_38 (by decide +kernel) ?_
        refine lv_icmp_le hx hb dH_term_39 (tgt := 50) rfl (fun hc => ?_) (fun hc => ?_)
        · obtain ⟨k3, hk3, rfl⟩ := nI_of n1
          exact absurd ⟨k3, (nI_leI hk3 (by omega)).mp hc, rfl⟩ hno
        · skip
          exact ct_throw (cls := EA) (ik := 96) (ic := 98) X hst hlt rfl (by decide +kernel) cl_H_96 wn_IllegalArgumentException at_A gd_A hl.1 (by decide) (Nat.le_of_ble_eq_true rfl) (by omega) (by omega) ⟨rfl, rfl⟩ dH_term_42 dH_term_45 dH_term_46 dH_term_49
    · skip
      have hc9 : ¬ i < ((tp (P r)).length) := fun z => hc ((nI_ltI (by omega) (by omega)).mpr z)
      exact absurd hc9 (by omega)

set_option maxHeartbeats 4000000 in
set_option maxRecDepth 100000 in
theorem c_H_multiply (l : Launch) (D : va_G) (Y : Nat → ClassId) (lo : Nat) {M : Hm} {xa p rf : Nat} {A cap si : Nat → Nat} {P : Nat → Pf} (hcs : cs Y M xa A p P cap si rf) {r a b : Nat} (hr : r < 12) (ha : a < 12) (hb9 : b < 12) (hdg : ∀ u, u < 3 → dgl u (tp (P a)) 0 + dgl u (tp (P b)) 0 ≤ 12) : ct l D Y lo y_H_multiply b_H_multiply 7 (some .boolean) 5 [.ref xa, .int (nI r), .int (nI a), .int (nI b)] M (fun r9 M' => r9 = some (.int (nI 1)) ∧ cs Y M' xa A p (va_up P r (mulP p (P a) (P b))) (va_up cap (si r) (gcn (cap (si r)) 0 (td (mulP p (P a) (P b)) 9139).length)) si rf ∧ hp_off (fun i => i < 300) M M') nx (gcn (cap (si r)) 0 (td (mulP p (P a) (P b)) 9139).length - cap (si r)) (4 * (gcn (cap (si r)) 0 (td (mulP p (P a) (P b)) 9139).length - cap (si r))) := by
  refine ct_of (by decide) (Nat.le_of_ble_eq_true rfl) ?_
  intro pg eg sg mg bw mt cg ls X hst hl
  have X1 := X
  obtain ⟨hx, hb, hml, hrt, hlocks, hown, hnm, hts, hkz, hex⟩ := X1
  have hG : ∀ w ∈ GW, w.before _ sg = true := fun w h => hts w (List.mem_cons_of_mem _ h)
  have hK := hkz.1
  have hl : lv_has ls 7 [(0, .ref xa), (1, .int (nI r)), (2, .int (nI a)), (3, .int (nI b))] := hl
  have hcs0 := hcs
  obtain ⟨x0, ⟨gr, x1, hgr⟩, ⟨gn, x2, hgn⟩, ⟨hf, hpr⟩, hs, ⟨gw, ht⟩, ⟨hs1, hs2⟩, hP, ⟨LS, hS⟩, hN, hc1, hc2, hPp⟩ := hcs
  have hpp := hf.2.1
  have hpp3 := hf.2.2
  have hf0 := hf.1
  refine lv_iload_n hx hb dH_multiply_0 rfl (lv_at hl 1 rfl) ?_
  refine lv_iload_n hx hb dH_multiply_1 rfl (lv_at hl 2 rfl) ?_
  refine lv_iload_n hx hb dH_multiply_2 rfl (lv_at hl 3 rfl) ?_
  refine ct_callS (av2 := [.int (nI r), .int (nI a), .int (nI b)]) (rest := []) X hst (c_H_checkRegisters l D Y lo hr ha hb9) wc_H_checkRegisters ml_H_73 ws_H_checkRegisters wn_H md_H_checkRegisters (by decide) hl.1 rfl (Nat.le_of_ble_eq_true rfl) ⟨by omega, by omega⟩ (fun _ _ h => h.elim) dH_multiply_3 (fun r M' H locs hp hst => ?_)
  obtain ⟨rfl, rfl⟩ := hp
  have hs_r := hs1 r (by omega)
  have hs_a := hs1 a (by omega)
  have hs_b := hs1 b (by omega)
  have hc18 := hc1 r (by omega)
  obtain ⟨fs_a, cell_a⟩ := (hP a ha).cell
  obtain ⟨fs_b, cell_b⟩ := (hP b hb9).cell
  refine lv_aload_n hx hb dH_multiply_6 rfl (lv_at hl 0 rfl) ?_
  refine hp_get hx hb hG in_H hown hK hst x0 rfl 3 (by decide) (hG _ fl_H_11) rfl rfl dH_multiply_7 ?_
  refine lv_iload_n hx hb dH_multiply_10 rfl (lv_at hl 2 rfl) ?_
  refine hp_aald hx hb hK rfl hst x1 (j := a) (v := (A (si a))) (by omega) (by omega) (hgr a ha) dH_multiply_11 ?_
  refine lv_astore (lv' := [(4, .ref (A (si a))), (0, .ref xa), (1, .int (nI r)), (2, .int (nI a)), (3, .int (nI b))]) hx hb dH_multiply_12 hl (by decide) rfl (fun ls hl => ?_)
  refine lv_aload_n hx hb dH_multiply_14 rfl (lv_at hl 1 rfl) ?_
  refine hp_get hx hb hG in_H hown hK hst x0 rfl 3 (by decide) (hG _ fl_H_11) rfl rfl dH_multiply_15 ?_
  refine lv_iload_n hx hb dH_multiply_18 rfl (lv_at hl 4 rfl) ?_
  refine hp_aald hx hb hK rfl hst x1 (j := b) (v := (A (si b))) (by omega) (by omega) (hgr b hb9) dH_multiply_19 ?_
  refine lv_astore (lv' := [(5, .ref (A (si b))), (4, .ref (A (si a))), (0, .ref xa), (1, .int (nI r)), (2, .int (nI a)), (3, .int (nI b))]) hx hb dH_multiply_20 hl (by decide) rfl (fun ls hl => ?_)
  refine lv_iconst (v := nI 0) hx hb dH_multiply_22 (by decide +kernel) ?_
  refine lv_istore (lv' := [(6, .int (nI 0)), (5, .ref (A (si b))), (4, .ref (A (si a))), (0, .ref xa), (1, .int (nI r)), (2, .int (nI a)), (3, .int (nI b))]) hx hb dH_multiply_23 hl (by decide) rfl (fun ls hl => ?_)
  have LP : ∀ (kk : Nat) (u : Nat) (H : Heap) (locs : List Loc) (ls : Array Slot), kk = 4 - u → (u ≤ 3) → (∀ v, v < u → dgl v (tp (P a)) 0 + dgl v (tp (P b)) 0 ≤ 12) → hp_st D vC lo M sg.heap H locs → lv_has ls 7 [(0, .ref xa), (1, .int (nI r)), (2, .int (nI a)), (3, .int (nI b)), (4, .ref (A (si a))), (5, .ref (A (si b))), (6, .int (nI u))] → cW pg l eg sg mg [.ref xa, .int (nI r), .int (nI a), .int (nI b)] bw mt cg y_H_multiply b_H_multiply 7 (some .boolean) 5 D lo (fun r9 M' => r9 = some (.int (nI 1)) ∧ cs Y M' xa A p (va_up P r (mulP p (P a) (P b))) (va_up cap (si r) (gcn (cap (si r)) 0 (td (mulP p (P a) (P b)) 9139).length)) si rf ∧ hp_off (fun i => i < 300) M M') nx (gcn (cap (si r)) 0 (td (mulP p (P a) (P b)) 9139).length - cap (si r)) (4 * (gcn (cap (si r)) 0 (td (mulP p (P a) (P b)) 9139).length - cap (si r))) H locs 0 0 (F0 mg 25 ls []) := by
    intro kk
    induction kk using Nat.strongRecOn with
    | _ kk ihLP =>
    intro u H locs ls hkk hu9 hok hst hl
    refine lv_iload hx hb dH_multiply_25 (lv_at hl 6 rfl) ?_
    refine lv_iconst (v := nI 3) hx hb dH_multiply_27 (by decide +kernel) ?_
    refine lv_icmp_ge hx hb dH_multiply_28 (tgt := 62) rfl (fun hc => ?_) (fun hc => ?_)
    · skip
      have hc7 : 3 ≤ u := (nI_leI (by omega) (by omega)).mp hc
      obtain ⟨fss, cells9⟩ := hs.cell
      have hmm := mul_mv hdg (fun q hq => (tp_mem hq).1) (fun q hq => (tp_mem hq).1)
      refine lv_aload_n hx hb dH_multiply_62 rfl (lv_at hl 0 rfl) ?_
      refine hp_get hx hb hG in_H hown hK hst x0 rfl 1 (by decide) (hG _ fl_H_32) rfl rfl dH_multiply_63 ?_
      refine lv_aload hx hb dH_multiply_66 (lv_at hl 4 rfl) ?_
      refine lv_aload hx hb dH_multiply_68 (lv_at hl 5 rfl) ?_
      refine ct_callV (av2 := [.ref (A (si a)), .ref (A (si b))]) (rest := []) (b := (A 1)) X hst (c_S_addProduct l D Y lo hs hf (fun _ => by omega) (hP a ha) (by omega) (hP b hb9) (by omega) (fun q hq => ⟨by rw [(tp_mem hq).2.1]; exact hPp a ha _, fun q2 hq2 => ⟨(hmm q hq q2 hq2).1, by rw [(tp_mem hq2).2.1]; exact hPp b hb9 _⟩⟩)) cells9 rfl wc_S_addProduct ml_H_92 wi_S_addProduct wl_S_addProduct wn_S md_S_addProduct (by decide) hl.1 rfl (Nat.le_of_ble_eq_true rfl) ⟨by omega, by omega⟩ (fun _ _ h => h.elim) dH_multiply_70 (fun r M' H locs hp hst => ?_)
      obtain ⟨rfl, hs3, ho3⟩ := hp
      have hs3 : sh Y M' (A 1) (A 0) (mulP p (P a) (P b)) := hs3
      have x0a := ho3.of x0 (by omega)
      have x1a := ho3.of x1 (by omega)
      have hPr := (hP r hr).off ho3 (by omega)
      obtain ⟨fst, cellt⟩ := hs3.cell
      have hcp2 := mulP_lt (p := p) (by omega) (P a) (P b)
      refine lv_aload_n hx hb dH_multiply_73 rfl (lv_at hl 0 rfl) ?_
      refine hp_get hx hb hG in_H hown hK hst x0a rfl 1 (by decide) (hG _ fl_H_32) rfl rfl dH_multiply_74 ?_
      refine lv_aload_n hx hb dH_multiply_77 rfl (lv_at hl 0 rfl) ?_
      refine hp_get hx hb hG in_H hown hK hst x0a rfl 3 (by decide) (hG _ fl_H_11) rfl rfl dH_multiply_78 ?_
      refine lv_iload_n hx hb dH_multiply_81 rfl (lv_at hl 1 rfl) ?_
      refine hp_aald hx hb hK rfl hst x1a (j := r) (v := (A (si r))) (by omega) (by omega) (hgr r hr) dH_multiply_82 ?_
      refine ct_callV (av2 := [.ref (A (si r))]) (rest := []) (b := (A 1)) X hst (c_S_moveTo l D Y lo hs3 hPr (by omega) hc18 (fun m => by have := hcp2 m; omega)) cellt rfl wc_S_moveTo ml_H_81 wi_S_moveTo wl_S_moveTo wn_S md_S_moveTo (by decide) hl.1 rfl (Nat.le_of_ble_eq_true rfl) ⟨by omega, by omega⟩ (fun _ _ h => h.elim) dH_multiply_83 (fun r M' H locs hp hst => ?_)
      obtain ⟨rfl, hp6, hs6, ho6⟩ := hp
      have ho7 := (ho3.wk (fun i hi => Or.inl hi : ∀ i, i = 2 → (i = 2 ∨ i = si r))).tr ho6
      have hl9 := td_len (mulP p (P a) (P b)) 9139
      have hgl := gcn_le (td (mulP p (P a) (P b)) 9139).length (cap (si r)) 0 18278 hc18 (by omega)
      have hcs1 := hcs0.reg hr ho7 hs6 (g := mulP p (P a) (P b)) hp6 hgl hcp2
      refine lv_iconst (v := nI 1) hx hb dH_multiply_86 (by decide +kernel) ?_
      exact ct_zret X hst (by omega) ⟨rfl, hcs1, ho7.wk (fun i hi => by omega)⟩ (by omega) (by omega) dH_multiply_87
    · skip
      have hc7 : ¬ 3 ≤ u := fun z => hc ((nI_leI (by omega) (by omega)).mpr z)
      have hu : u < 3 := by omega
      have d1 := dgl_lt (v := u) (g := 0) (L := tp (P a)) (by omega)
      have d2 := dgl_lt (v := u) (g := 0) (L := tp (P b)) (by omega)
      refine lv_aload hx hb dH_multiply_31 (lv_at hl 4 rfl) ?_
      refine lv_iload hx hb dH_multiply_33 (lv_at hl 6 rfl) ?_
      refine ct_callV (av2 := [.int (nI u)]) (rest := []) (b := (A (si a))) X hst (c_P_degreeIn l D Y lo (hP a ha) hu (fun q hq => (tp_b hpp3 (hPp a ha) q hq).1)) cell_a rfl wc_P_degreeIn ml_H_85 wi_P_degreeIn wl_P_degreeIn wn_P md_P_degreeIn (by decide) hl.1 rfl (Nat.le_of_ble_eq_true rfl) ⟨by omega, by omega⟩ (fun _ _ h => h.elim) dH_multiply_35 (fun r M' H locs hp hst => ?_)
      obtain ⟨rfl, rfl⟩ := hp
      refine lv_aload hx hb dH_multiply_38 (lv_at hl 5 rfl) ?_
      refine lv_iload hx hb dH_multiply_40 (lv_at hl 6 rfl) ?_
      refine ct_callV (av2 := [.int (nI u)]) (rest := [.int (nI (dgl u (tp (P a)) 0))]) (b := (A (si b))) X hst (c_P_degreeIn l D Y lo (hP b hb9) hu (fun q hq => (tp_b hpp3 (hPp b hb9) q hq).1)) cell_b rfl wc_P_degreeIn ml_H_85 wi_P_degreeIn wl_P_degreeIn wn_P md_P_degreeIn (by decide) hl.1 rfl (Nat.le_of_ble_eq_true rfl) ⟨by omega, by omega⟩ (fun _ _ h => h.elim) dH_multiply_42 (fun r M' H locs hp hst => ?_)
      obtain ⟨rfl, rfl⟩ := hp
      refine t_iadd hx hb dH_multiply_45 (v := nI ((dgl u (tp (P a)) 0) + (dgl u (tp (P b)) 0))) (nI_add _ _) ?_
      refine lv_bipush (v := nI 12) hx hb dH_multiply_46 (by decide +kernel) ?_
      refine lv_icmp_le hx hb dH_multiply_48 (tgt := 56) rfl (fun hc => ?_) (fun hc => ?_)
      · skip
        have hc8 : ((dgl u (tp (P a)) 0) + (dgl u (tp (P b)) 0)) ≤ 12 := (nI_leI (by omega) (by omega)).mp hc
        refine lv_iinc (lv' := [(6, .int (nI (u + 1))), (0, .ref xa), (1, .int (nI r)), (2, .int (nI a)), (3, .int (nI b)), (4, .ref (A (si a))), (5, .ref (A (si b)))]) hx hb dH_multiply_56 hl (k := 6) rfl (ii_p _) (by decide) rfl (fun ls hl => ?_)
        refine lv_goto hx hb dH_multiply_59 (tgt := 25) rfl ?_
        exact ihLP _ (by omega) (u + 1) _ _ _ rfl (by omega) (fun v hv => by
            by_cases h9 : v = u
            · subst h9; exact hc8
            · exact hok v (by omega)) hst (lv_sub hl [1, 2, 3, 4, 5, 6, 0] rfl)
      · skip
        have hc8 : ¬ ((dgl u (tp (P a)) 0) + (dgl u (tp (P b)) 0)) ≤ 12 := fun z => hc ((nI_leI (by omega) (by omega)).mpr z)
        exact absurd (hdg u hu) hc8
  exact LP _ 0 _ _ _ rfl (by omega) (fun v hv => by omega) hst (lv_sub hl [3, 4, 5, 6, 2, 1, 0] rfl)

set_option maxHeartbeats 4000000 in
set_option maxRecDepth 100000 in
theorem n_H_multiply (l : Launch) (D : va_G) (Y : Nat → ClassId) (lo : Nat) {M : Hm} {xa p rf : Nat} {A cap si : Nat → Nat} {P : Nat → Pf} (hcs : cs Y M xa A p P cap si rf) {r a b : Nat} (hr : r < 12) (ha : a < 12) (hb9 : b < 12) (hdg : ¬ ∀ u, u < 3 → dgl u (tp (P a)) 0 + dgl u (tp (P b)) 0 ≤ 12) : ct l D Y lo y_H_multiply b_H_multiply 7 (some .boolean) 5 [.ref xa, .int (nI r), .int (nI a), .int (nI b)] M (fun r9 M' => r9 = some (.int (nI 0)) ∧ cs Y M' xa A p P cap si (rf + 1) ∧ hp_off (fun i => i < 300) M M') nx 0 0 := by
  refine ct_of (by decide) (Nat.le_of_ble_eq_true rfl) ?_
  intro pg eg sg mg bw mt cg ls X hst hl
  have X1 := X
  obtain ⟨hx, hb, hml, hrt, hlocks, hown, hnm, hts, hkz, hex⟩ := X1
  have hG : ∀ w ∈ GW, w.before _ sg = true := fun w h => hts w (List.mem_cons_of_mem _ h)
  have hK := hkz.1
  have hl : lv_has ls 7 [(0, .ref xa), (1, .int (nI r)), (2, .int (nI a)), (3, .int (nI b))] := hl
  have hcs0 := hcs
  obtain ⟨x0, ⟨gr, x1, hgr⟩, ⟨gn, x2, hgn⟩, ⟨hf, hpr⟩, hs, ⟨gw, ht⟩, ⟨hs1, hs2⟩, hP, ⟨LS, hS⟩, hN, hc1, hc2, hPp⟩ := hcs
  have hpp := hf.2.1
  have hpp3 := hf.2.2
  have hf0 := hf.1
  refine lv_iload_n hx hb dH_multiply_0 rfl (lv_at hl 1 rfl) ?_
  refine lv_iload_n hx hb dH_multiply_1 rfl (lv_at hl 2 rfl) ?_
  refine lv_iload_n hx hb dH_multiply_2 rfl (lv_at hl 3 rfl) ?_
  refine ct_callS (av2 := [.int (nI r), .int (nI a), .int (nI b)]) (rest := []) X hst (c_H_checkRegisters l D Y lo hr ha hb9) wc_H_checkRegisters ml_H_73 ws_H_checkRegisters wn_H md_H_checkRegisters (by decide) hl.1 rfl (Nat.le_of_ble_eq_true rfl) ⟨by omega, by omega⟩ (fun _ _ h => h.elim) dH_multiply_3 (fun r M' H locs hp hst => ?_)
  obtain ⟨rfl, rfl⟩ := hp
  have hs_r := hs1 r (by omega)
  have hs_a := hs1 a (by omega)
  have hs_b := hs1 b (by omega)
  have hc18 := hc1 r (by omega)
  obtain ⟨fs_a, cell_a⟩ := (hP a ha).cell
  obtain ⟨fs_b, cell_b⟩ := (hP b hb9).cell
  refine lv_aload_n hx hb dH_multiply_6 rfl (lv_at hl 0 rfl) ?_
  refine hp_get hx hb hG in_H hown hK hst x0 rfl 3 (by decide) (hG _ fl_H_11) rfl rfl dH_multiply_7 ?_
  refine lv_iload_n hx hb dH_multiply_10 rfl (lv_at hl 2 rfl) ?_
  refine hp_aald hx hb hK rfl hst x1 (j := a) (v := (A (si a))) (by omega) (by omega) (hgr a ha) dH_multiply_11 ?_
  refine lv_astore (lv' := [(4, .ref (A (si a))), (0, .ref xa), (1, .int (nI r)), (2, .int (nI a)), (3, .int (nI b))]) hx hb dH_multiply_12 hl (by decide) rfl (fun ls hl => ?_)
  refine lv_aload_n hx hb dH_multiply_14 rfl (lv_at hl 1 rfl) ?_
  refine hp_get hx hb hG in_H hown hK hst x0 rfl 3 (by decide) (hG _ fl_H_11) rfl rfl dH_multiply_15 ?_
  refine lv_iload_n hx hb dH_multiply_18 rfl (lv_at hl 4 rfl) ?_
  refine hp_aald hx hb hK rfl hst x1 (j := b) (v := (A (si b))) (by omega) (by omega) (hgr b hb9) dH_multiply_19 ?_
  refine lv_astore (lv' := [(5, .ref (A (si b))), (4, .ref (A (si a))), (0, .ref xa), (1, .int (nI r)), (2, .int (nI a)), (3, .int (nI b))]) hx hb dH_multiply_20 hl (by decide) rfl (fun ls hl => ?_)
  refine lv_iconst (v := nI 0) hx hb dH_multiply_22 (by decide +kernel) ?_
  refine lv_istore (lv' := [(6, .int (nI 0)), (5, .ref (A (si b))), (4, .ref (A (si a))), (0, .ref xa), (1, .int (nI r)), (2, .int (nI a)), (3, .int (nI b))]) hx hb dH_multiply_23 hl (by decide) rfl (fun ls hl => ?_)
  have LP : ∀ (kk : Nat) (u : Nat) (H : Heap) (locs : List Loc) (ls : Array Slot), kk = 4 - u → (u ≤ 3) → (∀ v, v < u → dgl v (tp (P a)) 0 + dgl v (tp (P b)) 0 ≤ 12) → hp_st D vC lo M sg.heap H locs → lv_has ls 7 [(0, .ref xa), (1, .int (nI r)), (2, .int (nI a)), (3, .int (nI b)), (4, .ref (A (si a))), (5, .ref (A (si b))), (6, .int (nI u))] → cW pg l eg sg mg [.ref xa, .int (nI r), .int (nI a), .int (nI b)] bw mt cg y_H_multiply b_H_multiply 7 (some .boolean) 5 D lo (fun r9 M' => r9 = some (.int (nI 0)) ∧ cs Y M' xa A p P cap si (rf + 1) ∧ hp_off (fun i => i < 300) M M') nx 0 0 H locs 0 0 (F0 mg 25 ls []) := by
    intro kk
    induction kk using Nat.strongRecOn with
    | _ kk ihLP =>
    intro u H locs ls hkk hu9 hok hst hl
    refine lv_iload hx hb dH_multiply_25 (lv_at hl 6 rfl) ?_
    refine lv_iconst (v := nI 3) hx hb dH_multiply_27 (by decide +kernel) ?_
    refine lv_icmp_ge hx hb dH_multiply_28 (tgt := 62) rfl (fun hc => ?_) (fun hc => ?_)
    · skip
      have hc7 : 3 ≤ u := (nI_leI (by omega) (by omega)).mp hc
      exact absurd (fun u hu => hok u (by omega)) hdg
    · skip
      have hc7 : ¬ 3 ≤ u := fun z => hc ((nI_leI (by omega) (by omega)).mpr z)
      have hu : u < 3 := by omega
      have d1 := dgl_lt (v := u) (g := 0) (L := tp (P a)) (by omega)
      have d2 := dgl_lt (v := u) (g := 0) (L := tp (P b)) (by omega)
      refine lv_aload hx hb dH_multiply_31 (lv_at hl 4 rfl) ?_
      refine lv_iload hx hb dH_multiply_33 (lv_at hl 6 rfl) ?_
      refine ct_callV (av2 := [.int (nI u)]) (rest := []) (b := (A (si a))) X hst (c_P_degreeIn l D Y lo (hP a ha) hu (fun q hq => (tp_b hpp3 (hPp a ha) q hq).1)) cell_a rfl wc_P_degreeIn ml_H_85 wi_P_degreeIn wl_P_degreeIn wn_P md_P_degreeIn (by decide) hl.1 rfl (Nat.le_of_ble_eq_true rfl) ⟨by omega, by omega⟩ (fun _ _ h => h.elim) dH_multiply_35 (fun r M' H locs hp hst => ?_)
      obtain ⟨rfl, rfl⟩ := hp
      refine lv_aload hx hb dH_multiply_38 (lv_at hl 5 rfl) ?_
      refine lv_iload hx hb dH_multiply_40 (lv_at hl 6 rfl) ?_
      refine ct_callV (av2 := [.int (nI u)]) (rest := [.int (nI (dgl u (tp (P a)) 0))]) (b := (A (si b))) X hst (c_P_degreeIn l D Y lo (hP b hb9) hu (fun q hq => (tp_b hpp3 (hPp b hb9) q hq).1)) cell_b rfl wc_P_degreeIn ml_H_85 wi_P_degreeIn wl_P_degreeIn wn_P md_P_degreeIn (by decide) hl.1 rfl (Nat.le_of_ble_eq_true rfl) ⟨by omega, by omega⟩ (fun _ _ h => h.elim) dH_multiply_42 (fun r M' H locs hp hst => ?_)
      obtain ⟨rfl, rfl⟩ := hp
      refine t_iadd hx hb dH_multiply_45 (v := nI ((dgl u (tp (P a)) 0) + (dgl u (tp (P b)) 0))) (nI_add _ _) ?_
      refine lv_bipush (v := nI 12) hx hb dH_multiply_46 (by decide +kernel) ?_
      refine lv_icmp_le hx hb dH_multiply_48 (tgt := 56) rfl (fun hc => ?_) (fun hc => ?_)
      · skip
        have hc8 : ((dgl u (tp (P a)) 0) + (dgl u (tp (P b)) 0)) ≤ 12 := (nI_leI (by omega) (by omega)).mp hc
        refine lv_iinc (lv' := [(6, .int (nI (u + 1))), (0, .ref xa), (1, .int (nI r)), (2, .int (nI a)), (3, .int (nI b)), (4, .ref (A (si a))), (5, .ref (A (si b)))]) hx hb dH_multiply_56 hl (k := 6) rfl (ii_p _) (by decide) rfl (fun ls hl => ?_)
        refine lv_goto hx hb dH_multiply_59 (tgt := 25) rfl ?_
        exact ihLP _ (by omega) (u + 1) _ _ _ rfl (by omega) (fun v hv => by
            by_cases h9 : v = u
            · subst h9; exact hc8
            · exact hok v (by omega)) hst (lv_sub hl [1, 2, 3, 4, 5, 6, 0] rfl)
      · skip
        have hc8 : ¬ ((dgl u (tp (P a)) 0) + (dgl u (tp (P b)) 0)) ≤ 12 := fun z => hc ((nI_leI (by omega) (by omega)).mpr z)
        refine lv_aload_n hx hb dH_multiply_51 rfl (lv_at hl 0 rfl) ?_
        refine ct_callV (av2 := []) (rest := []) (b := xa) X hst (c_H_refuse l D Y lo hcs0) x0 rfl wc_H_refuse ml_H_88 wi_H_refuse wl_H_refuse wn_H md_H_refuse (by decide) hl.1 rfl (Nat.le_of_ble_eq_true rfl) ⟨by omega, by omega⟩ (fun _ _ h => h.elim) dH_multiply_52 (fun r M' H locs hp hst => ?_)
        obtain ⟨rfl, hcs1, ho1⟩ := hp
        exact ct_zret X hst (by omega) ⟨rfl, hcs1, ho1.wk (fun i hi => by omega)⟩ (by omega) (by omega) dH_multiply_55
  exact LP _ 0 _ _ _ rfl (by omega) (fun v hv => by omega) hst (lv_sub hl [3, 4, 5, 6, 2, 1, 0] rfl)

set_option maxHeartbeats 4000000 in
set_option maxRecDepth 100000 in
theorem x_H_multiply (l : Launch) (D : va_G) (Y : Nat → ClassId) (lo : Nat) (hlt : l.stackTraces = false) {M : Hm} {xa : Nat} {x1 x2 x3 : Int32} (hno : ¬ (inR x1 ∧ inR x2 ∧ inR x3)) : ct l D Y lo y_H_multiply b_H_multiply 7 (some .boolean) 8 [.ref xa, .int x1, .int x2, .int x3] M (fun _ _ => False) (fun E M' => E = EI ∧ M = M') 3 18 := by
  refine ct_of (by decide) (Nat.le_of_ble_eq_true rfl) ?_
  intro pg eg sg mg bw mt cg ls X hst hl
  have X1 := X
  obtain ⟨hx, hb, hml, hrt, hlocks, hown, hnm, hts, hkz, hex⟩ := X1
  have hG : ∀ w ∈ GW, w.before _ sg = true := fun w h => hts w (List.mem_cons_of_mem _ h)
  have hK := hkz.1
  have hl : lv_has ls 7 [(0, .ref xa), (1, .int x1), (2, .int x2), (3, .int x3)] := hl
  refine lv_iload_n hx hb dH_multiply_0 rfl (lv_at hl 1 rfl) ?_
  refine lv_iload_n hx hb dH_multiply_1 rfl (lv_at hl 2 rfl) ?_
  refine lv_iload_n hx hb dH_multiply_2 rfl (lv_at hl 3 rfl) ?_
  refine ct_callS (av2 := [.int x1, .int x2, .int x3]) (rest := []) X hst (x_H_checkRegisters l D Y lo hlt hno) wc_H_checkRegisters ml_H_73 ws_H_checkRegisters wn_H md_H_checkRegisters (by decide) hl.1 rfl (Nat.le_of_ble_eq_true rfl) ⟨by omega, by omega⟩ (fun E M1 h => h) dH_multiply_3 (fun r M' H locs hp hst => ?_)
  exact False.elim hp

set_option maxHeartbeats 4000000 in
set_option maxRecDepth 100000 in
theorem c_H_power (l : Launch) (D : va_G) (Y : Nat → ClassId) (lo : Nat) {M : Hm} {xa p rf : Nat} {A cap si : Nat → Nat} {P : Nat → Pf} (hcs : cs Y M xa A p P cap si rf) {r a n : Nat} (hr : r < 12) (ha : a < 12) (hn : n ≤ 100) (hdg : ∀ u, u < 3 → n * dgl u (tp (P a)) 0 ≤ 12) : ct l D Y lo y_H_power b_H_power 6 (some .boolean) 5 [.ref xa, .int (nI r), .int (nI a), .int (nI n)] M (fun r9 M' => r9 = some (.int (nI 1)) ∧ cs Y M' xa A p (va_up P r (pwP p (P a) n)) (va_up cap (si 12) (cpw p (P a) (cap (si 12)) n)) (sw si r) rf ∧ hp_off (fun i => i < 300) M M') nx (cpw p (P a) (cap (si 12)) n - cap (si 12)) (4 * (cpw p (P a) (cap (si 12)) n - cap (si 12))) := by
  refine ct_of (by decide) (Nat.le_of_ble_eq_true rfl) ?_
  intro pg eg sg mg bw mt cg ls X hst hl
  have X1 := X
  obtain ⟨hx, hb, hml, hrt, hlocks, hown, hnm, hts, hkz, hex⟩ := X1
  have hG : ∀ w ∈ GW, w.before _ sg = true := fun w h => hts w (List.mem_cons_of_mem _ h)
  have hK := hkz.1
  have hl : lv_has ls 6 [(0, .ref xa), (1, .int (nI r)), (2, .int (nI a)), (3, .int (nI n))] := hl
  have hcs0 := hcs
  obtain ⟨x0, ⟨gr, x1, hgr⟩, ⟨gn, x2, hgn⟩, ⟨hf, hpr⟩, hs, ⟨gw, ht⟩, ⟨hs1, hs2⟩, hP, ⟨LS, hS⟩, hN, hc1, hc2, hPp⟩ := hcs
  have hpp := hf.2.1
  have hpp3 := hf.2.2
  have hf0 := hf.1
  refine lv_iload_n hx hb dH_power_0 rfl (lv_at hl 1 rfl) ?_
  refine ct_callS (av2 := [.int (nI r)]) (rest := []) X hst (c_H_checkRegister l D Y lo hr) wc_H_checkRegister ml_H_48 ws_H_checkRegister wn_H md_H_checkRegister (by decide) hl.1 rfl (Nat.le_of_ble_eq_true rfl) ⟨by omega, by omega⟩ (fun _ _ h => h.elim) dH_power_1 (fun r M' H locs hp hst => ?_)
  obtain ⟨rfl, rfl⟩ := hp
  refine lv_iload_n hx hb dH_power_4 rfl (lv_at hl 2 rfl) ?_
  refine ct_callS (av2 := [.int (nI a)]) (rest := []) X hst (c_H_checkRegister l D Y lo ha) wc_H_checkRegister ml_H_48 ws_H_checkRegister wn_H md_H_checkRegister (by decide) hl.1 rfl (Nat.le_of_ble_eq_true rfl) ⟨by omega, by omega⟩ (fun _ _ h => h.elim) dH_power_5 (fun r M' H locs hp hst => ?_)
  obtain ⟨rfl, rfl⟩ := hp
  have hs_r := hs1 r (by omega)
  have hs_a := hs1 a (by omega)
  have hs_12 := hs1 12 (by omega)
  have hne : si a ≠ si 12 := fun z => by have := hs2 a 12 (by omega) (by omega) z; omega
  have hc18 := hc1 12 (by omega)
  obtain ⟨fs_a, cell_a⟩ := (hP a ha).cell
  refine lv_iload_n hx hb dH_power_8 rfl (lv_at hl 3 rfl) ?_
  refine lv_if_lt hx hb dH_power_9 (tgt := 18) rfl (fun hc => ?_) (fun hc => ?_)
  · skip
    rw [← nI_0] at hc
    have hc9 : n < 0 := (nI_ltI (by omega) (by omega)).mp hc
    exact absurd hc9 (by omega)
  · skip
    rw [← nI_0] at hc
    have hc9 : ¬ n < 0 := fun z => hc ((nI_ltI (by omega) (by omega)).mpr z)
    refine lv_iload_n hx hb dH_power_12 rfl (lv_at hl 3 rfl) ?_
    refine lv_bipush (v := nI 100) hx hb dH_power_13 (by decide +kernel) ?_
    refine lv_icmp_le hx hb dH_power_15 (tgt := 26) rfl (fun hc => ?_) (fun hc => ?_)
    · skip
      have hc9 : n ≤ 100 := (nI_leI (by omega) (by omega)).mp hc
      refine lv_aload_n hx hb dH_power_26 rfl (lv_at hl 0 rfl) ?_
      refine hp_get hx hb hG in_H hown hK hst x0 rfl 3 (by decide) (hG _ fl_H_11) rfl rfl dH_power_27 ?_
      refine lv_iload_n hx hb dH_power_30 rfl (lv_at hl 2 rfl) ?_
      refine hp_aald hx hb hK rfl hst x1 (j := a) (v := (A (si a))) (by omega) (by omega) (hgr a ha) dH_power_31 ?_
      refine lv_astore (lv' := [(4, .ref (A (si a))), (0, .ref xa), (1, .int (nI r)), (2, .int (nI a)), (3, .int (nI n))]) hx hb dH_power_32 hl (by decide) rfl (fun ls hl => ?_)
      refine lv_iconst (v := nI 0) hx hb dH_power_34 (by decide +kernel) ?_
      refine lv_istore (lv' := [(5, .int (nI 0)), (4, .ref (A (si a))), (0, .ref xa), (1, .int (nI r)), (2, .int (nI a)), (3, .int (nI n))]) hx hb dH_power_35 hl (by decide) rfl (fun ls hl => ?_)
      have LP : ∀ (kk : Nat) (u : Nat) (H : Heap) (locs : List Loc) (ls : Array Slot), kk = 4 - u → (u ≤ 3) → (∀ v, v < u → n * dgl v (tp (P a)) 0 ≤ 12) → hp_st D vC lo M sg.heap H locs → lv_has ls 6 [(0, .ref xa), (1, .int (nI r)), (2, .int (nI a)), (3, .int (nI n)), (4, .ref (A (si a))), (5, .int (nI u))] → cW pg l eg sg mg [.ref xa, .int (nI r), .int (nI a), .int (nI n)] bw mt cg y_H_power b_H_power 6 (some .boolean) 5 D lo (fun r9 M' => r9 = some (.int (nI 1)) ∧ cs Y M' xa A p (va_up P r (pwP p (P a) n)) (va_up cap (si 12) (cpw p (P a) (cap (si 12)) n)) (sw si r) rf ∧ hp_off (fun i => i < 300) M M') nx (cpw p (P a) (cap (si 12)) n - cap (si 12)) (4 * (cpw p (P a) (cap (si 12)) n - cap (si 12))) H locs 0 0 (F0 mg 37 ls []) := by
        intro kk
        induction kk using Nat.strongRecOn with
        | _ kk ihLP =>
        intro u H locs ls hkk hu9 hok hst hl
        refine lv_iload hx hb dH_power_37 (lv_at hl 5 rfl) ?_
        refine lv_iconst (v := nI 3) hx hb dH_power_39 (by decide +kernel) ?_
        refine lv_icmp_ge hx hb dH_power_40 (tgt := 68) rfl (fun hc => ?_) (fun hc => ?_)
        · skip
          have hc7 : 3 ≤ u := (nI_leI (by omega) (by omega)).mp hc
          refine lv_aload_n hx hb dH_power_68 rfl (lv_at hl 0 rfl) ?_
          refine hp_get hx hb hG in_H hown hK hst x0 rfl 5 (by decide) (hG _ fl_H_44) rfl rfl dH_power_69 ?_
          refine lv_iconst (v := nI 1) hx hb dH_power_72 (by decide +kernel) ?_
          obtain ⟨fs12, cell12⟩ := hS.cell
          refine ct_callV (av2 := [.int (nI 1)]) (rest := []) (b := (A (si 12))) X hst (c_P_becomeNumber l D Y lo hS (x := 1) (by omega) (by omega)) cell12 rfl wc_P_becomeNumber ml_H_55 wi_P_becomeNumber wl_P_becomeNumber wn_P md_P_becomeNumber (by decide) hl.1 rfl (Nat.le_of_ble_eq_true rfl) ⟨by omega, by omega⟩ (fun _ _ h => h.elim) dH_power_73 (fun r M' H locs hp hst => ?_)
          obtain ⟨rfl, hp1, ho1⟩ := hp
          rw [← tp_cst] at hp1
          refine lv_iconst (v := nI 0) hx hb dH_power_76 (by decide +kernel) ?_
          refine lv_istore (lv' := [(5, .int (nI 0)), (0, .ref xa), (1, .int (nI r)), (2, .int (nI a)), (3, .int (nI n)), (4, .ref (A (si a)))]) hx hb dH_power_77 hl (by decide) rfl (fun ls hl => ?_)
          refine W.widen (k := cpw p (P a) (cap (si 12)) 0 - cap (si 12)) (n := 4 * (cpw p (P a) (cap (si 12)) 0 - cap (si 12))) (by omega) (by omega) ?_
          have LQ : ∀ (kk : Nat) (i : Nat) (M1 : Hm) (H : Heap) (locs : List Loc) (ls : Array Slot), kk = n - i → (i ≤ n) → (po Y M1 (si 12) (A (si 12)) (cpw p (P a) (cap (si 12)) i) (tp (pwP p (P a) i))) → (sh Y M1 (A 1) (A 0) (fun _ => 0)) → (hp_off (fun j => j = 2 ∨ j = si 12) M M1) → hp_st D vC lo M1 sg.heap H locs → lv_has ls 6 [(0, .ref xa), (1, .int (nI r)), (2, .int (nI a)), (3, .int (nI n)), (4, .ref (A (si a))), (5, .int (nI i))] → cW pg l eg sg mg [.ref xa, .int (nI r), .int (nI a), .int (nI n)] bw mt cg y_H_power b_H_power 6 (some .boolean) 5 D lo (fun r9 M' => r9 = some (.int (nI 1)) ∧ cs Y M' xa A p (va_up P r (pwP p (P a) n)) (va_up cap (si 12) (cpw p (P a) (cap (si 12)) n)) (sw si r) rf ∧ hp_off (fun i => i < 300) M M') nx (cpw p (P a) (cap (si 12)) n - cap (si 12)) (4 * (cpw p (P a) (cap (si 12)) n - cap (si 12))) H locs (cpw p (P a) (cap (si 12)) i - cap (si 12)) (4 * (cpw p (P a) (cap (si 12)) i - cap (si 12))) (F0 mg 79 ls []) := by
            intro kk
            induction kk using Nat.strongRecOn with
            | _ kk ihLQ =>
            intro i M1 H locs ls hkk hi9 hsp hsh ho hst hl
            have hcmw := cpw_le p (P a) hc18 i
            have hge := cpw_ge p (P a) (cap (si 12)) i
            have hmn := cpw_mono p (P a) (cap (si 12)) (n := n) hi9
            have x0a := ho.of x0 (by omega)
            have hfa := hf.off ho (by omega)
            have hPa := (hP a ha).off ho (by omega)
            obtain ⟨fst, cellt⟩ := hsh.cell
            refine lv_iload hx hb dH_power_79 (lv_at hl 5 rfl) ?_
            refine lv_iload_n hx hb dH_power_81 rfl (lv_at hl 3 rfl) ?_
            refine lv_icmp_ge hx hb dH_power_82 (tgt := 115) rfl (fun hc => ?_) (fun hc => ?_)
            · skip
              have hc6 : n ≤ i := (nI_leI (by omega) (by omega)).mp hc
              have hin : i = n := by omega
              subst hin
              have hcsS := hcs0.spr ho hsh hsp hcmw
              have hsp9 : po Y M1 (si 12) (A (si 12)) (va_up cap (si 12) (cpw p (P a) (cap (si 12)) i) (si 12)) (tp (pwP p (P a) i)) := by rw [va_up_self]; exact hsp
              refine lv_aload_n hx hb dH_power_115 rfl (lv_at hl 0 rfl) ?_
              refine lv_iload_n hx hb dH_power_116 rfl (lv_at hl 1 rfl) ?_
              refine ct_callV (av2 := [.int (nI r)]) (rest := []) (b := xa) X hst (c_H_exchangeSpare l D Y lo hcsS hr hsp9 (pwP_lt hpp (P a) i)) x0a rfl wc_H_exchangeSpare ml_H_99 wi_H_exchangeSpare wl_H_exchangeSpare wn_H md_H_exchangeSpare (by decide) hl.1 rfl (Nat.le_of_ble_eq_true rfl) ⟨by omega, by omega⟩ (fun _ _ h => h.elim) dH_power_117 (fun r M' H locs hp hst => ?_)
              obtain ⟨rfl, hcsT, hoT⟩ := hp
              refine lv_iconst (v := nI 1) hx hb dH_power_120 (by decide +kernel) ?_
              exact ct_zret X hst (by omega) ⟨rfl, hcsT, (ho.wk (fun i hi => by omega : ∀ j, (j = 2 ∨ j = si 12) → j < 300)).tr (hoT.wk (fun i hi => by omega))⟩ (by omega) (by omega) dH_power_121
            · skip
              have hc6 : ¬ n ≤ i := fun z => hc ((nI_leI (by omega) (by omega)).mpr z)
              have hmn2 := cpw_mono p (P a) (cap (si 12)) (i := i + 1) (n := n) (by omega)
              have hge2 := gcn_ge (td (pwP p (P a) (i + 1)) 9139).length (cpw p (P a) (cap (si 12)) i) 0
              have hcw1 : cpw p (P a) (cap (si 12)) (i + 1) = gcn (cpw p (P a) (cap (si 12)) i) 0 (td (pwP p (P a) (i + 1)) 9139).length := rfl
              have hdd : ∀ u, u < 3 → dgl u (tp (pwP p (P a) i)) 0 + dgl u (tp (P a)) 0 ≤ 12 := fun u hu => by
                have h1 := pwP_deg hpp hdg (i := i) (by omega) u hu
                have h2 := hdg u hu
                have h3 : (i + 1) * dgl u (tp (P a)) 0 ≤ n * dgl u (tp (P a)) 0 := Nat.mul_le_mul_right _ (by omega)
                rw [Nat.add_mul, Nat.one_mul] at h3
                omega
              have hmm := mul_mv hdd (fun q hq => (tp_mem hq).1) (fun q hq => (tp_mem hq).1)
              refine lv_aload_n hx hb dH_power_85 rfl (lv_at hl 0 rfl) ?_
              refine hp_get hx hb hG in_H hown hK hst x0a rfl 1 (by decide) (hG _ fl_H_32) rfl rfl dH_power_86 ?_
              refine lv_aload_n hx hb dH_power_89 rfl (lv_at hl 0 rfl) ?_
              refine hp_get hx hb hG in_H hown hK hst x0a rfl 5 (by decide) (hG _ fl_H_44) rfl rfl dH_power_90 ?_
              refine lv_aload hx hb dH_power_93 (lv_at hl 4 rfl) ?_
              refine ct_callV (av2 := [.ref (A (si 12)), .ref (A (si a))]) (rest := []) (b := (A 1)) X hst (c_S_addProduct l D Y lo hsh hfa (fun _ => by omega) hsp (by omega) hPa (by omega) (fun q hq => ⟨by rw [(tp_mem hq).2.1]; exact pwP_lt hpp (P a) i _, fun q2 hq2 => ⟨(hmm q hq q2 hq2).1, by rw [(tp_mem hq2).2.1]; exact hPp a ha _⟩⟩)) cellt rfl wc_S_addProduct ml_H_92 wi_S_addProduct wl_S_addProduct wn_S md_S_addProduct (by decide) hl.1 rfl (Nat.le_of_ble_eq_true rfl) ⟨by omega, by omega⟩ (fun _ _ h => h.elim) dH_power_95 (fun r M' H locs hp hst => ?_)
              obtain ⟨rfl, hs3, ho3⟩ := hp
              have hs3 : sh Y M' (A 1) (A 0) (pwP p (P a) (i + 1)) := hs3
              have hoo := ho.tr (ho3.wk (fun j hj => Or.inl hj : ∀ j, j = 2 → (j = 2 ∨ j = si 12)))
              have x0b := hoo.of x0 (by omega)
              have hspb := hsp.off ho3 (by omega)
              obtain ⟨fsu, cellu⟩ := hs3.cell
              have hcp2 := pwP_lt hpp (P a) (i + 1)
              refine lv_aload_n hx hb dH_power_98 rfl (lv_at hl 0 rfl) ?_
              refine hp_get hx hb hG in_H hown hK hst x0b rfl 1 (by decide) (hG _ fl_H_32) rfl rfl dH_power_99 ?_
              refine lv_aload_n hx hb dH_power_102 rfl (lv_at hl 0 rfl) ?_
              refine hp_get hx hb hG in_H hown hK hst x0b rfl 5 (by decide) (hG _ fl_H_44) rfl rfl dH_power_103 ?_
              refine ct_callV (av2 := [.ref (A (si 12))]) (rest := []) (b := (A 1)) X hst (c_S_moveTo l D Y lo hs3 hspb (by omega) hcmw (fun m => by have := hcp2 m; omega)) cellu rfl wc_S_moveTo ml_H_81 wi_S_moveTo wl_S_moveTo wn_S md_S_moveTo (by decide) hl.1 rfl (Nat.le_of_ble_eq_true rfl) ⟨by omega, by omega⟩ (fun _ _ h => h.elim) dH_power_106 (fun r M' H locs hp hst => ?_)
              obtain ⟨rfl, hp6, hs6, ho6⟩ := hp
              refine W.widen (k := cpw p (P a) (cap (si 12)) (i + 1) - cap (si 12)) (n := 4 * (cpw p (P a) (cap (si 12)) (i + 1) - cap (si 12))) (by omega) (by omega) ?_
              refine lv_iinc (lv' := [(5, .int (nI (i + 1))), (0, .ref xa), (1, .int (nI r)), (2, .int (nI a)), (3, .int (nI n)), (4, .ref (A (si a)))]) hx hb dH_power_109 hl (k := 5) rfl (ii_p _) (by decide) rfl (fun ls hl => ?_)
              refine lv_goto hx hb dH_power_112 (tgt := 79) rfl ?_
              exact ihLQ _ (by omega) (i + 1) M' _ _ _ rfl (by omega) hp6 hs6 (hoo.tr ho6) hst (lv_sub hl [1, 2, 3, 4, 5, 0] rfl)
          exact LQ _ 0 M' _ _ _ rfl (by omega) hp1 (hs.off ho1 (by omega)) (ho1.wk (fun j hj => Or.inr hj)) hst (lv_sub hl [1, 2, 3, 4, 5, 0] rfl)
        · skip
          have hc7 : ¬ 3 ≤ u := fun z => hc ((nI_leI (by omega) (by omega)).mpr z)
          have hu : u < 3 := by omega
          have d1 := dgl_lt (v := u) (g := 0) (L := tp (P a)) (by omega)
          have d2 : n * dgl u (tp (P a)) 0 ≤ 100 * 64 := Nat.mul_le_mul hn (by omega)
          refine lv_iload_n hx hb dH_power_43 rfl (lv_at hl 3 rfl) ?_
          refine lv_aload hx hb dH_power_44 (lv_at hl 4 rfl) ?_
          refine lv_iload hx hb dH_power_46 (lv_at hl 5 rfl) ?_
          refine ct_callV (av2 := [.int (nI u)]) (rest := [.int (nI n)]) (b := (A (si a))) X hst (c_P_degreeIn l D Y lo (hP a ha) hu (fun q hq => (tp_b hpp3 (hPp a ha) q hq).1)) cell_a rfl wc_P_degreeIn ml_H_85 wi_P_degreeIn wl_P_degreeIn wn_P md_P_degreeIn (by decide) hl.1 rfl (Nat.le_of_ble_eq_true rfl) ⟨by omega, by omega⟩ (fun _ _ h => h.elim) dH_power_48 (fun r M' H locs hp hst => ?_)
          obtain ⟨rfl, rfl⟩ := hp
          refine t_imul hx hb dH_power_51 (v := nI (n * (dgl u (tp (P a)) 0))) (pk_mul _ _) ?_
          refine lv_bipush (v := nI 12) hx hb dH_power_52 (by decide +kernel) ?_
          refine lv_icmp_le hx hb dH_power_54 (tgt := 62) rfl (fun hc => ?_) (fun hc => ?_)
          · skip
            have hc8 : (n * (dgl u (tp (P a)) 0)) ≤ 12 := (nI_leI (by omega) (by omega)).mp hc
            refine lv_iinc (lv' := [(5, .int (nI (u + 1))), (0, .ref xa), (1, .int (nI r)), (2, .int (nI a)), (3, .int (nI n)), (4, .ref (A (si a)))]) hx hb dH_power_62 hl (k := 5) rfl (ii_p _) (by decide) rfl (fun ls hl => ?_)
            refine lv_goto hx hb dH_power_65 (tgt := 37) rfl ?_
            exact ihLP _ (by omega) (u + 1) _ _ _ rfl (by omega) (fun v hv => by
                by_cases h9 : v = u
                · subst h9; exact hc8
                · exact hok v (by omega)) hst (lv_sub hl [1, 2, 3, 4, 5, 0] rfl)
          · skip
            have hc8 : ¬ (n * (dgl u (tp (P a)) 0)) ≤ 12 := fun z => hc ((nI_leI (by omega) (by omega)).mpr z)
            exact absurd (hdg u hu) hc8
      exact LP _ 0 _ _ _ rfl (by omega) (fun v hv => by omega) hst (lv_sub hl [2, 3, 4, 5, 1, 0] rfl)
    · skip
      have hc9 : ¬ n ≤ 100 := fun z => hc ((nI_leI (by omega) (by omega)).mpr z)
      exact absurd hc9 (by omega)

set_option maxHeartbeats 4000000 in
set_option maxRecDepth 100000 in
theorem n_H_power (l : Launch) (D : va_G) (Y : Nat → ClassId) (lo : Nat) {M : Hm} {xa p rf : Nat} {A cap si : Nat → Nat} {P : Nat → Pf} (hcs : cs Y M xa A p P cap si rf) {r a n : Nat} (hr : r < 12) (ha : a < 12) (hn : n ≤ 100) (hdg : ¬ ∀ u, u < 3 → n * dgl u (tp (P a)) 0 ≤ 12) : ct l D Y lo y_H_power b_H_power 6 (some .boolean) 5 [.ref xa, .int (nI r), .int (nI a), .int (nI n)] M (fun r9 M' => r9 = some (.int (nI 0)) ∧ cs Y M' xa A p P cap si (rf + 1) ∧ hp_off (fun i => i < 300) M M') nx 0 0 := by
  refine ct_of (by decide) (Nat.le_of_ble_eq_true rfl) ?_
  intro pg eg sg mg bw mt cg ls X hst hl
  have X1 := X
  obtain ⟨hx, hb, hml, hrt, hlocks, hown, hnm, hts, hkz, hex⟩ := X1
  have hG : ∀ w ∈ GW, w.before _ sg = true := fun w h => hts w (List.mem_cons_of_mem _ h)
  have hK := hkz.1
  have hl : lv_has ls 6 [(0, .ref xa), (1, .int (nI r)), (2, .int (nI a)), (3, .int (nI n))] := hl
  have hcs0 := hcs
  obtain ⟨x0, ⟨gr, x1, hgr⟩, ⟨gn, x2, hgn⟩, ⟨hf, hpr⟩, hs, ⟨gw, ht⟩, ⟨hs1, hs2⟩, hP, ⟨LS, hS⟩, hN, hc1, hc2, hPp⟩ := hcs
  have hpp := hf.2.1
  have hpp3 := hf.2.2
  have hf0 := hf.1
  refine lv_iload_n hx hb dH_power_0 rfl (lv_at hl 1 rfl) ?_
  refine ct_callS (av2 := [.int (nI r)]) (rest := []) X hst (c_H_checkRegister l D Y lo hr) wc_H_checkRegister ml_H_48 ws_H_checkRegister wn_H md_H_checkRegister (by decide) hl.1 rfl (Nat.le_of_ble_eq_true rfl) ⟨by omega, by omega⟩ (fun _ _ h => h.elim) dH_power_1 (fun r M' H locs hp hst => ?_)
  obtain ⟨rfl, rfl⟩ := hp
  refine lv_iload_n hx hb dH_power_4 rfl (lv_at hl 2 rfl) ?_
  refine ct_callS (av2 := [.int (nI a)]) (rest := []) X hst (c_H_checkRegister l D Y lo ha) wc_H_checkRegister ml_H_48 ws_H_checkRegister wn_H md_H_checkRegister (by decide) hl.1 rfl (Nat.le_of_ble_eq_true rfl) ⟨by omega, by omega⟩ (fun _ _ h => h.elim) dH_power_5 (fun r M' H locs hp hst => ?_)
  obtain ⟨rfl, rfl⟩ := hp
  have hs_r := hs1 r (by omega)
  have hs_a := hs1 a (by omega)
  have hs_12 := hs1 12 (by omega)
  have hne : si a ≠ si 12 := fun z => by have := hs2 a 12 (by omega) (by omega) z; omega
  have hc18 := hc1 12 (by omega)
  obtain ⟨fs_a, cell_a⟩ := (hP a ha).cell
  refine lv_iload_n hx hb dH_power_8 rfl (lv_at hl 3 rfl) ?_
  refine lv_if_lt hx hb dH_power_9 (tgt := 18) rfl (fun hc => ?_) (fun hc => ?_)
  · skip
    rw [← nI_0] at hc
    have hc9 : n < 0 := (nI_ltI (by omega) (by omega)).mp hc
    exact absurd hc9 (by omega)
  · skip
    rw [← nI_0] at hc
    have hc9 : ¬ n < 0 := fun z => hc ((nI_ltI (by omega) (by omega)).mpr z)
    refine lv_iload_n hx hb dH_power_12 rfl (lv_at hl 3 rfl) ?_
    refine lv_bipush (v := nI 100) hx hb dH_power_13 (by decide +kernel) ?_
    refine lv_icmp_le hx hb dH_power_15 (tgt := 26) rfl (fun hc => ?_) (fun hc => ?_)
    · skip
      have hc9 : n ≤ 100 := (nI_leI (by omega) (by omega)).mp hc
      refine lv_aload_n hx hb dH_power_26 rfl (lv_at hl 0 rfl) ?_
      refine hp_get hx hb hG in_H hown hK hst x0 rfl 3 (by decide) (hG _ fl_H_11) rfl rfl dH_power_27 ?_
      refine lv_iload_n hx hb dH_power_30 rfl (lv_at hl 2 rfl) ?_
      refine hp_aald hx hb hK rfl hst x1 (j := a) (v := (A (si a))) (by omega) (by omega) (hgr a ha) dH_power_31 ?_
      refine lv_astore (lv' := [(4, .ref (A (si a))), (0, .ref xa), (1, .int (nI r)), (2, .int (nI a)), (3, .int (nI n))]) hx hb dH_power_32 hl (by decide) rfl (fun ls hl => ?_)
      refine lv_iconst (v := nI 0) hx hb dH_power_34 (by decide +kernel) ?_
      refine lv_istore (lv' := [(5, .int (nI 0)), (4, .ref (A (si a))), (0, .ref xa), (1, .int (nI r)), (2, .int (nI a)), (3, .int (nI n))]) hx hb dH_power_35 hl (by decide) rfl (fun ls hl => ?_)
      have LP : ∀ (kk : Nat) (u : Nat) (H : Heap) (locs : List Loc) (ls : Array Slot), kk = 4 - u → (u ≤ 3) → (∀ v, v < u → n * dgl v (tp (P a)) 0 ≤ 12) → hp_st D vC lo M sg.heap H locs → lv_has ls 6 [(0, .ref xa), (1, .int (nI r)), (2, .int (nI a)), (3, .int (nI n)), (4, .ref (A (si a))), (5, .int (nI u))] → cW pg l eg sg mg [.ref xa, .int (nI r), .int (nI a), .int (nI n)] bw mt cg y_H_power b_H_power 6 (some .boolean) 5 D lo (fun r9 M' => r9 = some (.int (nI 0)) ∧ cs Y M' xa A p P cap si (rf + 1) ∧ hp_off (fun i => i < 300) M M') nx 0 0 H locs 0 0 (F0 mg 37 ls []) := by
        intro kk
        induction kk using Nat.strongRecOn with
        | _ kk ihLP =>
        intro u H locs ls hkk hu9 hok hst hl
        refine lv_iload hx hb dH_power_37 (lv_at hl 5 rfl) ?_
        refine lv_iconst (v := nI 3) hx hb dH_power_39 (by decide +kernel) ?_
        refine lv_icmp_ge hx hb dH_power_40 (tgt := 68) rfl (fun hc => ?_) (fun hc => ?_)
        · skip
          have hc7 : 3 ≤ u := (nI_leI (by omega) (by omega)).mp hc
          exact absurd (fun u hu => hok u (by omega)) hdg
        · skip
          have hc7 : ¬ 3 ≤ u := fun z => hc ((nI_leI (by omega) (by omega)).mpr z)
          have hu : u < 3 := by omega
          have d1 := dgl_lt (v := u) (g := 0) (L := tp (P a)) (by omega)
          have d2 : n * dgl u (tp (P a)) 0 ≤ 100 * 64 := Nat.mul_le_mul hn (by omega)
          refine lv_iload_n hx hb dH_power_43 rfl (lv_at hl 3 rfl) ?_
          refine lv_aload hx hb dH_power_44 (lv_at hl 4 rfl) ?_
          refine lv_iload hx hb dH_power_46 (lv_at hl 5 rfl) ?_
          refine ct_callV (av2 := [.int (nI u)]) (rest := [.int (nI n)]) (b := (A (si a))) X hst (c_P_degreeIn l D Y lo (hP a ha) hu (fun q hq => (tp_b hpp3 (hPp a ha) q hq).1)) cell_a rfl wc_P_degreeIn ml_H_85 wi_P_degreeIn wl_P_degreeIn wn_P md_P_degreeIn (by decide) hl.1 rfl (Nat.le_of_ble_eq_true rfl) ⟨by omega, by omega⟩ (fun _ _ h => h.elim) dH_power_48 (fun r M' H locs hp hst => ?_)
          obtain ⟨rfl, rfl⟩ := hp
          refine t_imul hx hb dH_power_51 (v := nI (n * (dgl u (tp (P a)) 0))) (pk_mul _ _) ?_
          refine lv_bipush (v := nI 12) hx hb dH_power_52 (by decide +kernel) ?_
          refine lv_icmp_le hx hb dH_power_54 (tgt := 62) rfl (fun hc => ?_) (fun hc => ?_)
          · skip
            have hc8 : (n * (dgl u (tp (P a)) 0)) ≤ 12 := (nI_leI (by omega) (by omega)).mp hc
            refine lv_iinc (lv' := [(5, .int (nI (u + 1))), (0, .ref xa), (1, .int (nI r)), (2, .int (nI a)), (3, .int (nI n)), (4, .ref (A (si a)))]) hx hb dH_power_62 hl (k := 5) rfl (ii_p _) (by decide) rfl (fun ls hl => ?_)
            refine lv_goto hx hb dH_power_65 (tgt := 37) rfl ?_
            exact ihLP _ (by omega) (u + 1) _ _ _ rfl (by omega) (fun v hv => by
                by_cases h9 : v = u
                · subst h9; exact hc8
                · exact hok v (by omega)) hst (lv_sub hl [1, 2, 3, 4, 5, 0] rfl)
          · skip
            have hc8 : ¬ (n * (dgl u (tp (P a)) 0)) ≤ 12 := fun z => hc ((nI_leI (by omega) (by omega)).mpr z)
            refine lv_aload_n hx hb dH_power_57 rfl (lv_at hl 0 rfl) ?_
            refine ct_callV (av2 := []) (rest := []) (b := xa) X hst (c_H_refuse l D Y lo hcs0) x0 rfl wc_H_refuse ml_H_88 wi_H_refuse wl_H_refuse wn_H md_H_refuse (by decide) hl.1 rfl (Nat.le_of_ble_eq_true rfl) ⟨by omega, by omega⟩ (fun _ _ h => h.elim) dH_power_58 (fun r M' H locs hp hst => ?_)
            obtain ⟨rfl, hcs1, ho1⟩ := hp
            exact ct_zret X hst (by omega) ⟨rfl, hcs1, ho1.wk (fun i hi => by omega)⟩ (by omega) (by omega) dH_power_61
      exact LP _ 0 _ _ _ rfl (by omega) (fun v hv => by omega) hst (lv_sub hl [2, 3, 4, 5, 1, 0] rfl)
    · skip
      have hc9 : ¬ n ≤ 100 := fun z => hc ((nI_leI (by omega) (by omega)).mpr z)
      exact absurd hc9 (by omega)

set_option maxHeartbeats 4000000 in
set_option maxRecDepth 100000 in
theorem x_H_power (l : Launch) (D : va_G) (Y : Nat → ClassId) (lo : Nat) (hlt : l.stackTraces = false) {M : Hm} {xa : Nat} {x1 x2 x3 : Int32} (hno : ¬ ((inR x1 ∧ inR x2) ∧ ∃ n : Nat, n ≤ 100 ∧ x3 = nI n)) : ct l D Y lo y_H_power b_H_power 6 (some .boolean) 7 [.ref xa, .int x1, .int x2, .int x3] M (fun _ _ => False) (fun E M' => M = M' ∧ (E = EI ∧ ¬ (inR x1 ∧ inR x2) ∨ E = EA ∧ (inR x1 ∧ inR x2))) 3 18 := by
  refine ct_of (by decide) (Nat.le_of_ble_eq_true rfl) ?_
  intro pg eg sg mg bw mt cg ls X hst hl
  have X1 := X
  obtain ⟨hx, hb, hml, hrt, hlocks, hown, hnm, hts, hkz, hex⟩ := X1
  have hG : ∀ w ∈ GW, w.before _ sg = true := fun w h => hts w (List.mem_cons_of_mem _ h)
  have hK := hkz.1
  have hl : lv_has ls 6 [(0, .ref xa), (1, .int x1), (2, .int x2), (3, .int x3)] := hl
  refine lv_iload_n hx hb dH_power_0 rfl (lv_at hl 1 rfl) ?_
  refine ct_callS (av2 := [.int x1]) (rest := []) X hst (x_cr_call hlt x1 M) wc_H_checkRegister ml_H_48 ws_H_checkRegister wn_H md_H_checkRegister (by decide) hl.1 rfl (Nat.le_of_ble_eq_true rfl) ⟨by omega, by omega⟩ (fun E M1 h => ⟨h.2.1, Or.inl ⟨h.1, fun z => h.2.2 z.1⟩⟩) dH_power_1 (fun r M' H locs hp hst => ?_)
  obtain ⟨rfl, rfl, h1⟩ := hp
  refine lv_iload_n hx hb dH_power_4 rfl (lv_at hl 2 rfl) ?_
  refine ct_callS (av2 := [.int x2]) (rest := []) X hst (x_cr_call hlt x2 M) wc_H_checkRegister ml_H_48 ws_H_checkRegister wn_H md_H_checkRegister (by decide) hl.1 rfl (Nat.le_of_ble_eq_true rfl) ⟨by omega, by omega⟩ (fun E M1 h => ⟨h.2.1, Or.inl ⟨h.1, fun z => h.2.2 z.2⟩⟩) dH_power_5 (fun r M' H locs hp hst => ?_)
  obtain ⟨rfl, rfl, h2⟩ := hp
  refine lv_iload_n hx hb dH_power_8 rfl (lv_at hl 3 rfl) ?_
  refine lv_if_lt hx hb dH_power_9 (tgt := 18) rfl (fun hc => ?_) (fun hc => ?_)
  · skip
    exact ct_throw (cls := EA) (ik := 96) (ic := 98) X hst hlt rfl (by decide +kernel) cl_H_96 wn_IllegalArgumentException at_A gd_A hl.1 (by decide) (Nat.le_of_ble_eq_true rfl) (by omega) (by omega) ⟨rfl, Or.inr ⟨rfl, h1, h2⟩⟩ dH_power_18 dH_power_21 dH_power_22 dH_power_25
  · skip
    have n1 := hc
    refine lv_iload_n hx hb dH_power_12 rfl (lv_at hl 3 rfl) ?_
    refine lv_bipush (v := nI 100) hx hb dH_power_13 (by decide +kernel) ?_
    refine lv_icmp_le hx hb dH_power_15 (tgt := 26) rfl (fun hc => ?_) (fun hc => ?_)
    · obtain ⟨k3, hk3, rfl⟩ := nI_of n1
      exact absurd ⟨⟨h1, h2⟩, k3, (nI_leI hk3 (by omega)).mp hc, rfl⟩ hno
    · skip
      exact ct_throw (cls := EA) (ik := 96) (ic := 98) X hst hlt rfl (by decide +kernel) cl_H_96 wn_IllegalArgumentException at_A gd_A hl.1 (by decide) (Nat.le_of_ble_eq_true rfl) (by omega) (by omega) ⟨rfl, Or.inr ⟨rfl, h1, h2⟩⟩ dH_power_18 dH_power_21 dH_power_22 dH_power_25
end
section
/-! Derivatives and quotients as lists in order. -/
theorem cS_lt {p m : Nat} (hp : 0 < p) : ∀ {L : List (Nat × Nat)} {n : Nat}, bl n L → (∀ q ∈ L, q.2 < p) → cS 0 m L < p := by
  intro L
  induction L with
  | nil => intro n _ _; exact hp
  | cons q qs ih =>
    intro n hb hq
    obtain ⟨h1, h2, h3, h4⟩ := hb
    show (if q.1 + 0 = m then q.2 else 0) + cS 0 m qs < p
    by_cases he : q.1 + 0 = m
    · have hz : cS 0 m qs = 0 := cS_zero (fun q' hq' e => by
        have h5 := (bl_lt h4 q' hq').1
        rw [Nat.add_zero] at he e
        rw [e, ← he] at h5
        omega)
      rw [if_pos he, hz, Nat.add_zero]
      exact hq q List.mem_cons_self
    · rw [if_neg he, Nat.zero_add]
      exact ih h4 (fun q' hq' => hq q' (List.mem_cons_of_mem _ hq'))
/-- the polynomial of a list in order -/
def lsP (L : List (Nat × Nat)) : Pf := fun m => cS 0 m L
theorem tp_ls {L : List (Nat × Nat)} (h : bl 9139 L) : tp (lsP L) = L := td_of (Nat.le_refl _) h (fun r _ => rfl)
theorem rk_le {m n : Nat} (h : mv m) (h' : mv n) (hle : rk m ≤ rk n) : m ≤ n := by
  rcases Nat.lt_or_ge n m with hl | hl
  · have := rk_mono h' h hl; omega
  · exact hl
def der (p v : Nat) : List (Nat × Nat) → List (Nat × Nat)
  | [] => []
  | q :: qs => if xe q.1 v % p ≠ 0 then (q.1 - vv v, xe q.1 v % p * q.2 % p) :: der p v qs else der p v qs
theorem der_y {p v : Nat} {q : Nat × Nat} {qs : List (Nat × Nat)} (h : ¬ xe q.1 v % p = 0) : der p v (q :: qs) = (q.1 - vv v, xe q.1 v % p * q.2 % p) :: der p v qs := by
  show (if _ then _ else _) = _
  rw [if_pos h]
theorem der_n {p v : Nat} {q : Nat × Nat} {qs : List (Nat × Nat)} (h : xe q.1 v % p = 0) : der p v (q :: qs) = der p v qs := by
  show (if _ then _ else _) = _
  rw [if_neg (fun z => z h)]
theorem der_len {p v : Nat} : ∀ L : List (Nat × Nat), (der p v L).length ≤ L.length
  | [] => Nat.le_refl _
  | q :: qs => by
    have := der_len (p := p) (v := v) qs
    by_cases h : xe q.1 v % p = 0
    · rw [der_n h, List.length_cons]; omega
    · rw [der_y h, List.length_cons, List.length_cons]; omega
theorem sv_mv {k v : Nat} (hk : mv k) (hv : v < 3) (h : xe k v ≠ 0) : vv v ≤ k ∧ mv (k - vv v) := by
  obtain ⟨a, b, c, hs, rfl⟩ := mv_of hk
  have h' : a + b + c < 64 := by omega
  rcases (show v = 0 ∨ v = 1 ∨ v = 2 by omega) with rfl | rfl | rfl
  · rw [mp_x0 h'] at h
    have e : mp a b c - vv 0 = mp (a - 1) b c := by show mp a b c - (262144 + 4096) = _; unfold mp; omega
    exact ⟨by show 262144 + 4096 ≤ _; unfold mp; omega, by rw [e]; exact mv_mp (by omega)⟩
  · rw [mp_x1 h'] at h
    have e : mp a b c - vv 1 = mp a (b - 1) c := by show mp a b c - (262144 + 64) = _; unfold mp; omega
    exact ⟨by show 262144 + 64 ≤ _; unfold mp; omega, by rw [e]; exact mv_mp (by omega)⟩
  · rw [mp_x2 h'] at h
    have e : mp a b c - vv 2 = mp a b (c - 1) := by show mp a b c - (262144 + 1) = _; unfold mp; omega
    exact ⟨by show 262144 + 1 ≤ _; unfold mp; omega, by rw [e]; exact mv_mp (by omega)⟩
theorem der_mem {p v : Nat} : ∀ {L : List (Nat × Nat)} {z : Nat × Nat}, z ∈ der p v L → ∃ q ∈ L, xe q.1 v % p ≠ 0 ∧ z = (q.1 - vv v, xe q.1 v % p * q.2 % p) := by
  intro L
  induction L with
  | nil => intro z h; cases h
  | cons q qs ih =>
    intro z h
    by_cases hz : xe q.1 v % p = 0
    · rw [der_n hz] at h
      obtain ⟨q', h1, h2⟩ := ih h
      exact ⟨q', List.mem_cons_of_mem _ h1, h2⟩
    · rw [der_y hz] at h
      rcases List.mem_cons.mp h with rfl | h
      · exact ⟨q, List.mem_cons_self, hz, rfl⟩
      · obtain ⟨q', h1, h2⟩ := ih h
        exact ⟨q', List.mem_cons_of_mem _ h1, h2⟩
theorem der_bl {p v : Nat} (hp : pr p) (hv : v < 3) : ∀ {L : List (Nat × Nat)} {n : Nat}, bl n L → n ≤ 9139 → (∀ q ∈ L, q.2 < p) → bl n (der p v L) := by
  intro L
  induction L with
  | nil => intro n _ _ _; exact trivial
  | cons q qs ih =>
    intro n hb hn hq
    obtain ⟨h1, h2, h3, h4⟩ := hb
    have h5 := ih h4 (by omega) (fun q' hq' => hq q' (List.mem_cons_of_mem _ hq'))
    have up : ∀ {a b : Nat} {L : List (Nat × Nat)}, bl a L → a ≤ b → bl b L := by
      intro a b L h hk
      cases L with
      | nil => trivial
      | cons q qs => exact ⟨h.1, by have := h.2.1; omega, h.2.2⟩
    by_cases hz : xe q.1 v % p = 0
    · rw [der_n hz]
      exact up h5 (by omega)
    · rw [der_y hz]
      have hx : xe q.1 v ≠ 0 := fun z => hz (by rw [z, Nat.zero_mod])
      obtain ⟨s1, s2⟩ := sv_mv h1 hv hx
      have hp2 := hp.1
      have hvv : 0 < vv v := Nat.lt_of_lt_of_le (show 0 < 262144 by omega) (Nat.le_add_right _ _)
      have hlt := rk_mono s2 h1 (show q.1 - vv v < q.1 by omega)
      refine ⟨s2, by show rk (q.1 - vv v) < n; omega, pr_mul hp (by rw [Nat.mod_mod]; exact hz) (by rw [Nat.mod_eq_of_lt (hq q List.mem_cons_self)]; exact h3), ?_⟩
      show bl (rk (q.1 - vv v)) (der p v qs)
      -- what comes behind lies lower by the same step
      cases hd : der p v qs with
      | nil => exact trivial
      | cons z zs =>
        rw [hd] at h5
        have hzm : z ∈ der p v qs := by rw [hd]; exact List.mem_cons_self
        obtain ⟨q', hq', hne, rfl⟩ := der_mem hzm
        have hq1 := bl_lt h4 q' hq'
        have hx' : xe q'.1 v ≠ 0 := fun z => hne (by rw [z, Nat.zero_mod])
        obtain ⟨t1, t2⟩ := sv_mv hq1.2.1 hv hx'
        have hlt2 : q'.1 < q.1 := by
          rcases Nat.lt_or_ge q'.1 q.1 with h | h
          · exact h
          · rcases Nat.lt_or_ge q.1 q'.1 with h6 | h6
            · have := rk_mono h1 hq1.2.1 h6; omega
            · have : q.1 = q'.1 := by omega
              have h7 := hq1.1
              rw [this] at h7
              omega
        exact ⟨t2, rk_mono t2 s2 (by show q'.1 - vv v < q.1 - vv v; omega), h5.2.2⟩
theorem der_lt {p v : Nat} (hp : 0 < p) {L : List (Nat × Nat)} : ∀ q ∈ der p v L, q.2 < p := by
  intro z hz
  obtain ⟨q, -, -, rfl⟩ := der_mem hz
  exact Nat.mod_lt _ hp
/-- the quotient's list is in order, its numbers are no zeros -/
theorem dvQ_bl {p hi iv : Nat} {B : List (Nat × Nat)} (hp : pr p) (hhi : mv hi) (hiv : iv % p ≠ 0) : ∀ {n : Nat} {c : Pf}, n ≤ 9139 → (∀ m, c m < p) → bl 9139 (dvQ p hi iv B n c) ∧ (∀ q ∈ dvQ p hi iv B n c, q.2 < p ∧ ∃ r, r < n ∧ mlt (ur r) hi ∧ q.1 = ur r - hi) := by
  have hp0 : 0 < p := by have := hp.1; omega
  intro n
  induction n with
  | zero => intro c _ _; exact ⟨trivial, fun q hq => by cases hq⟩
  | succ n ih =>
    intro c hn hc
    by_cases h : c (ur n) ≠ 0 ∧ mlt (ur n) hi
    · rw [dvQ_y h]
      obtain ⟨i1, i2⟩ := ih (c := addL p (ng p (c (ur n) * iv % p)) (ur n - hi) B c) (by omega) (addL_lt hp0 hc)
      obtain ⟨m1, m2, m3⟩ := mlt_mp (ur_mv (by omega)) hhi h.2
      refine ⟨⟨m3, rk_lt m3, pr_mul hp (by rw [Nat.mod_eq_of_lt (hc _)]; exact h.1) hiv, ?_⟩, fun q hq => ?_⟩
      · cases hd : dvQ p hi iv B n (addL p (ng p (c (ur n) * iv % p)) (ur n - hi) B c) with
        | nil => exact trivial
        | cons z zs =>
          rw [hd] at i1 i2
          obtain ⟨_, r, hr, hm, he⟩ := i2 z List.mem_cons_self
          obtain ⟨n1, n2, n3⟩ := mlt_mp (ur_mv (by omega)) hhi hm
          have hlt := ur_lt hr (by omega)
          refine ⟨i1.1, ?_, i1.2.2⟩
          have hz1 : mv z.1 := i1.1
          exact rk_mono hz1 m3 (by show z.1 < ur n - hi; rw [he]; omega)
      · rcases List.mem_cons.mp hq with rfl | hq
        · exact ⟨Nat.mod_lt _ hp0, n, by omega, h.2, rfl⟩
        · obtain ⟨j1, r, j2, j3⟩ := i2 q hq
          exact ⟨j1, r, by omega, j3⟩
    · rw [dvQ_n h]
      obtain ⟨i1, i2⟩ := ih (c := c) (by omega) hc
      exact ⟨i1, fun q hq => by obtain ⟨j1, r, j2, j3⟩ := i2 q hq; exact ⟨j1, r, by omega, j3⟩⟩
theorem dvC_lt {p hi iv : Nat} {B : List (Nat × Nat)} (hp : 0 < p) : ∀ {n : Nat} {c : Pf}, (∀ m, c m < p) → ∀ m, dvC p hi iv B n c m < p := by
  intro n
  induction n with
  | zero => intro c hc; exact hc
  | succ n ih =>
    intro c hc
    by_cases h : c (ur n) ≠ 0 ∧ mlt (ur n) hi
    · rw [dvC_y h]; exact ih (addL_lt hp hc)
    · rw [dvC_n h]; exact ih hc
theorem pr_pow {p x : Nat} (hp : pr p) (hx : x % p ≠ 0) : ∀ n, x ^ n % p ≠ 0
  | 0 => by have := hp.1; rw [Nat.pow_zero, Nat.mod_eq_of_lt (by omega)]; omega
  | n + 1 => by rw [Nat.pow_succ]; exact pr_mul hp (pr_pow hp hx n) hx
/-- the head of a polynomial's list is its highest term -/
theorem hd_max {g : Pf} {q0 : Nat × Nat} (h : (tp g)[0]? = some q0) : ∀ q ∈ tp g, q.1 ≤ q0.1 ∧ xe q.1 0 + xe q.1 1 + xe q.1 2 ≤ xe q0.1 0 + xe q0.1 1 + xe q0.1 2 := by
  have hb := bl_td (g := g) (n := 9139) (Nat.le_refl _)
  have hq0 := List.mem_of_getElem? h
  intro q hq
  have hle : q.1 ≤ q0.1 := by
    cases hl : tp g with
    | nil => rw [hl] at hq; cases hq
    | cons a L =>
      rw [hl] at h hq
      have hb2 : bl 9139 (a :: L) := by rw [← hl]; exact hb
      cases h
      rcases List.mem_cons.mp hq with rfl | hq
      · exact Nat.le_refl _
      · have h5 := bl_lt hb2.2.2.2 q hq
        exact rk_le h5.2.1 hb2.1 (by omega)
  refine ⟨hle, ?_⟩
  have m1 := (tp_mem hq).1
  have m2 := (tp_mem hq0).1
  rw [← mv_xs m1, ← mv_xs m2]
  exact Nat.div_le_div_right hle
theorem dv_mv {g : Pf} {q0 : Nat × Nat} (h : (tp g)[0]? = some q0) : ∀ n, n < 9139 → mlt (ur n) q0.1 → ∀ q ∈ tp g, mv (q.1 + (ur n - q0.1)) := by
  intro n hn hm q hq
  have hu := ur_mv hn
  have h0 := (tp_mem (List.mem_of_getElem? h)).1
  obtain ⟨m1, m2, m3⟩ := mlt_mp hu h0 hm
  obtain ⟨k1, k2⟩ := hd_max h q hq
  have hs := hu.1
  have e0 : xe (ur n - q0.1) 0 = xe (ur n) 0 - xe q0.1 0 := by rw [m2]; exact mp_x0 (by omega)
  have e1 : xe (ur n - q0.1) 1 = xe (ur n) 1 - xe q0.1 1 := by rw [m2]; exact mp_x1 (by omega)
  have e2 : xe (ur n - q0.1) 2 = xe (ur n) 2 - xe q0.1 2 := by rw [m2]; exact mp_x2 (by omega)
  obtain ⟨l0, l1, l2⟩ := hm
  exact (xe_add (tp_mem hq).1 m3 (by rw [e0, e1, e2]; omega)).1
theorem rd_nI {p e : Nat} (h : e < 2 ^ 31) : rd p (nI e).toInt = e % p := by rw [nI_toInt h, rd_nat]
end
section
/-! The face: derive, divide. -/
set_option maxHeartbeats 4000000 in
set_option maxRecDepth 100000 in
theorem c_H_derive (l : Launch) (D : va_G) (Y : Nat → ClassId) (lo : Nat) {M : Hm} {xa p rf : Nat} {A cap si : Nat → Nat} {P : Nat → Pf} (hcs : cs Y M xa A p P cap si rf) {r a v : Nat} (hr : r < 12) (ha : a < 12) (hv : v < 3) : ct l D Y lo y_H_derive b_H_derive 8 none 3 [.ref xa, .int (nI r), .int (nI a), .int (nI v)] M (fun r9 M' => r9 = none ∧ cs Y M' xa A p (va_up P r (lsP (der p v (tp (P a))))) (va_up cap (si 12) (gcn (cap (si 12)) 0 (der p v (tp (P a))).length)) (sw si r) rf ∧ hp_off (fun i => i < 300) M M') nx (gcn (cap (si 12)) 0 (der p v (tp (P a))).length - cap (si 12)) (4 * (gcn (cap (si 12)) 0 (der p v (tp (P a))).length - cap (si 12))) := by
  refine ct_of (by decide) (Nat.le_of_ble_eq_true rfl) ?_
  intro pg eg sg mg bw mt cg ls X hst hl
  have X1 := X
  obtain ⟨hx, hb, hml, hrt, hlocks, hown, hnm, hts, hkz, hex⟩ := X1
  have hG : ∀ w ∈ GW, w.before _ sg = true := fun w h => hts w (List.mem_cons_of_mem _ h)
  have hK := hkz.1
  have hl : lv_has ls 8 [(0, .ref xa), (1, .int (nI r)), (2, .int (nI a)), (3, .int (nI v))] := hl
  have hcs0 := hcs
  obtain ⟨x0, ⟨gr, x1, hgr⟩, ⟨gn, x2, hgn⟩, ⟨hf, hpr⟩, hs, ⟨gw, ht⟩, ⟨hs1, hs2⟩, hP, ⟨LS, hS⟩, hN, hc1, hc2, hPp⟩ := hcs
  have hpp := hf.2.1
  have hpp3 := hf.2.2
  have hf0 := hf.1
  refine lv_iload_n hx hb dH_derive_0 rfl (lv_at hl 1 rfl) ?_
  refine ct_callS (av2 := [.int (nI r)]) (rest := []) X hst (c_H_checkRegister l D Y lo hr) wc_H_checkRegister ml_H_48 ws_H_checkRegister wn_H md_H_checkRegister (by decide) hl.1 rfl (Nat.le_of_ble_eq_true rfl) ⟨by omega, by omega⟩ (fun _ _ h => h.elim) dH_derive_1 (fun r M' H locs hp hst => ?_)
  obtain ⟨rfl, rfl⟩ := hp
  refine lv_iload_n hx hb dH_derive_4 rfl (lv_at hl 2 rfl) ?_
  refine ct_callS (av2 := [.int (nI a)]) (rest := []) X hst (c_H_checkRegister l D Y lo ha) wc_H_checkRegister ml_H_48 ws_H_checkRegister wn_H md_H_checkRegister (by decide) hl.1 rfl (Nat.le_of_ble_eq_true rfl) ⟨by omega, by omega⟩ (fun _ _ h => h.elim) dH_derive_5 (fun r M' H locs hp hst => ?_)
  obtain ⟨rfl, rfl⟩ := hp
  refine lv_iload_n hx hb dH_derive_8 rfl (lv_at hl 3 rfl) ?_
  refine ct_callS (av2 := [.int (nI v)]) (rest := []) X hst (c_H_checkVariable l D Y lo hv) wc_H_checkVariable ml_H_58 ws_H_checkVariable wn_H md_H_checkVariable (by decide) hl.1 rfl (Nat.le_of_ble_eq_true rfl) ⟨by omega, by omega⟩ (fun _ _ h => h.elim) dH_derive_9 (fun r M' H locs hp hst => ?_)
  obtain ⟨rfl, rfl⟩ := hp
  have hs_r := hs1 r (by omega)
  have hs_a := hs1 a (by omega)
  have hs_12 := hs1 12 (by omega)
  have hne : si a ≠ si 12 := fun z => by have := hs2 a 12 (by omega) (by omega) z; omega
  have hc18 := hc1 12 (by omega)
  have hdl := der_len (p := p) (v := v) (tp (P a))
  have htl : (tp (P a)).length ≤ 9139 := td_len _ _
  refine lv_aload_n hx hb dH_derive_12 rfl (lv_at hl 0 rfl) ?_
  refine hp_get hx hb hG in_H hown hK hst x0 rfl 3 (by decide) (hG _ fl_H_11) rfl rfl dH_derive_13 ?_
  refine lv_iload_n hx hb dH_derive_16 rfl (lv_at hl 2 rfl) ?_
  refine hp_aald hx hb hK rfl hst x1 (j := a) (v := (A (si a))) (by omega) (by omega) (hgr a ha) dH_derive_17 ?_
  refine lv_astore (lv' := [(4, .ref (A (si a))), (0, .ref xa), (1, .int (nI r)), (2, .int (nI a)), (3, .int (nI v))]) hx hb dH_derive_18 hl (by decide) rfl (fun ls hl => ?_)
  refine lv_aload_n hx hb dH_derive_20 rfl (lv_at hl 1 rfl) ?_
  refine hp_get hx hb hG in_H hown hK hst x0 rfl 5 (by decide) (hG _ fl_H_44) rfl rfl dH_derive_21 ?_
  obtain ⟨fs12, cell12⟩ := hS.cell
  refine ct_callV (av2 := []) (rest := []) (b := (A (si 12))) X hst (c_P_clear l D Y lo hS) cell12 rfl wc_P_clear ml_H_61 wi_P_clear wl_P_clear wn_P md_P_clear (by decide) hl.1 rfl (Nat.le_of_ble_eq_true rfl) ⟨by omega, by omega⟩ (fun _ _ h => h.elim) dH_derive_24 (fun r M' H locs hp hst => ?_)
  obtain ⟨rfl, hp1, ho1⟩ := hp
  refine lv_iconst (v := nI 0) hx hb dH_derive_27 (by decide +kernel) ?_
  refine lv_istore (lv' := [(5, .int (nI 0)), (4, .ref (A (si a))), (0, .ref xa), (1, .int (nI r)), (2, .int (nI a)), (3, .int (nI v))]) hx hb dH_derive_28 hl (by decide) rfl (fun ls hl => ?_)
  refine W.widen (k := cap (si 12) - cap (si 12)) (n := 4 * (cap (si 12) - cap (si 12))) (by omega) (by omega) ?_
  have LP : ∀ (kk : Nat) (i : Nat) (B : List (Nat × Nat)) (cap1 : Nat) (M1 : Hm) (H : Heap) (locs : List Loc) (ls : Array Slot), kk = (tp (P a)).length - i → (i ≤ (tp (P a)).length) → (po Y M1 (si 12) (A (si 12)) cap1 B) → (B ++ der p v ((tp (P a)).drop i) = der p v (tp (P a))) → (gcn cap1 B.length (der p v ((tp (P a)).drop i)).length = gcn (cap (si 12)) 0 (der p v (tp (P a))).length) → (hp_off (fun j => j = si 12) M M1) → (cap (si 12) ≤ cap1) → hp_st D vC lo M1 sg.heap H locs → lv_has ls 8 [(0, .ref xa), (1, .int (nI r)), (2, .int (nI a)), (3, .int (nI v)), (4, .ref (A (si a))), (5, .int (nI i))] → cW pg l eg sg mg [.ref xa, .int (nI r), .int (nI a), .int (nI v)] bw mt cg y_H_derive b_H_derive 8 none 3 D lo (fun r9 M' => r9 = none ∧ cs Y M' xa A p (va_up P r (lsP (der p v (tp (P a))))) (va_up cap (si 12) (gcn (cap (si 12)) 0 (der p v (tp (P a))).length)) (sw si r) rf ∧ hp_off (fun i => i < 300) M M') nx (gcn (cap (si 12)) 0 (der p v (tp (P a))).length - cap (si 12)) (4 * (gcn (cap (si 12)) 0 (der p v (tp (P a))).length - cap (si 12))) H locs (cap1 - cap (si 12)) (4 * (cap1 - cap (si 12))) (F0 mg 30 ls []) := by
    intro kk
    induction kk using Nat.strongRecOn with
    | _ kk ihLP =>
    intro i B cap1 M1 H locs ls hkk hi9 hsp hA hg ho hge hst hl
    have x0a := ho.of x0 (by omega)
    have hfa := hf.off ho (by omega)
    have hf0a := hfa.1
    have hPa := (hP a ha).off ho (by omega)
    obtain ⟨a9, b9, fa9, fb9, h09, h19, h29, hL9, hn9, hc19, hc29⟩ := hPa
    have hcl := gcn_ge (der p v ((tp (P a)).drop i)).length cap1 B.length
    have hlen := congrArg List.length hA
    rw [List.length_append] at hlen
    have hc9 : cap1 ≤ 18278 := by
      have h9 := gcn_le (der p v (tp (P a))).length (cap (si 12)) 0 18278 hc18 (by omega)
      omega
    refine lv_iload hx hb dH_derive_30 (lv_at hl 5 rfl) ?_
    refine lv_aload hx hb dH_derive_32 (lv_at hl 4 rfl) ?_
    refine hp_get hx hb hG in_P hown hK hst h09 rfl 2 (by decide) (hG _ fl_H_109) rfl rfl dH_derive_34 ?_
    refine lv_icmp_ge hx hb dH_derive_37 (tgt := 107) rfl (fun hc => ?_) (fun hc => ?_)
    · skip
      have hc5 : ((tp (P a)).length) ≤ i := (nI_leI (by omega) (by omega)).mp hc
      rw [List.drop_eq_nil_of_le (by omega)] at hA hg
      have hAe : B = der p v (tp (P a)) := by rw [← hA]; exact (List.append_nil B).symm
      have hce : cap1 = gcn (cap (si 12)) 0 (der p v (tp (P a))).length := hg
      have hbl := der_bl (p := p) hpr hv (bl_td (g := P a) (n := 9139) (Nat.le_refl _)) (Nat.le_refl _) (fun q hq => by rw [(tp_mem hq).2.1]; exact hPp a ha _)
      rw [hAe, ← tp_ls hbl] at hsp
      rw [hce] at hsp
      have hcsS := hcs0.spr (ho.wk (fun j hj => Or.inr hj)) (hs.off ho (by omega)) hsp (by omega)
      have hsp9 : po Y M1 (si 12) (A (si 12)) (va_up cap (si 12) (gcn (cap (si 12)) 0 (der p v (tp (P a))).length) (si 12)) (tp (lsP (der p v (tp (P a))))) := by rw [va_up_self]; exact hsp
      refine lv_aload_n hx hb dH_derive_107 rfl (lv_at hl 0 rfl) ?_
      refine lv_iload_n hx hb dH_derive_108 rfl (lv_at hl 1 rfl) ?_
      refine ct_callV (av2 := [.int (nI r)]) (rest := []) (b := xa) X hst (c_H_exchangeSpare l D Y lo hcsS hr hsp9 (fun m => cS_lt (by omega) hbl (der_lt (by omega)))) x0a rfl wc_H_exchangeSpare ml_H_99 wi_H_exchangeSpare wl_H_exchangeSpare wn_H md_H_exchangeSpare (by decide) hl.1 rfl (Nat.le_of_ble_eq_true rfl) ⟨by omega, by omega⟩ (fun _ _ h => h.elim) dH_derive_109 (fun r M' H locs hp hst => ?_)
      obtain ⟨rfl, hcsT, hoT⟩ := hp
      exact ct_vret X hst ⟨rfl, hcsT, (ho.wk (fun i hi => by omega : ∀ j, j = si 12 → j < 300)).tr (hoT.wk (fun i hi => by omega))⟩ (by omega) (by omega) dH_derive_112
    · skip
      have hc5 : ¬ ((tp (P a)).length) ≤ i := fun z => hc ((nI_leI (by omega) (by omega)).mpr z)
      obtain ⟨q, hq1, hq2, hq3⟩ := dr_cons (L := tp (P a)) (i := i) (by omega)
      obtain ⟨i1, i2⟩ := hL9 i q hq1
      obtain ⟨m1, m2, m3⟩ := tp_mem hq2
      have m4 := mv_lt m1
      have hxl := xe_lt q.1 v
      have hqp : q.2 < p := by rw [m2]; exact hPp a ha _
      have hmod := Nat.mod_lt (xe q.1 v) (show 0 < p by omega)
      rw [hq3] at hA hg hcl
      refine lv_aload hx hb dH_derive_40 (lv_at hl 4 rfl) ?_
      refine hp_get hx hb hG in_P hown hK hst h09 rfl 0 (by decide) (hG _ fl_H_113) rfl rfl dH_derive_42 ?_
      refine lv_iload hx hb dH_derive_45 (lv_at hl 5 rfl) ?_
      refine hp_iald hx hb hK rfl hst h19 (j := i) (by omega) (by omega) dH_derive_47 ?_
      refine tp_n (e2 := q.1) i1 ?_
      refine lv_istore (lv' := [(6, .int (nI q.1)), (0, .ref xa), (1, .int (nI r)), (2, .int (nI a)), (3, .int (nI v)), (4, .ref (A (si a))), (5, .int (nI i))]) hx hb dH_derive_48 hl (by decide) rfl (fun ls hl => ?_)
      refine lv_aload_n hx hb dH_derive_50 rfl (lv_at hl 1 rfl) ?_
      refine hp_get hx hb hG in_H hown hK hst x0a rfl 0 (by decide) (hG _ fl_H_23) rfl rfl dH_derive_51 ?_
      refine lv_iload hx hb dH_derive_54 (lv_at hl 0 rfl) ?_
      refine lv_iload_n hx hb dH_derive_56 rfl (lv_at hl 4 rfl) ?_
      refine ct_callS (av2 := [.int (nI q.1), .int (nI v)]) (rest := [.ref (A 0)]) X hst (c_Q_exponent l D Y lo (k := q.1) (v := v) (by omega) hv) wc_Q_exponent ml_H_117 ws_Q_exponent wn_Q md_Q_exponent (by decide) hl.1 rfl (Nat.le_of_ble_eq_true rfl) ⟨by omega, by omega⟩ (fun _ _ h => h.elim) dH_derive_57 (fun r M' H locs hp hst => ?_)
      obtain ⟨rfl, rfl⟩ := hp
      refine ct_callV (av2 := [.int (nI (xe q.1 v))]) (rest := []) (b := (A 0)) X hst (c_F_reduced l D Y lo (nI (xe q.1 v)) hfa) hf0a rfl wc_F_reduced ml_H_51 wi_F_reduced wl_F_reduced wn_F md_F_reduced (by decide) hl.1 rfl (Nat.le_of_ble_eq_true rfl) ⟨by omega, by omega⟩ (fun _ _ h => h.elim) dH_derive_60 (fun r M' H locs hp hst => ?_)
      obtain ⟨rfl, rfl⟩ := hp
      refine tp_n (e2 := xe q.1 v % p) (rd_nI (by omega)) ?_
      refine lv_istore (lv' := [(7, .int (nI (xe q.1 v % p))), (6, .int (nI q.1)), (0, .ref xa), (1, .int (nI r)), (2, .int (nI a)), (3, .int (nI v)), (4, .ref (A (si a))), (5, .int (nI i))]) hx hb dH_derive_63 hl (by decide) rfl (fun ls hl => ?_)
      refine lv_iload hx hb dH_derive_65 (lv_at hl 0 rfl) ?_
      refine lv_if_eq hx hb dH_derive_67 (tgt := 101) rfl (fun hc => ?_) (fun hc => ?_)
      · skip
        rw [← nI_0] at hc
        have hc6 : (xe q.1 v % p) = 0 := (nI_eq (by omega) (by omega)).mp hc
        rw [der_n hc6] at hA hg
        refine lv_iinc (lv' := [(5, .int (nI (i + 1))), (7, .int (nI (xe q.1 v % p))), (6, .int (nI q.1)), (0, .ref xa), (1, .int (nI r)), (2, .int (nI a)), (3, .int (nI v)), (4, .ref (A (si a)))]) hx hb dH_derive_101 hl (k := 7) rfl (ii_p _) (by decide) rfl (fun ls hl => ?_)
        refine lv_goto hx hb dH_derive_104 (tgt := 30) rfl ?_
        exact ihLP _ (by omega) (i + 1) B cap1 M1 _ _ _ rfl (by omega) hsp hA hg ho hge hst (lv_sub hl [3, 4, 5, 6, 7, 0] rfl)
      · skip
        rw [← nI_0] at hc
        have hc6 : ¬ (xe q.1 v % p) = 0 := fun z => hc ((nI_eq (by omega) (by omega)).mpr z)
        rw [der_y hc6] at hA hg hcl
        obtain ⟨sv1, sv2⟩ := sv_mv m1 hv (fun z => hc6 (by rw [z, Nat.zero_mod]))
        have hg : gcn (gc1 B.length cap1) (B.length + 1) (der p v ((tp (P a)).drop (i + 1))).length = gcn (cap (si 12)) 0 (der p v (tp (P a))).length := hg
        have hcl2 := gcn_ge (der p v ((tp (P a)).drop (i + 1))).length (gc1 B.length cap1) (B.length + 1)
        have hcl3 := gc1_ge B.length cap1
        refine lv_aload_n hx hb dH_derive_70 rfl (lv_at hl 2 rfl) ?_
        refine hp_get hx hb hG in_H hown hK hst x0a rfl 5 (by decide) (hG _ fl_H_44) rfl rfl dH_derive_71 ?_
        refine lv_iload hx hb dH_derive_74 (lv_at hl 1 rfl) ?_
        refine lv_iload_n hx hb dH_derive_76 rfl (lv_at hl 5 rfl) ?_
        refine ct_callS (av2 := [.int (nI v)]) (rest := [.int (nI q.1), .ref (A (si 12))]) X hst (c_Q_ofVariable l D Y lo (v := v) hv) wc_Q_ofVariable ml_H_64 ws_Q_ofVariable wn_Q md_Q_ofVariable (by decide) hl.1 rfl (Nat.le_of_ble_eq_true rfl) ⟨by omega, by omega⟩ (fun _ _ h => h.elim) dH_derive_77 (fun r M' H locs hp hst => ?_)
        obtain ⟨rfl, rfl⟩ := hp
        refine t_isub hx hb dH_derive_80 (v := nI (q.1 - (vv v))) (pk_sub (by omega)) ?_
        refine lv_aload_n hx hb dH_derive_81 rfl (lv_at hl 2 rfl) ?_
        refine hp_get hx hb hG in_H hown hK hst x0a rfl 0 (by decide) (hG _ fl_H_23) rfl rfl dH_derive_82 ?_
        refine lv_iload hx hb dH_derive_85 (lv_at hl 0 rfl) ?_
        refine lv_aload hx hb dH_derive_87 (lv_at hl 6 rfl) ?_
        refine hp_get hx hb hG in_P hown hK hst h09 rfl 1 (by decide) (hG _ fl_H_121) rfl rfl dH_derive_89 ?_
        refine lv_iload hx hb dH_derive_92 (lv_at hl 7 rfl) ?_
        refine hp_iald hx hb hK rfl hst h29 (j := i) (by omega) (by omega) dH_derive_94 ?_
        refine tp_n (e2 := q.2) i2 ?_
        refine ct_callV (av2 := [.int (nI (xe q.1 v % p)), .int (nI q.2)]) (rest := [.int (nI (q.1 - (vv v))), .ref (A (si 12))]) (b := (A 0)) X hst (c_F_product l D Y lo hfa hmod hqp) hf0a rfl wc_F_product ml_H_124 wi_F_product wl_F_product wn_F md_F_product (by decide) hl.1 rfl (Nat.le_of_ble_eq_true rfl) ⟨by omega, by omega⟩ (fun _ _ h => h.elim) dH_derive_95 (fun r M' H locs hp hst => ?_)
        obtain ⟨rfl, rfl⟩ := hp
        obtain ⟨fs7, cell7⟩ := hsp.cell
        refine ct_callV (av2 := [.int (nI (q.1 - (vv v))), .int (nI (xe q.1 v % p * q.2 % p))]) (rest := []) (b := (A (si 12))) X hst (c_P_append l D Y lo hsp (mo := q.1 - vv v) (co := xe q.1 v % p * q.2 % p) (by omega)) cell7 rfl wc_P_append ml_H_69 wi_P_append wl_P_append wn_P md_P_append (by decide) hl.1 rfl (Nat.le_of_ble_eq_true rfl) ⟨by omega, by omega⟩ (fun _ _ h => h.elim) dH_derive_98 (fun r M' H locs hp hst => ?_)
        obtain ⟨rfl, hp3, ho4⟩ := hp
        refine W.widen (k := gc1 B.length cap1 - cap (si 12)) (n := 4 * (gc1 B.length cap1 - cap (si 12))) (by omega) (by omega) ?_
        refine lv_iinc (lv' := [(5, .int (nI (i + 1))), (7, .int (nI (xe q.1 v % p))), (6, .int (nI q.1)), (0, .ref xa), (1, .int (nI r)), (2, .int (nI a)), (3, .int (nI v)), (4, .ref (A (si a)))]) hx hb dH_derive_101 hl (k := 7) rfl (ii_p _) (by decide) rfl (fun ls hl => ?_)
        refine lv_goto hx hb dH_derive_104 (tgt := 30) rfl ?_
        exact ihLP _ (by omega) (i + 1) (B ++ [(q.1 - vv v, xe q.1 v % p * q.2 % p)]) (gc1 B.length cap1) M' _ _ _ rfl (by omega) hp3 (by rw [List.append_assoc]; exact hA) (by rw [List.length_append]; exact hg) (ho.tr ho4) (by omega) hst (lv_sub hl [3, 4, 5, 6, 7, 0] rfl)
  exact LP _ 0 ([]) (cap (si 12)) M' _ _ _ rfl (by omega) hp1 rfl rfl ho1 (Nat.le_refl _) hst (lv_sub hl [2, 3, 4, 5, 1, 0] rfl)

set_option maxHeartbeats 4000000 in
set_option maxRecDepth 100000 in
theorem x_H_derive (l : Launch) (D : va_G) (Y : Nat → ClassId) (lo : Nat) (hlt : l.stackTraces = false) {M : Hm} {xa : Nat} {x1 x2 x3 : Int32} (hno : ¬ ((inR x1 ∧ inR x2) ∧ inV x3)) : ct l D Y lo y_H_derive b_H_derive 8 none 7 [.ref xa, .int x1, .int x2, .int x3] M (fun _ _ => False) (fun E M' => M = M' ∧ (E = EI ∧ ¬ (inR x1 ∧ inR x2) ∨ E = EA ∧ (inR x1 ∧ inR x2))) 3 18 := by
  refine ct_of (by decide) (Nat.le_of_ble_eq_true rfl) ?_
  intro pg eg sg mg bw mt cg ls X hst hl
  have X1 := X
  obtain ⟨hx, hb, hml, hrt, hlocks, hown, hnm, hts, hkz, hex⟩ := X1
  have hG : ∀ w ∈ GW, w.before _ sg = true := fun w h => hts w (List.mem_cons_of_mem _ h)
  have hK := hkz.1
  have hl : lv_has ls 8 [(0, .ref xa), (1, .int x1), (2, .int x2), (3, .int x3)] := hl
  refine lv_iload_n hx hb dH_derive_0 rfl (lv_at hl 1 rfl) ?_
  refine ct_callS (av2 := [.int x1]) (rest := []) X hst (x_cr_call hlt x1 M) wc_H_checkRegister ml_H_48 ws_H_checkRegister wn_H md_H_checkRegister (by decide) hl.1 rfl (Nat.le_of_ble_eq_true rfl) ⟨by omega, by omega⟩ (fun E M1 h => ⟨h.2.1, Or.inl ⟨h.1, fun z => h.2.2 z.1⟩⟩) dH_derive_1 (fun r M' H locs hp hst => ?_)
  obtain ⟨rfl, rfl, h1⟩ := hp
  refine lv_iload_n hx hb dH_derive_4 rfl (lv_at hl 2 rfl) ?_
  refine ct_callS (av2 := [.int x2]) (rest := []) X hst (x_cr_call hlt x2 M) wc_H_checkRegister ml_H_48 ws_H_checkRegister wn_H md_H_checkRegister (by decide) hl.1 rfl (Nat.le_of_ble_eq_true rfl) ⟨by omega, by omega⟩ (fun E M1 h => ⟨h.2.1, Or.inl ⟨h.1, fun z => h.2.2 z.2⟩⟩) dH_derive_5 (fun r M' H locs hp hst => ?_)
  obtain ⟨rfl, rfl, h2⟩ := hp
  refine lv_iload_n hx hb dH_derive_8 rfl (lv_at hl 3 rfl) ?_
  refine ct_callS (av2 := [.int x3]) (rest := []) X hst (x_cv_call hlt x3 M) wc_H_checkVariable ml_H_58 ws_H_checkVariable wn_H md_H_checkVariable (by decide) hl.1 rfl (Nat.le_of_ble_eq_true rfl) ⟨by omega, by omega⟩ (fun E M1 h => ⟨h.2.1, Or.inr ⟨h.1, h1, h2⟩⟩) dH_derive_9 (fun r M' H locs hp hst => ?_)
  obtain ⟨rfl, rfl, h3⟩ := hp
  exact absurd ⟨⟨h1, h2⟩, h3⟩ hno

theorem cs.two {Y : Nat → ClassId} {M M' : Hm} {xa p rf : Nat} {A cap si : Nat → Nat} {P : Nat → Pf} (h : cs Y M xa A p P cap si rf) {r : Nat} (hr : r < 12) (ho : hp_off (fun j => j = 2 ∨ j = si 12 ∨ j = si r) M M') (hs : sh Y M' (A 1) (A 0) (fun _ => 0)) {L : List (Nat × Nat)} {cq : Nat} (hq : po Y M' (si 12) (A (si 12)) cq L) (hcq : cq ≤ 18278) {g : Pf} {cp : Nat} (hp : po Y M' (si r) (A (si r)) cp (tp g)) (hcp : cp ≤ 18278) (hg : ∀ m, g m < p) : cs Y M' xa A p (va_up P r g) (va_up (va_up cap (si 12) cq) (si r) cp) si rf := by
  obtain ⟨x0, ⟨gr, x1, hgr⟩, ⟨gn, x2, hgn⟩, ⟨hf, hpr⟩, hs0, ⟨gw, ht⟩, ⟨hs1, hs2⟩, hP, ⟨LS, hS⟩, hN, hc1, hc2, hPp⟩ := h
  have hb := hs1 r (by omega)
  have hb2 := hs1 12 (by omega)
  have hne : ∀ i, i ≤ 12 → i ≠ r → si i ≠ si r := fun i hi hir z => hir (hs2 i r hi (by omega) z)
  have hn2 : ∀ i, i ≤ 12 → i ≠ 12 → si i ≠ si 12 := fun i hi hir z => hir (hs2 i 12 hi (by omega) z)
  refine ⟨ho.of x0 (by omega), ⟨gr, ho.of x1 (by omega), hgr⟩, ⟨gn, ho.of x2 (by omega), hgn⟩, ⟨hf.off ho (by omega), hpr⟩, hs, ⟨gw, ht.off ho (by omega)⟩, ⟨hs1, hs2⟩, ?_, ⟨L, ?_⟩, ?_, ?_, ?_, ?_⟩
  · intro i hi
    by_cases hir : i = r
    · subst hir
      rw [va_up_self, va_up_self]
      exact hp
    · have h1 := hne i (by omega) hir
      have h3 := hn2 i (by omega) (by omega)
      have h2 := hs1 i (by omega)
      rw [va_up_ne _ _ h1, va_up_ne _ _ h3, va_up_ne _ _ hir]
      exact (hP i hi).off ho (by omega)
  · rw [va_up_ne _ _ (hne 12 (by omega) (by omega)), va_up_self]
    exact hq
  · intro c hc
    obtain ⟨L, hL⟩ := hN c hc
    rw [va_up_ne _ _ (by omega), va_up_ne _ _ (by omega)]
    exact ⟨L, hL.off ho (by omega)⟩
  · intro i hi
    by_cases hir : i = r
    · subst hir
      rw [va_up_self]
      exact hcp
    · rw [va_up_ne _ _ (hne i hi hir)]
      by_cases h12 : i = 12
      · subst h12
        rw [va_up_self]
        exact hcq
      · rw [va_up_ne _ _ (hn2 i hi h12)]
        exact hc1 i hi
  · intro c hc
    rw [va_up_ne _ _ (by omega), va_up_ne _ _ (by omega)]
    exact hc2 c hc
  · intro i hi m
    by_cases hir : i = r
    · subst hir
      rw [va_up_self]
      exact hg m
    · rw [va_up_ne _ _ hir]
      exact hPp i hi m

set_option maxHeartbeats 4000000 in
set_option maxRecDepth 100000 in
theorem c_H_divide_q (l : Launch) (D : va_G) (Y : Nat → ClassId) (lo : Nat) {M : Hm} {xa p rf : Nat} {A cap si : Nat → Nat} {P : Nat → Pf} (hcs : cs Y M xa A p P cap si rf) {r a b : Nat} {q0 : Nat × Nat} (hr : r < 12) (ha : a < 12) (hb9 : b < 12) (hq0 : (tp (P b))[0]? = some q0) : ct l D Y lo y_H_divide b_H_divide 6 none 5 [.ref xa, .int (nI r), .int (nI a), .int (nI b), .int (nI 1)] M (fun r9 M' => r9 = none ∧ cs Y M' xa A p (va_up P r (lsP (dvQ p q0.1 (q0.2 ^ (p - 2) % p) (tp (P b)) 9139 (addL p 1 0 (tp (P a)) (fun _ => 0))))) (va_up cap (si 12) (gcn (cap (si 12)) 0 (dvQ p q0.1 (q0.2 ^ (p - 2) % p) (tp (P b)) 9139 (addL p 1 0 (tp (P a)) (fun _ => 0))).length)) (sw si r) rf ∧ hp_off (fun i => i < 300) M M') nx (gcn (cap (si 12)) 0 (dvQ p q0.1 (q0.2 ^ (p - 2) % p) (tp (P b)) 9139 (addL p 1 0 (tp (P a)) (fun _ => 0))).length - cap (si 12)) (4 * (gcn (cap (si 12)) 0 (dvQ p q0.1 (q0.2 ^ (p - 2) % p) (tp (P b)) 9139 (addL p 1 0 (tp (P a)) (fun _ => 0))).length - cap (si 12))) := by
  refine ct_of (by decide) (Nat.le_of_ble_eq_true rfl) ?_
  intro pg eg sg mg bw mt cg ls X hst hl
  have X1 := X
  obtain ⟨hx, hb, hml, hrt, hlocks, hown, hnm, hts, hkz, hex⟩ := X1
  have hG : ∀ w ∈ GW, w.before _ sg = true := fun w h => hts w (List.mem_cons_of_mem _ h)
  have hK := hkz.1
  have hl : lv_has ls 6 [(0, .ref xa), (1, .int (nI r)), (2, .int (nI a)), (3, .int (nI b)), (4, .int (nI 1))] := hl
  have hcs0 := hcs
  obtain ⟨x0, ⟨gr, x1, hgr⟩, ⟨gn, x2, hgn⟩, ⟨hf, hpr⟩, hs, ⟨gw, ht⟩, ⟨hs1, hs2⟩, hP, ⟨LS, hS⟩, hN, hc1, hc2, hPp⟩ := hcs
  have hpp := hf.2.1
  have hpp3 := hf.2.2
  have hf0 := hf.1
  refine lv_iload_n hx hb dH_divide_0 rfl (lv_at hl 1 rfl) ?_
  refine lv_iload_n hx hb dH_divide_1 rfl (lv_at hl 2 rfl) ?_
  refine lv_iload_n hx hb dH_divide_2 rfl (lv_at hl 3 rfl) ?_
  refine ct_callS (av2 := [.int (nI r), .int (nI a), .int (nI b)]) (rest := []) X hst (c_H_checkRegisters l D Y lo hr ha hb9) wc_H_checkRegisters ml_H_73 ws_H_checkRegisters wn_H md_H_checkRegisters (by decide) hl.1 rfl (Nat.le_of_ble_eq_true rfl) ⟨by omega, by omega⟩ (fun _ _ h => h.elim) dH_divide_3 (fun r M' H locs hp hst => ?_)
  obtain ⟨rfl, rfl⟩ := hp
  have hs_r := hs1 r (by omega)
  have hs_a := hs1 a (by omega)
  have hs_b := hs1 b (by omega)
  have hs_12 := hs1 12 (by omega)
  have hne : si b ≠ si 12 := fun z => by have := hs2 b 12 (by omega) (by omega) z; omega
  have hnr : si r ≠ si 12 := fun z => by have := hs2 r 12 (by omega) (by omega) z; omega
  have hc18 := hc1 12 (by omega)
  have hc18r := hc1 r (by omega)
  obtain ⟨fs_b, cell_b⟩ := (hP b hb9).cell
  refine lv_aload_n hx hb dH_divide_6 rfl (lv_at hl 0 rfl) ?_
  refine hp_get hx hb hG in_H hown hK hst x0 rfl 3 (by decide) (hG _ fl_H_11) rfl rfl dH_divide_7 ?_
  refine lv_iload_n hx hb dH_divide_10 rfl (lv_at hl 3 rfl) ?_
  refine hp_aald hx hb hK rfl hst x1 (j := b) (v := (A (si b))) (by omega) (by omega) (hgr b hb9) dH_divide_11 ?_
  refine lv_astore (lv' := [(5, .ref (A (si b))), (0, .ref xa), (1, .int (nI r)), (2, .int (nI a)), (3, .int (nI b)), (4, .int (nI 1))]) hx hb dH_divide_12 hl (by decide) rfl (fun ls hl => ?_)
  refine lv_aload hx hb dH_divide_14 (lv_at hl 0 rfl) ?_
  refine ct_callV (av2 := []) (rest := []) (b := (A (si b))) X hst (c_P_isZero l D Y lo (hP b hb9)) cell_b rfl wc_P_isZero ml_H_102 wi_P_isZero wl_P_isZero wn_P md_P_isZero (by decide) hl.1 rfl (Nat.le_of_ble_eq_true rfl) ⟨by omega, by omega⟩ (fun _ _ h => h.elim) dH_divide_16 (fun r M' H locs hp hst => ?_)
  obtain ⟨bz, rfl, hz1, hz2, rfl⟩ := hp
  refine lv_if_eq hx hb dH_divide_19 (tgt := 30) rfl (fun hc => ?_) (fun hc => ?_)
  · skip
    rw [← nI_0] at hc
    have hcz : bz = 0 := (nI_eq (by omega) (by omega)).mp hc
    obtain ⟨fss, cells9⟩ := hs.cell
    refine lv_aload_n hx hb dH_divide_30 rfl (lv_at hl 1 rfl) ?_
    refine hp_get hx hb hG in_H hown hK hst x0 rfl 1 (by decide) (hG _ fl_H_32) rfl rfl dH_divide_31 ?_
    refine lv_aload_n hx hb dH_divide_34 rfl (lv_at hl 1 rfl) ?_
    refine hp_get hx hb hG in_H hown hK hst x0 rfl 3 (by decide) (hG _ fl_H_11) rfl rfl dH_divide_35 ?_
    refine lv_iload_n hx hb dH_divide_38 rfl (lv_at hl 3 rfl) ?_
    refine hp_aald hx hb hK rfl hst x1 (j := a) (v := (A (si a))) (by omega) (by omega) (hgr a ha) dH_divide_39 ?_
    refine lv_iconst (v := nI 1) hx hb dH_divide_40 (by decide +kernel) ?_
    refine lv_iconst (v := nI 0) hx hb dH_divide_41 (by decide +kernel) ?_
    refine ct_callV (av2 := [.ref (A (si a)), .int (nI 1), .int (nI 0)]) (rest := []) (b := (A 1)) X hst (c_S_addMultiple l D Y lo hs hf (fun _ => by omega) (hP a ha) (by omega) (f := 1) (t := 0) (by omega) (fun q hq => ⟨(tp_mem hq).1, by rw [(tp_mem hq).2.1]; exact hPp a ha _⟩)) cells9 rfl wc_S_addMultiple ml_H_77 wi_S_addMultiple wl_S_addMultiple wn_S md_S_addMultiple (by decide) hl.1 rfl (Nat.le_of_ble_eq_true rfl) ⟨by omega, by omega⟩ (fun _ _ h => h.elim) dH_divide_42 (fun r M' H locs hp hst => ?_)
    obtain ⟨rfl, hs3, ho3⟩ := hp
    have hcp1 : ∀ m, addL p 1 0 (tp (P a)) (fun _ => 0) m < p := addL_lt (by omega) (fun _ => by omega)
    have x0a := ho3.of x0 (by omega)
    obtain ⟨fst, cellt⟩ := hs3.cell
    have hmq := tp_mem (List.mem_of_getElem? hq0)
    have hqp : q0.2 < p := by rw [hmq.2.1]; exact hPp b hb9 _
    have hivz : q0.2 ^ (p - 2) % p % p ≠ 0 := by rw [Nat.mod_mod]; exact pr_pow hpr (by rw [Nat.mod_eq_of_lt hqp]; exact hmq.2.2) _
    obtain ⟨qb1, qb2⟩ := dvQ_bl (B := tp (P b)) hpr hmq.1 hivz (n := 9139) (Nat.le_refl _) hcp1
    have hdql := dvQ_len (p := p) (hi := q0.1) (iv := q0.2 ^ (p - 2) % p) (B := tp (P b)) 9139 (addL p 1 0 (tp (P a)) (fun _ => 0))
    have hcq := gcn_le (dvQ p q0.1 (q0.2 ^ (p - 2) % p) (tp (P b)) 9139 (addL p 1 0 (tp (P a)) (fun _ => 0))).length (cap (si 12)) 0 18278 hc18 (by omega)
    have hcqg := gcn_ge (dvQ p q0.1 (q0.2 ^ (p - 2) % p) (tp (P b)) 9139 (addL p 1 0 (tp (P a)) (fun _ => 0))).length (cap (si 12)) 0
    refine lv_aload_n hx hb dH_divide_45 rfl (lv_at hl 1 rfl) ?_
    refine hp_get hx hb hG in_H hown hK hst x0a rfl 1 (by decide) (hG _ fl_H_32) rfl rfl dH_divide_46 ?_
    refine lv_aload hx hb dH_divide_49 (lv_at hl 0 rfl) ?_
    refine lv_aload_n hx hb dH_divide_51 rfl (lv_at hl 1 rfl) ?_
    refine hp_get hx hb hG in_H hown hK hst x0a rfl 5 (by decide) (hG _ fl_H_44) rfl rfl dH_divide_52 ?_
    refine ct_callV (av2 := [.ref (A (si b)), .ref (A (si 12))]) (rest := []) (b := (A 1)) X hst (c_S_divideBy l D Y lo hs3 (hf.off ho3 (by omega)) hcp1 ((hP b hb9).off ho3 (by omega)) (by omega) (hS.off ho3 (by omega)) (by omega) hne (by omega) hc18 hq0 (fun q hq => ⟨(tp_mem hq).1, by rw [(tp_mem hq).2.1]; exact hPp b hb9 _⟩) (dv_mv hq0)) cellt rfl wc_S_divideBy ml_H_105 wi_S_divideBy wl_S_divideBy wn_S md_S_divideBy (by decide) hl.1 rfl (Nat.le_of_ble_eq_true rfl) ⟨by omega, by omega⟩ (fun _ _ h => h.elim) dH_divide_55 (fun r M' H locs hp hst => ?_)
    obtain ⟨rfl, hs4, hq4, ho4⟩ := hp
    have hoo := (ho3.wk (fun j hj => Or.inl hj : ∀ j, j = 2 → (j = 2 ∨ j = si 12))).tr ho4
    have x0b := hoo.of x0 (by omega)
    have x1b := hoo.of x1 (by omega)
    obtain ⟨fsu, cellu⟩ := hs4.cell
    refine lv_iload hx hb dH_divide_58 (lv_at hl 5 rfl) ?_
    refine lv_if_eq hx hb dH_divide_60 (tgt := 78) rfl (fun hc => ?_) (fun hc => ?_)
    · skip
      rw [← nI_0] at hc
      have hc5 : 1 = 0 := (nI_eq (by omega) (by omega)).mp hc
      exact absurd hc5 (by omega)
    · skip
      rw [← nI_0] at hc
      have hc5 : ¬ 1 = 0 := fun z => hc ((nI_eq (by omega) (by omega)).mpr z)
      refine lv_aload_n hx hb dH_divide_63 rfl (lv_at hl 1 rfl) ?_
      refine hp_get hx hb hG in_H hown hK hst x0b rfl 1 (by decide) (hG _ fl_H_32) rfl rfl dH_divide_64 ?_
      refine ct_callV (av2 := []) (rest := []) (b := (A 1)) X hst (c_S_clear l D Y lo hs4) cellu rfl wc_S_clear ml_H_108 wi_S_clear wl_S_clear wn_S md_S_clear (by decide) hl.1 rfl (Nat.le_of_ble_eq_true rfl) ⟨by omega, by omega⟩ (fun _ _ h => h.elim) dH_divide_67 (fun r M' H locs hp hst => ?_)
      obtain ⟨rfl, hs5, ho5⟩ := hp
      have hq5 := hq4.off ho5 (by omega)
      have hoz := hoo.tr (ho5.wk (fun j hj => Or.inl hj))
      have hcsS := hcs0.spr hoz hs5 hq5 hcq
      have hq6 : po Y M' (si 12) (A (si 12)) (va_up cap (si 12) (gcn (cap (si 12)) 0 (dvQ p q0.1 (q0.2 ^ (p - 2) % p) (tp (P b)) 9139 (addL p 1 0 (tp (P a)) (fun _ => 0))).length) (si 12)) (tp (lsP (dvQ p q0.1 (q0.2 ^ (p - 2) % p) (tp (P b)) 9139 (addL p 1 0 (tp (P a)) (fun _ => 0))))) := by rw [va_up_self, tp_ls qb1]; exact hq5
      have x0c := hoz.of x0 (by omega)
      refine lv_aload_n hx hb dH_divide_70 rfl (lv_at hl 1 rfl) ?_
      refine lv_iload_n hx hb dH_divide_71 rfl (lv_at hl 2 rfl) ?_
      refine ct_callV (av2 := [.int (nI r)]) (rest := []) (b := xa) X hst (c_H_exchangeSpare l D Y lo hcsS hr hq6 (fun m => cS_lt (by omega) qb1 (fun q hq => (qb2 q hq).1))) x0c rfl wc_H_exchangeSpare ml_H_99 wi_H_exchangeSpare wl_H_exchangeSpare wn_H md_H_exchangeSpare (by decide) hl.1 rfl (Nat.le_of_ble_eq_true rfl) ⟨by omega, by omega⟩ (fun _ _ h => h.elim) dH_divide_72 (fun r M' H locs hp hst => ?_)
      obtain ⟨rfl, hcsT, hoT⟩ := hp
      refine lv_goto hx hb dH_divide_75 (tgt := 91) rfl ?_
      exact ct_vret X hst ⟨rfl, hcsT, (hoz.wk (fun i hi => by omega : ∀ j, (j = 2 ∨ j = si 12) → j < 300)).tr (hoT.wk (fun i hi => by omega))⟩ (by omega) (by omega) dH_divide_91
  · skip
    rw [← nI_0] at hc
    have hcz : ¬ bz = 0 := fun z => hc ((nI_eq (by omega) (by omega)).mpr z)
    have h9 := hz2.mp (by omega)
    rw [h9] at hq0
    cases hq0

set_option maxHeartbeats 4000000 in
set_option maxRecDepth 100000 in
theorem c_H_divide_r (l : Launch) (D : va_G) (Y : Nat → ClassId) (lo : Nat) {M : Hm} {xa p rf : Nat} {A cap si : Nat → Nat} {P : Nat → Pf} (hcs : cs Y M xa A p P cap si rf) {r a b : Nat} {q0 : Nat × Nat} (hr : r < 12) (ha : a < 12) (hb9 : b < 12) (hq0 : (tp (P b))[0]? = some q0) : ct l D Y lo y_H_divide b_H_divide 6 none 5 [.ref xa, .int (nI r), .int (nI a), .int (nI b), .int (nI 0)] M (fun r9 M' => r9 = none ∧ cs Y M' xa A p (va_up P r (dvC p q0.1 (q0.2 ^ (p - 2) % p) (tp (P b)) 9139 (addL p 1 0 (tp (P a)) (fun _ => 0)))) (va_up (va_up cap (si 12) (gcn (cap (si 12)) 0 (dvQ p q0.1 (q0.2 ^ (p - 2) % p) (tp (P b)) 9139 (addL p 1 0 (tp (P a)) (fun _ => 0))).length)) (si r) (gcn (cap (si r)) 0 (td (dvC p q0.1 (q0.2 ^ (p - 2) % p) (tp (P b)) 9139 (addL p 1 0 (tp (P a)) (fun _ => 0))) 9139).length)) si rf ∧ hp_off (fun i => i < 300) M M') nx ((gcn (cap (si 12)) 0 (dvQ p q0.1 (q0.2 ^ (p - 2) % p) (tp (P b)) 9139 (addL p 1 0 (tp (P a)) (fun _ => 0))).length - cap (si 12)) + (gcn (cap (si r)) 0 (td (dvC p q0.1 (q0.2 ^ (p - 2) % p) (tp (P b)) 9139 (addL p 1 0 (tp (P a)) (fun _ => 0))) 9139).length - cap (si r))) (4 * ((gcn (cap (si 12)) 0 (dvQ p q0.1 (q0.2 ^ (p - 2) % p) (tp (P b)) 9139 (addL p 1 0 (tp (P a)) (fun _ => 0))).length - cap (si 12)) + (gcn (cap (si r)) 0 (td (dvC p q0.1 (q0.2 ^ (p - 2) % p) (tp (P b)) 9139 (addL p 1 0 (tp (P a)) (fun _ => 0))) 9139).length - cap (si r)))) := by
  refine ct_of (by decide) (Nat.le_of_ble_eq_true rfl) ?_
  intro pg eg sg mg bw mt cg ls X hst hl
  have X1 := X
  obtain ⟨hx, hb, hml, hrt, hlocks, hown, hnm, hts, hkz, hex⟩ := X1
  have hG : ∀ w ∈ GW, w.before _ sg = true := fun w h => hts w (List.mem_cons_of_mem _ h)
  have hK := hkz.1
  have hl : lv_has ls 6 [(0, .ref xa), (1, .int (nI r)), (2, .int (nI a)), (3, .int (nI b)), (4, .int (nI 0))] := hl
  have hcs0 := hcs
  obtain ⟨x0, ⟨gr, x1, hgr⟩, ⟨gn, x2, hgn⟩, ⟨hf, hpr⟩, hs, ⟨gw, ht⟩, ⟨hs1, hs2⟩, hP, ⟨LS, hS⟩, hN, hc1, hc2, hPp⟩ := hcs
  have hpp := hf.2.1
  have hpp3 := hf.2.2
  have hf0 := hf.1
  refine lv_iload_n hx hb dH_divide_0 rfl (lv_at hl 1 rfl) ?_
  refine lv_iload_n hx hb dH_divide_1 rfl (lv_at hl 2 rfl) ?_
  refine lv_iload_n hx hb dH_divide_2 rfl (lv_at hl 3 rfl) ?_
  refine ct_callS (av2 := [.int (nI r), .int (nI a), .int (nI b)]) (rest := []) X hst (c_H_checkRegisters l D Y lo hr ha hb9) wc_H_checkRegisters ml_H_73 ws_H_checkRegisters wn_H md_H_checkRegisters (by decide) hl.1 rfl (Nat.le_of_ble_eq_true rfl) ⟨by omega, by omega⟩ (fun _ _ h => h.elim) dH_divide_3 (fun r M' H locs hp hst => ?_)
  obtain ⟨rfl, rfl⟩ := hp
  have hs_r := hs1 r (by omega)
  have hs_a := hs1 a (by omega)
  have hs_b := hs1 b (by omega)
  have hs_12 := hs1 12 (by omega)
  have hne : si b ≠ si 12 := fun z => by have := hs2 b 12 (by omega) (by omega) z; omega
  have hnr : si r ≠ si 12 := fun z => by have := hs2 r 12 (by omega) (by omega) z; omega
  have hc18 := hc1 12 (by omega)
  have hc18r := hc1 r (by omega)
  obtain ⟨fs_b, cell_b⟩ := (hP b hb9).cell
  refine lv_aload_n hx hb dH_divide_6 rfl (lv_at hl 0 rfl) ?_
  refine hp_get hx hb hG in_H hown hK hst x0 rfl 3 (by decide) (hG _ fl_H_11) rfl rfl dH_divide_7 ?_
  refine lv_iload_n hx hb dH_divide_10 rfl (lv_at hl 3 rfl) ?_
  refine hp_aald hx hb hK rfl hst x1 (j := b) (v := (A (si b))) (by omega) (by omega) (hgr b hb9) dH_divide_11 ?_
  refine lv_astore (lv' := [(5, .ref (A (si b))), (0, .ref xa), (1, .int (nI r)), (2, .int (nI a)), (3, .int (nI b)), (4, .int (nI 0))]) hx hb dH_divide_12 hl (by decide) rfl (fun ls hl => ?_)
  refine lv_aload hx hb dH_divide_14 (lv_at hl 0 rfl) ?_
  refine ct_callV (av2 := []) (rest := []) (b := (A (si b))) X hst (c_P_isZero l D Y lo (hP b hb9)) cell_b rfl wc_P_isZero ml_H_102 wi_P_isZero wl_P_isZero wn_P md_P_isZero (by decide) hl.1 rfl (Nat.le_of_ble_eq_true rfl) ⟨by omega, by omega⟩ (fun _ _ h => h.elim) dH_divide_16 (fun r M' H locs hp hst => ?_)
  obtain ⟨bz, rfl, hz1, hz2, rfl⟩ := hp
  refine lv_if_eq hx hb dH_divide_19 (tgt := 30) rfl (fun hc => ?_) (fun hc => ?_)
  · skip
    rw [← nI_0] at hc
    have hcz : bz = 0 := (nI_eq (by omega) (by omega)).mp hc
    obtain ⟨fss, cells9⟩ := hs.cell
    refine lv_aload_n hx hb dH_divide_30 rfl (lv_at hl 1 rfl) ?_
    refine hp_get hx hb hG in_H hown hK hst x0 rfl 1 (by decide) (hG _ fl_H_32) rfl rfl dH_divide_31 ?_
    refine lv_aload_n hx hb dH_divide_34 rfl (lv_at hl 1 rfl) ?_
    refine hp_get hx hb hG in_H hown hK hst x0 rfl 3 (by decide) (hG _ fl_H_11) rfl rfl dH_divide_35 ?_
    refine lv_iload_n hx hb dH_divide_38 rfl (lv_at hl 3 rfl) ?_
    refine hp_aald hx hb hK rfl hst x1 (j := a) (v := (A (si a))) (by omega) (by omega) (hgr a ha) dH_divide_39 ?_
    refine lv_iconst (v := nI 1) hx hb dH_divide_40 (by decide +kernel) ?_
    refine lv_iconst (v := nI 0) hx hb dH_divide_41 (by decide +kernel) ?_
    refine ct_callV (av2 := [.ref (A (si a)), .int (nI 1), .int (nI 0)]) (rest := []) (b := (A 1)) X hst (c_S_addMultiple l D Y lo hs hf (fun _ => by omega) (hP a ha) (by omega) (f := 1) (t := 0) (by omega) (fun q hq => ⟨(tp_mem hq).1, by rw [(tp_mem hq).2.1]; exact hPp a ha _⟩)) cells9 rfl wc_S_addMultiple ml_H_77 wi_S_addMultiple wl_S_addMultiple wn_S md_S_addMultiple (by decide) hl.1 rfl (Nat.le_of_ble_eq_true rfl) ⟨by omega, by omega⟩ (fun _ _ h => h.elim) dH_divide_42 (fun r M' H locs hp hst => ?_)
    obtain ⟨rfl, hs3, ho3⟩ := hp
    have hcp1 : ∀ m, addL p 1 0 (tp (P a)) (fun _ => 0) m < p := addL_lt (by omega) (fun _ => by omega)
    have x0a := ho3.of x0 (by omega)
    obtain ⟨fst, cellt⟩ := hs3.cell
    have hmq := tp_mem (List.mem_of_getElem? hq0)
    have hqp : q0.2 < p := by rw [hmq.2.1]; exact hPp b hb9 _
    have hivz : q0.2 ^ (p - 2) % p % p ≠ 0 := by rw [Nat.mod_mod]; exact pr_pow hpr (by rw [Nat.mod_eq_of_lt hqp]; exact hmq.2.2) _
    obtain ⟨qb1, qb2⟩ := dvQ_bl (B := tp (P b)) hpr hmq.1 hivz (n := 9139) (Nat.le_refl _) hcp1
    have hdql := dvQ_len (p := p) (hi := q0.1) (iv := q0.2 ^ (p - 2) % p) (B := tp (P b)) 9139 (addL p 1 0 (tp (P a)) (fun _ => 0))
    have hcq := gcn_le (dvQ p q0.1 (q0.2 ^ (p - 2) % p) (tp (P b)) 9139 (addL p 1 0 (tp (P a)) (fun _ => 0))).length (cap (si 12)) 0 18278 hc18 (by omega)
    have hcqg := gcn_ge (dvQ p q0.1 (q0.2 ^ (p - 2) % p) (tp (P b)) 9139 (addL p 1 0 (tp (P a)) (fun _ => 0))).length (cap (si 12)) 0
    have hdv := dvC_lt (p := p) (hi := q0.1) (iv := q0.2 ^ (p - 2) % p) (B := tp (P b)) (n := 9139) (by omega) hcp1
    have hdl := td_len (dvC p q0.1 (q0.2 ^ (p - 2) % p) (tp (P b)) 9139 (addL p 1 0 (tp (P a)) (fun _ => 0))) 9139
    have hcr := gcn_le (td (dvC p q0.1 (q0.2 ^ (p - 2) % p) (tp (P b)) 9139 (addL p 1 0 (tp (P a)) (fun _ => 0))) 9139).length (cap (si r)) 0 18278 hc18r (by omega)
    have hcrg := gcn_ge (td (dvC p q0.1 (q0.2 ^ (p - 2) % p) (tp (P b)) 9139 (addL p 1 0 (tp (P a)) (fun _ => 0))) 9139).length (cap (si r)) 0
    refine lv_aload_n hx hb dH_divide_45 rfl (lv_at hl 1 rfl) ?_
    refine hp_get hx hb hG in_H hown hK hst x0a rfl 1 (by decide) (hG _ fl_H_32) rfl rfl dH_divide_46 ?_
    refine lv_aload hx hb dH_divide_49 (lv_at hl 0 rfl) ?_
    refine lv_aload_n hx hb dH_divide_51 rfl (lv_at hl 1 rfl) ?_
    refine hp_get hx hb hG in_H hown hK hst x0a rfl 5 (by decide) (hG _ fl_H_44) rfl rfl dH_divide_52 ?_
    refine ct_callV (av2 := [.ref (A (si b)), .ref (A (si 12))]) (rest := []) (b := (A 1)) X hst (c_S_divideBy l D Y lo hs3 (hf.off ho3 (by omega)) hcp1 ((hP b hb9).off ho3 (by omega)) (by omega) (hS.off ho3 (by omega)) (by omega) hne (by omega) hc18 hq0 (fun q hq => ⟨(tp_mem hq).1, by rw [(tp_mem hq).2.1]; exact hPp b hb9 _⟩) (dv_mv hq0)) cellt rfl wc_S_divideBy ml_H_105 wi_S_divideBy wl_S_divideBy wn_S md_S_divideBy (by decide) hl.1 rfl (Nat.le_of_ble_eq_true rfl) ⟨by omega, by omega⟩ (fun _ _ h => h.elim) dH_divide_55 (fun r M' H locs hp hst => ?_)
    obtain ⟨rfl, hs4, hq4, ho4⟩ := hp
    have hoo := (ho3.wk (fun j hj => Or.inl hj : ∀ j, j = 2 → (j = 2 ∨ j = si 12))).tr ho4
    have x0b := hoo.of x0 (by omega)
    have x1b := hoo.of x1 (by omega)
    obtain ⟨fsu, cellu⟩ := hs4.cell
    refine lv_iload hx hb dH_divide_58 (lv_at hl 5 rfl) ?_
    refine lv_if_eq hx hb dH_divide_60 (tgt := 78) rfl (fun hc => ?_) (fun hc => ?_)
    · skip
      rw [← nI_0] at hc
      have hc5 : 0 = 0 := (nI_eq (by omega) (by omega)).mp hc
      refine lv_aload_n hx hb dH_divide_78 rfl (lv_at hl 1 rfl) ?_
      refine hp_get hx hb hG in_H hown hK hst x0b rfl 1 (by decide) (hG _ fl_H_32) rfl rfl dH_divide_79 ?_
      refine lv_aload_n hx hb dH_divide_82 rfl (lv_at hl 1 rfl) ?_
      refine hp_get hx hb hG in_H hown hK hst x0b rfl 3 (by decide) (hG _ fl_H_11) rfl rfl dH_divide_83 ?_
      refine lv_iload_n hx hb dH_divide_86 rfl (lv_at hl 2 rfl) ?_
      refine hp_aald hx hb hK rfl hst x1b (j := r) (v := (A (si r))) (by omega) (by omega) (hgr r hr) dH_divide_87 ?_
      have hPr := (hP r hr).off hoo (by omega)
      refine ct_callV (av2 := [.ref (A (si r))]) (rest := []) (b := (A 1)) X hst (c_S_moveTo l D Y lo hs4 hPr (by omega) hc18r (fun m => by have := hdv m; omega)) cellu rfl wc_S_moveTo ml_H_81 wi_S_moveTo wl_S_moveTo wn_S md_S_moveTo (by decide) hl.1 rfl (Nat.le_of_ble_eq_true rfl) ⟨by omega, by omega⟩ (fun _ _ h => h.elim) dH_divide_88 (fun r M' H locs hp hst => ?_)
      obtain ⟨rfl, hp6, hs6, ho6⟩ := hp
      have hP2 : hp_off (fun j => j = 2 ∨ j = si 12 ∨ j = si r) M M' := (hoo.wk (fun j hj => by omega)).tr (ho6.wk (fun j hj => by omega))
      have hcsR : cs Y M' xa A p (va_up P r (dvC p q0.1 (q0.2 ^ (p - 2) % p) (tp (P b)) 9139 (addL p 1 0 (tp (P a)) (fun _ => 0)))) (va_up (va_up cap (si 12) (gcn (cap (si 12)) 0 (dvQ p q0.1 (q0.2 ^ (p - 2) % p) (tp (P b)) 9139 (addL p 1 0 (tp (P a)) (fun _ => 0))).length)) (si r) (gcn (cap (si r)) 0 (td (dvC p q0.1 (q0.2 ^ (p - 2) % p) (tp (P b)) 9139 (addL p 1 0 (tp (P a)) (fun _ => 0))) 9139).length)) si rf := hcs0.two hr hP2 hs6 (hq4.off ho6 (by omega)) hcq hp6 hcr hdv
      exact ct_vret X hst ⟨rfl, hcsR, hP2.wk (fun i hi => by omega)⟩ (by omega) (by omega) dH_divide_91
    · skip
      rw [← nI_0] at hc
      have hc5 : ¬ 0 = 0 := fun z => hc ((nI_eq (by omega) (by omega)).mpr z)
      exact absurd rfl hc5
  · skip
    rw [← nI_0] at hc
    have hcz : ¬ bz = 0 := fun z => hc ((nI_eq (by omega) (by omega)).mpr z)
    have h9 := hz2.mp (by omega)
    rw [h9] at hq0
    cases hq0

set_option maxHeartbeats 4000000 in
set_option maxRecDepth 100000 in
theorem x_H_divide (l : Launch) (D : va_G) (Y : Nat → ClassId) (lo : Nat) (hlt : l.stackTraces = false) {M : Hm} {xa : Nat} {x1 x2 x3 x4 : Int32} (hno : ¬ (inR x1 ∧ inR x2 ∧ inR x3)) : ct l D Y lo y_H_divide b_H_divide 6 none 8 [.ref xa, .int x1, .int x2, .int x3, .int x4] M (fun _ _ => False) (fun E M' => E = EI ∧ M = M') 3 18 := by
  refine ct_of (by decide) (Nat.le_of_ble_eq_true rfl) ?_
  intro pg eg sg mg bw mt cg ls X hst hl
  have X1 := X
  obtain ⟨hx, hb, hml, hrt, hlocks, hown, hnm, hts, hkz, hex⟩ := X1
  have hG : ∀ w ∈ GW, w.before _ sg = true := fun w h => hts w (List.mem_cons_of_mem _ h)
  have hK := hkz.1
  have hl : lv_has ls 6 [(0, .ref xa), (1, .int x1), (2, .int x2), (3, .int x3), (4, .int x4)] := hl
  refine lv_iload_n hx hb dH_divide_0 rfl (lv_at hl 1 rfl) ?_
  refine lv_iload_n hx hb dH_divide_1 rfl (lv_at hl 2 rfl) ?_
  refine lv_iload_n hx hb dH_divide_2 rfl (lv_at hl 3 rfl) ?_
  refine ct_callS (av2 := [.int x1, .int x2, .int x3]) (rest := []) X hst (x_H_checkRegisters l D Y lo hlt hno) wc_H_checkRegisters ml_H_73 ws_H_checkRegisters wn_H md_H_checkRegisters (by decide) hl.1 rfl (Nat.le_of_ble_eq_true rfl) ⟨by omega, by omega⟩ (fun E M1 h => h) dH_divide_3 (fun r M' H locs hp hst => ?_)
  exact False.elim hp

set_option maxHeartbeats 4000000 in
set_option maxRecDepth 100000 in
theorem x_H_divide_z (l : Launch) (D : va_G) (Y : Nat → ClassId) (lo : Nat) (hlt : l.stackTraces = false) {M : Hm} {xa p rf : Nat} {A cap si : Nat → Nat} {P : Nat → Pf} (hcs : cs Y M xa A p P cap si rf) {r a b : Nat} {z4 : Int32} (hr : r < 12) (ha : a < 12) (hb9 : b < 12) (hzero : tp (P b) = []) : ct l D Y lo y_H_divide b_H_divide 6 none 7 [.ref xa, .int (nI r), .int (nI a), .int (nI b), .int z4] M (fun _ _ => False) (fun E M' => E = EA ∧ M = M') 1 6 := by
  refine ct_of (by decide) (Nat.le_of_ble_eq_true rfl) ?_
  intro pg eg sg mg bw mt cg ls X hst hl
  have X1 := X
  obtain ⟨hx, hb, hml, hrt, hlocks, hown, hnm, hts, hkz, hex⟩ := X1
  have hG : ∀ w ∈ GW, w.before _ sg = true := fun w h => hts w (List.mem_cons_of_mem _ h)
  have hK := hkz.1
  have hl : lv_has ls 6 [(0, .ref xa), (1, .int (nI r)), (2, .int (nI a)), (3, .int (nI b)), (4, .int z4)] := hl
  have hcs0 := hcs
  obtain ⟨x0, ⟨gr, x1, hgr⟩, ⟨gn, x2, hgn⟩, ⟨hf, hpr⟩, hs, ⟨gw, ht⟩, ⟨hs1, hs2⟩, hP, ⟨LS, hS⟩, hN, hc1, hc2, hPp⟩ := hcs
  have hpp := hf.2.1
  have hpp3 := hf.2.2
  have hf0 := hf.1
  refine lv_iload_n hx hb dH_divide_0 rfl (lv_at hl 1 rfl) ?_
  refine lv_iload_n hx hb dH_divide_1 rfl (lv_at hl 2 rfl) ?_
  refine lv_iload_n hx hb dH_divide_2 rfl (lv_at hl 3 rfl) ?_
  refine ct_callS (av2 := [.int (nI r), .int (nI a), .int (nI b)]) (rest := []) X hst (c_H_checkRegisters l D Y lo hr ha hb9) wc_H_checkRegisters ml_H_73 ws_H_checkRegisters wn_H md_H_checkRegisters (by decide) hl.1 rfl (Nat.le_of_ble_eq_true rfl) ⟨by omega, by omega⟩ (fun _ _ h => h.elim) dH_divide_3 (fun r M' H locs hp hst => ?_)
  obtain ⟨rfl, rfl⟩ := hp
  obtain ⟨fs_b, cell_b⟩ := (hP b hb9).cell
  refine lv_aload_n hx hb dH_divide_6 rfl (lv_at hl 0 rfl) ?_
  refine hp_get hx hb hG in_H hown hK hst x0 rfl 3 (by decide) (hG _ fl_H_11) rfl rfl dH_divide_7 ?_
  refine lv_iload_n hx hb dH_divide_10 rfl (lv_at hl 3 rfl) ?_
  refine hp_aald hx hb hK rfl hst x1 (j := b) (v := (A (si b))) (by omega) (by omega) (hgr b hb9) dH_divide_11 ?_
  refine lv_astore (lv' := [(5, .ref (A (si b))), (0, .ref xa), (1, .int (nI r)), (2, .int (nI a)), (3, .int (nI b)), (4, .int z4)]) hx hb dH_divide_12 hl (by decide) rfl (fun ls hl => ?_)
  refine lv_aload hx hb dH_divide_14 (lv_at hl 0 rfl) ?_
  refine ct_callV (av2 := []) (rest := []) (b := (A (si b))) X hst (c_P_isZero l D Y lo (hP b hb9)) cell_b rfl wc_P_isZero ml_H_102 wi_P_isZero wl_P_isZero wn_P md_P_isZero (by decide) hl.1 rfl (Nat.le_of_ble_eq_true rfl) ⟨by omega, by omega⟩ (fun _ _ h => h.elim) dH_divide_16 (fun r M' H locs hp hst => ?_)
  obtain ⟨bz, rfl, hz1, hz2, rfl⟩ := hp
  refine lv_if_eq hx hb dH_divide_19 (tgt := 30) rfl (fun hc => ?_) (fun hc => ?_)
  · skip
    rw [← nI_0] at hc
    have hcz : bz = 0 := (nI_eq (by omega) (by omega)).mp hc
    exact absurd (hz2.mpr hzero) (by omega)
  · skip
    rw [← nI_0] at hc
    have hcz : ¬ bz = 0 := fun z => hc ((nI_eq (by omega) (by omega)).mpr z)
    exact ct_throw (cls := EA) (ik := 96) (ic := 98) X hst hlt rfl (by decide +kernel) cl_H_96 wn_IllegalArgumentException at_A gd_A hl.1 (by decide) (Nat.le_of_ble_eq_true rfl) (by omega) (by omega) ⟨rfl, rfl⟩ dH_divide_22 dH_divide_25 dH_divide_26 dH_divide_29
end
section
/-! Horner's steps, and the room of a row that holds one polynomial after another. -/
noncomputable def cpF (F : Nat → Pf) (cp : Nat) : Nat → Nat
  | 0 => cp
  | n + 1 => gcn (cpF F cp n) 0 (td (F (n + 1)) 9139).length
theorem cpF_ge (F : Nat → Pf) (cp : Nat) : ∀ n, cp ≤ cpF F cp n
  | 0 => Nat.le_refl _
  | n + 1 => Nat.le_trans (cpF_ge F cp n) (gcn_ge _ _ _)
theorem cpF_mono (F : Nat → Pf) (cp : Nat) {i : Nat} : ∀ {n : Nat}, i ≤ n → cpF F cp i ≤ cpF F cp n := by
  intro n
  induction n with
  | zero => intro h; rw [show i = 0 by omega]; exact Nat.le_refl _
  | succ n ih =>
    intro h
    by_cases hn : i = n + 1
    · rw [hn]; exact Nat.le_refl _
    · exact Nat.le_trans (ih (by omega)) (gcn_ge _ _ _)
theorem cpF_le (F : Nat → Pf) {cp : Nat} (h : cp ≤ 18278) : ∀ n, cpF F cp n ≤ 18278
  | 0 => h
  | n + 1 => by
    have h1 := td_len (F (n + 1)) 9139
    exact gcn_le _ _ _ _ (cpF_le F h n) (by omega)
theorem addC_lt {p v ex : Nat} (hp : 0 < p) : ∀ {L : List (Nat × Nat)} {c : Pf}, (∀ m, c m < p) → ∀ m, addC p v ex L c m < p := by
  intro L
  induction L with
  | nil => intro c h; exact h
  | cons q L ih =>
    intro c h
    refine ih (c := if xe q.1 v = ex then va_up c (wo q.1 v) ((c (wo q.1 v) + 1 * q.2) % p) else c) ?_
    split
    · exact up_lt h (Nat.mod_lt _ hp)
    · exact h
theorem addC_supp {p v ex m : Nat} : ∀ {L : List (Nat × Nat)} {c : Pf}, addC p v ex L c m ≠ 0 → c m ≠ 0 ∨ ∃ q ∈ L, wo q.1 v = m := by
  intro L
  induction L with
  | nil => intro c h; exact Or.inl h
  | cons q L ih =>
    intro c h
    rcases ih (c := if xe q.1 v = ex then va_up c (wo q.1 v) ((c (wo q.1 v) + 1 * q.2) % p) else c) h with h1 | ⟨q2, h2, h3⟩
    · by_cases hm : wo q.1 v = m
      · exact Or.inr ⟨q, List.mem_cons_self, hm⟩
      · refine Or.inl ?_
        split at h1
        · rw [va_up_ne _ _ (fun z => hm z.symm)] at h1; exact h1
        · exact h1
    · exact Or.inr ⟨q2, List.mem_cons_of_mem _ h2, h3⟩
theorem xe_wo {k u v : Nat} (hk : mv k) (hv : v < 3) (hu : u < 3) : xe (wo k v) u = if u = v then 0 else xe k u := by
  obtain ⟨a, b, c, h, rfl⟩ := mv_of hk
  obtain ⟨h0, h1, h2⟩ := wo_mp h
  have e0 := mp_x0 (show a + b + c < 64 by omega)
  have e1 := mp_x1 (show a + b + c < 64 by omega)
  have e2 := mp_x2 (show a + b + c < 64 by omega)
  refine co3 (P := fun v => xe (wo (mp a b c) v) u = if u = v then 0 else xe (mp a b c) u) ?_ ?_ ?_ hv
  · rw [h0]
    refine co3 (P := fun u => xe (mp 0 b c) u = if u = 0 then 0 else xe (mp a b c) u) ?_ ?_ ?_ hu
    · rw [mp_x0 (by omega)]; rfl
    · rw [mp_x1 (by omega), if_neg (by decide), e1]
    · rw [mp_x2 (by omega), if_neg (by decide), e2]
  · rw [h1]
    refine co3 (P := fun u => xe (mp a 0 c) u = if u = 1 then 0 else xe (mp a b c) u) ?_ ?_ ?_ hu
    · rw [mp_x0 (by omega), if_neg (by decide), e0]
    · rw [mp_x1 (by omega)]; rfl
    · rw [mp_x2 (by omega), if_neg (by decide), e2]
  · rw [h2]
    refine co3 (P := fun u => xe (mp a b 0) u = if u = 2 then 0 else xe (mp a b c) u) ?_ ?_ ?_ hu
    · rw [mp_x0 (by omega), if_neg (by decide), e0]
    · rw [mp_x1 (by omega), if_neg (by decide), e1]
    · rw [mp_x2 (by omega)]; rfl
theorem td_nil (n : Nat) : td (fun _ => 0) n = [] := by
  induction n with
  | zero => rfl
  | succ n ih => rw [td_zero rfl]; exact ih
noncomputable def hrP (p v od : Nat) (a b : Pf) : Nat → Pf
  | 0 => fun _ => 0
  | k + 1 => addC p v (od - k) (tp a) (mulP p (hrP p v od a b k) b)
theorem hrP_lt {p v od : Nat} (hp : 0 < p) (a b : Pf) : ∀ k m, hrP p v od a b k m < p
  | 0, _ => hp
  | _ + 1, m => addC_lt hp (mulP_lt hp _ _) m
/-- the degree that a step leaves in u -/
noncomputable abbrev hrD (v : Nat) (a b : Pf) (k u : Nat) : Nat := (if u = v then 0 else dgl u (tp a) 0) + k * dgl u (tp b) 0
theorem hr_step {p v : Nat} (hp : 0 < p) (hv : v < 3) {a b g : Pf} {ex k : Nat} (hg : ∀ u, u < 3 → dgl u (tp g) 0 + dgl u (tp b) 0 ≤ hrD v a b k u) (h12 : ∀ u, u < 3 → dgl u (tp g) 0 + dgl u (tp b) 0 ≤ 12) {u : Nat} (hu : u < 3) : dgl u (tp (addC p v ex (tp a) (mulP p g b))) 0 ≤ hrD v a b k u := by
  refine dgl_le (Nat.zero_le _) (fun q hq => ?_)
  obtain ⟨m1, m2, m3⟩ := tp_mem hq
  rw [m2] at m3
  rcases addC_supp m3 with h1 | ⟨q2, h2, h3⟩
  · obtain ⟨x, hx, y, hy, he⟩ := mulL_supp hp h1
    obtain ⟨n1, n2⟩ := mul_mv h12 (fun q hq => (tp_mem hq).1) (fun q hq => (tp_mem hq).1) x hx y hy
    rw [← he, n2 u hu]
    have e1 := (dgl_ge (v := u) (L := tp g) (g := 0)).2 x hx
    have e2 := (dgl_ge (v := u) (L := tp b) (g := 0)).2 y hy
    have e3 := hg u hu
    omega
  · rw [← h3, xe_wo (tp_mem h2).1 hv hu]
    have e1 := (dgl_ge (v := u) (L := tp a) (g := 0)).2 q2 h2
    show _ ≤ (if u = v then 0 else dgl u (tp a) 0) + _
    split
    · omega
    · omega
theorem hrP_deg {p v od : Nat} (hp : 0 < p) (hv : v < 3) {a b : Pf} (h : ∀ u, u < 3 → hrD v a b od u ≤ 12) : ∀ {k : Nat}, k ≤ od → ∀ u, u < 3 → dgl u (tp (hrP p v od a b (k + 1))) 0 ≤ hrD v a b k u := by
  intro k
  induction k with
  | zero =>
    intro _ u hu
    refine dgl_le (Nat.zero_le _) (fun q hq => ?_)
    obtain ⟨m1, m2, m3⟩ := tp_mem hq
    rw [m2] at m3
    rcases addC_supp m3 with h1 | ⟨q2, h2, h3⟩
    · obtain ⟨x, hx, _⟩ := mulL_supp hp h1
      rw [show tp (hrP p v od a b 0) = [] from td_nil _] at hx
      cases hx
    · rw [← h3, xe_wo (tp_mem h2).1 hv hu]
      have e1 := (dgl_ge (v := u) (L := tp a) (g := 0)).2 q2 h2
      show _ ≤ (if u = v then 0 else dgl u (tp a) 0) + _
      split
      · omega
      · omega
  | succ k ih =>
    intro hk u hu
    have h1 : ∀ u, u < 3 → dgl u (tp (hrP p v od a b (k + 1))) 0 + dgl u (tp b) 0 ≤ hrD v a b (k + 1) u := fun u hu => by
      have h2 := ih (by omega) u hu
      have h3 : hrD v a b k u + dgl u (tp b) 0 = hrD v a b (k + 1) u := by show _ + _ + _ = _ + _; rw [Nat.add_mul, Nat.one_mul, Nat.add_assoc]
      omega
    have h4 : ∀ u, u < 3 → hrD v a b (k + 1) u ≤ 12 := fun u hu => by
      have h5 := h u hu
      have h6 : (k + 1) * dgl u (tp b) 0 ≤ od * dgl u (tp b) 0 := Nat.mul_le_mul_right _ hk
      have h7 : hrD v a b (k + 1) u ≤ hrD v a b od u := Nat.add_le_add_left h6 _
      omega
    exact hr_step hp hv h1 (fun u hu => Nat.le_trans (h1 u hu) (h4 u hu)) hu
/-- before each product: the degrees' sum -/
theorem hrP_ok {p v od : Nat} (hp : 0 < p) (hv : v < 3) {a b : Pf} (h : ∀ u, u < 3 → hrD v a b od u ≤ 12) {k : Nat} (hk : k ≤ od) : ∀ q ∈ tp (hrP p v od a b k), ∀ q2 ∈ tp b, mv (q2.1 + q.1) := by
  cases k with
  | zero => intro q hq; rw [show tp (hrP p v od a b 0) = [] from td_nil _] at hq; cases hq
  | succ k =>
    intro q hq q2 hq2
    refine (mul_mv (fun u hu => ?_) (fun q hq => (tp_mem hq).1) (fun q hq => (tp_mem hq).1) q hq q2 hq2).1
    have h2 := hrP_deg hp hv h (k := k) (by omega) u hu
    have h3 : hrD v a b k u + dgl u (tp b) 0 = hrD v a b (k + 1) u := by show _ + _ + _ = _ + _; rw [Nat.add_mul, Nat.one_mul, Nat.add_assoc]
    have h5 := h u hu
    have h6 : (k + 1) * dgl u (tp b) 0 ≤ od * dgl u (tp b) 0 := Nat.mul_le_mul_right _ hk
    have h7 : hrD v a b (k + 1) u ≤ hrD v a b od u := Nat.add_le_add_left h6 _
    omega
end
section
/-! The face: put. -/
theorem x_crs_call {l : Launch} {D : va_G} {Y : Nat → ClassId} {lo : Nat} (hlt : l.stackTraces = false) (x y z : Int32) (M : Hm) : ct l D Y lo y_H_checkRegisters b_H_checkRegisters 3 none 7 [.int x, .int y, .int z] M (fun r M' => r = none ∧ M = M' ∧ inR x ∧ inR y ∧ inR z) (fun E M' => E = EI ∧ M = M' ∧ ¬ (inR x ∧ inR y ∧ inR z)) 3 18 := by
  by_cases h : inR x ∧ inR y ∧ inR z
  · obtain ⟨⟨i, hi, rfl⟩, ⟨j, hj, rfl⟩, ⟨k, hk, rfl⟩⟩ := h
    exact ct_wk (c_H_checkRegisters l D Y lo hi hj hk) (fun r M' q => ⟨q.1, q.2, ⟨i, hi, rfl⟩, ⟨j, hj, rfl⟩, ⟨k, hk, rfl⟩⟩) (fun _ _ q => q.elim) (by omega) (by omega) (by omega)
  · exact ct_wk (x_H_checkRegisters l D Y lo hlt h) (fun _ _ q => q.elim) (fun E M' q => ⟨q.1, q.2, h⟩) (Nat.le_refl _) (Nat.le_refl _) (Nat.le_refl _)

set_option maxHeartbeats 4000000 in
set_option maxRecDepth 100000 in
theorem c_H_put (l : Launch) (D : va_G) (Y : Nat → ClassId) (lo : Nat) {M : Hm} {xa p rf : Nat} {A cap si : Nat → Nat} {P : Nat → Pf} (hcs : cs Y M xa A p P cap si rf) {r a v b : Nat} (hr : r < 12) (ha : a < 12) (hv : v < 3) (hb9 : b < 12) (hdg : ∀ u, u < 3 → hrD v (P a) (P b) (dgl v (tp (P a)) 0) u ≤ 12) : ct l D Y lo y_H_put b_H_put 10 (some .boolean) 5 [.ref xa, .int (nI r), .int (nI a), .int (nI v), .int (nI b)] M (fun r9 M' => r9 = some (.int (nI 1)) ∧ cs Y M' xa A p (va_up P r (hrP p v (dgl v (tp (P a)) 0) (P a) (P b) (dgl v (tp (P a)) 0 + 1))) (va_up cap (si 12) (cpF (hrP p v (dgl v (tp (P a)) 0) (P a) (P b)) (cap (si 12)) (dgl v (tp (P a)) 0 + 1))) (sw si r) rf ∧ hp_off (fun i => i < 300) M M') nx (cpF (hrP p v (dgl v (tp (P a)) 0) (P a) (P b)) (cap (si 12)) (dgl v (tp (P a)) 0 + 1) - cap (si 12)) (4 * (cpF (hrP p v (dgl v (tp (P a)) 0) (P a) (P b)) (cap (si 12)) (dgl v (tp (P a)) 0 + 1) - cap (si 12))) := by
  refine ct_of (by decide) (Nat.le_of_ble_eq_true rfl) ?_
  intro pg eg sg mg bw mt cg ls X hst hl
  have X1 := X
  obtain ⟨hx, hb, hml, hrt, hlocks, hown, hnm, hts, hkz, hex⟩ := X1
  have hG : ∀ w ∈ GW, w.before _ sg = true := fun w h => hts w (List.mem_cons_of_mem _ h)
  have hK := hkz.1
  have hl : lv_has ls 10 [(0, .ref xa), (1, .int (nI r)), (2, .int (nI a)), (3, .int (nI v)), (4, .int (nI b))] := hl
  have hcs0 := hcs
  obtain ⟨x0, ⟨gr, x1, hgr⟩, ⟨gn, x2, hgn⟩, ⟨hf, hpr⟩, hs, ⟨gw, ht⟩, ⟨hs1, hs2⟩, hP, ⟨LS, hS⟩, hN, hc1, hc2, hPp⟩ := hcs
  have hpp := hf.2.1
  have hpp3 := hf.2.2
  have hf0 := hf.1
  refine lv_iload_n hx hb dH_put_0 rfl (lv_at hl 1 rfl) ?_
  refine lv_iload_n hx hb dH_put_1 rfl (lv_at hl 2 rfl) ?_
  refine lv_iload hx hb dH_put_2 (lv_at hl 4 rfl) ?_
  refine ct_callS (av2 := [.int (nI r), .int (nI a), .int (nI b)]) (rest := []) X hst (c_H_checkRegisters l D Y lo hr ha hb9) wc_H_checkRegisters ml_H_73 ws_H_checkRegisters wn_H md_H_checkRegisters (by decide) hl.1 rfl (Nat.le_of_ble_eq_true rfl) ⟨by omega, by omega⟩ (fun _ _ h => h.elim) dH_put_4 (fun r M' H locs hp hst => ?_)
  obtain ⟨rfl, rfl⟩ := hp
  refine lv_iload_n hx hb dH_put_7 rfl (lv_at hl 3 rfl) ?_
  refine ct_callS (av2 := [.int (nI v)]) (rest := []) X hst (c_H_checkVariable l D Y lo hv) wc_H_checkVariable ml_H_58 ws_H_checkVariable wn_H md_H_checkVariable (by decide) hl.1 rfl (Nat.le_of_ble_eq_true rfl) ⟨by omega, by omega⟩ (fun _ _ h => h.elim) dH_put_8 (fun r M' H locs hp hst => ?_)
  obtain ⟨rfl, rfl⟩ := hp
  have hs_r := hs1 r (by omega)
  have hs_a := hs1 a (by omega)
  have hs_b := hs1 b (by omega)
  have hs_12 := hs1 12 (by omega)
  have hna : si a ≠ si 12 := fun z => by have := hs2 a 12 (by omega) (by omega) z; omega
  have hnb : si b ≠ si 12 := fun z => by have := hs2 b 12 (by omega) (by omega) z; omega
  have hc18 := hc1 12 (by omega)
  obtain ⟨fs_a, cell_a⟩ := (hP a ha).cell
  obtain ⟨fs_b, cell_b⟩ := (hP b hb9).cell
  refine lv_aload_n hx hb dH_put_11 rfl (lv_at hl 0 rfl) ?_
  refine hp_get hx hb hG in_H hown hK hst x0 rfl 3 (by decide) (hG _ fl_H_11) rfl rfl dH_put_12 ?_
  refine lv_iload_n hx hb dH_put_15 rfl (lv_at hl 2 rfl) ?_
  refine hp_aald hx hb hK rfl hst x1 (j := a) (v := (A (si a))) (by omega) (by omega) (hgr a ha) dH_put_16 ?_
  refine lv_astore (lv' := [(5, .ref (A (si a))), (0, .ref xa), (1, .int (nI r)), (2, .int (nI a)), (3, .int (nI v)), (4, .int (nI b))]) hx hb dH_put_17 hl (by decide) rfl (fun ls hl => ?_)
  refine lv_aload_n hx hb dH_put_19 rfl (lv_at hl 1 rfl) ?_
  refine hp_get hx hb hG in_H hown hK hst x0 rfl 3 (by decide) (hG _ fl_H_11) rfl rfl dH_put_20 ?_
  refine lv_iload hx hb dH_put_23 (lv_at hl 5 rfl) ?_
  refine hp_aald hx hb hK rfl hst x1 (j := b) (v := (A (si b))) (by omega) (by omega) (hgr b hb9) dH_put_25 ?_
  have dod := dgl_lt (v := v) (g := 0) (L := tp (P a)) (by omega)
  refine lv_astore (lv' := [(6, .ref (A (si b))), (5, .ref (A (si a))), (0, .ref xa), (1, .int (nI r)), (2, .int (nI a)), (3, .int (nI v)), (4, .int (nI b))]) hx hb dH_put_26 hl (by decide) rfl (fun ls hl => ?_)
  refine lv_aload hx hb dH_put_28 (lv_at hl 1 rfl) ?_
  refine lv_iload_n hx hb dH_put_30 rfl (lv_at hl 5 rfl) ?_
  refine ct_callV (av2 := [.int (nI v)]) (rest := []) (b := (A (si a))) X hst (c_P_degreeIn l D Y lo (hP a ha) hv (fun q hq => (tp_b hpp3 (hPp a ha) q hq).1)) cell_a rfl wc_P_degreeIn ml_H_85 wi_P_degreeIn wl_P_degreeIn wn_P md_P_degreeIn (by decide) hl.1 rfl (Nat.le_of_ble_eq_true rfl) ⟨by omega, by omega⟩ (fun _ _ h => h.elim) dH_put_31 (fun r M' H locs hp hst => ?_)
  obtain ⟨rfl, rfl⟩ := hp
  refine lv_istore (lv' := [(7, .int (nI (dgl v (tp (P a)) 0))), (6, .ref (A (si b))), (5, .ref (A (si a))), (0, .ref xa), (1, .int (nI r)), (2, .int (nI a)), (3, .int (nI v)), (4, .int (nI b))]) hx hb dH_put_34 hl (by decide) rfl (fun ls hl => ?_)
  refine lv_iconst (v := nI 0) hx hb dH_put_36 (by decide +kernel) ?_
  refine lv_istore (lv' := [(8, .int (nI 0)), (7, .int (nI (dgl v (tp (P a)) 0))), (6, .ref (A (si b))), (5, .ref (A (si a))), (0, .ref xa), (1, .int (nI r)), (2, .int (nI a)), (3, .int (nI v)), (4, .int (nI b))]) hx hb dH_put_37 hl (by decide) rfl (fun ls hl => ?_)
  have LP : ∀ (kk : Nat) (u : Nat) (H : Heap) (locs : List Loc) (ls : Array Slot), kk = 4 - u → (u ≤ 3) → (∀ y, y < u → hrD v (P a) (P b) (dgl v (tp (P a)) 0) y ≤ 12) → hp_st D vC lo M sg.heap H locs → lv_has ls 10 [(0, .ref xa), (1, .int (nI r)), (2, .int (nI a)), (3, .int (nI v)), (4, .int (nI b)), (5, .ref (A (si a))), (6, .ref (A (si b))), (7, .int (nI (dgl v (tp (P a)) 0))), (8, .int (nI u))] → cW pg l eg sg mg [.ref xa, .int (nI r), .int (nI a), .int (nI v), .int (nI b)] bw mt cg y_H_put b_H_put 10 (some .boolean) 5 D lo (fun r9 M' => r9 = some (.int (nI 1)) ∧ cs Y M' xa A p (va_up P r (hrP p v (dgl v (tp (P a)) 0) (P a) (P b) (dgl v (tp (P a)) 0 + 1))) (va_up cap (si 12) (cpF (hrP p v (dgl v (tp (P a)) 0) (P a) (P b)) (cap (si 12)) (dgl v (tp (P a)) 0 + 1))) (sw si r) rf ∧ hp_off (fun i => i < 300) M M') nx (cpF (hrP p v (dgl v (tp (P a)) 0) (P a) (P b)) (cap (si 12)) (dgl v (tp (P a)) 0 + 1) - cap (si 12)) (4 * (cpF (hrP p v (dgl v (tp (P a)) 0) (P a) (P b)) (cap (si 12)) (dgl v (tp (P a)) 0 + 1) - cap (si 12))) H locs 0 0 (F0 mg 39 ls []) := by
    intro kk
    induction kk using Nat.strongRecOn with
    | _ kk ihLP =>
    intro u H locs ls hkk hu9 hok hst hl
    refine lv_iload hx hb dH_put_39 (lv_at hl 8 rfl) ?_
    refine lv_iconst (v := nI 3) hx hb dH_put_41 (by decide +kernel) ?_
    refine lv_icmp_ge hx hb dH_put_42 (tgt := 93) rfl (fun hc => ?_) (fun hc => ?_)
    · skip
      have hc7 : 3 ≤ u := (nI_leI (by omega) (by omega)).mp hc
      obtain ⟨fs12, cell12⟩ := hS.cell
      refine lv_aload_n hx hb dH_put_93 rfl (lv_at hl 0 rfl) ?_
      refine hp_get hx hb hG in_H hown hK hst x0 rfl 5 (by decide) (hG _ fl_H_44) rfl rfl dH_put_94 ?_
      refine ct_callV (av2 := []) (rest := []) (b := (A (si 12))) X hst (c_P_clear l D Y lo hS) cell12 rfl wc_P_clear ml_H_61 wi_P_clear wl_P_clear wn_P md_P_clear (by decide) hl.1 rfl (Nat.le_of_ble_eq_true rfl) ⟨by omega, by omega⟩ (fun _ _ h => h.elim) dH_put_97 (fun r M' H locs hp hst => ?_)
      obtain ⟨rfl, hp1, ho1⟩ := hp
      refine lv_iload hx hb dH_put_100 (lv_at hl 7 rfl) ?_
      refine lv_istore (lv' := [(8, .int (nI (dgl v (tp (P a)) 0))), (0, .ref xa), (1, .int (nI r)), (2, .int (nI a)), (3, .int (nI v)), (4, .int (nI b)), (5, .ref (A (si a))), (6, .ref (A (si b))), (7, .int (nI (dgl v (tp (P a)) 0)))]) hx hb dH_put_102 hl (by decide) rfl (fun ls hl => ?_)
      refine W.widen (k := cpF (hrP p v (dgl v (tp (P a)) 0) (P a) (P b)) (cap (si 12)) 0 - cap (si 12)) (n := 4 * (cpF (hrP p v (dgl v (tp (P a)) 0) (P a) (P b)) (cap (si 12)) 0 - cap (si 12))) (by omega) (by omega) ?_
      have LQ : ∀ (kk : Nat) (n k : Nat) (M1 : Hm) (H : Heap) (locs : List Loc) (ls : Array Slot), kk = n → (n + k = dgl v (tp (P a)) 0 + 1) → (po Y M1 (si 12) (A (si 12)) (cpF (hrP p v (dgl v (tp (P a)) 0) (P a) (P b)) (cap (si 12)) k) (tp (hrP p v (dgl v (tp (P a)) 0) (P a) (P b) k))) → (sh Y M1 (A 1) (A 0) (fun _ => 0)) → (hp_off (fun j => j = 2 ∨ j = si 12) M M1) → hp_st D vC lo M1 sg.heap H locs → lv_has ls 10 [(0, .ref xa), (1, .int (nI r)), (2, .int (nI a)), (3, .int (nI v)), (4, .int (nI b)), (5, .ref (A (si a))), (6, .ref (A (si b))), (7, .int (nI (dgl v (tp (P a)) 0))), (8, .int (dn n))] → cW pg l eg sg mg [.ref xa, .int (nI r), .int (nI a), .int (nI v), .int (nI b)] bw mt cg y_H_put b_H_put 10 (some .boolean) 5 D lo (fun r9 M' => r9 = some (.int (nI 1)) ∧ cs Y M' xa A p (va_up P r (hrP p v (dgl v (tp (P a)) 0) (P a) (P b) (dgl v (tp (P a)) 0 + 1))) (va_up cap (si 12) (cpF (hrP p v (dgl v (tp (P a)) 0) (P a) (P b)) (cap (si 12)) (dgl v (tp (P a)) 0 + 1))) (sw si r) rf ∧ hp_off (fun i => i < 300) M M') nx (cpF (hrP p v (dgl v (tp (P a)) 0) (P a) (P b)) (cap (si 12)) (dgl v (tp (P a)) 0 + 1) - cap (si 12)) (4 * (cpF (hrP p v (dgl v (tp (P a)) 0) (P a) (P b)) (cap (si 12)) (dgl v (tp (P a)) 0 + 1) - cap (si 12))) H locs (cpF (hrP p v (dgl v (tp (P a)) 0) (P a) (P b)) (cap (si 12)) k - cap (si 12)) (4 * (cpF (hrP p v (dgl v (tp (P a)) 0) (P a) (P b)) (cap (si 12)) k - cap (si 12))) (F0 mg 104 ls []) := by
        intro kk
        induction kk using Nat.strongRecOn with
        | _ kk ihLQ =>
        intro n k M1 H locs ls hkk hi9 hsp hsh ho hst hl
        have hcmw := cpF_le (hrP p v (dgl v (tp (P a)) 0) (P a) (P b)) hc18 k
        have hge := cpF_ge (hrP p v (dgl v (tp (P a)) 0) (P a) (P b)) (cap (si 12)) k
        have hmn := cpF_mono (hrP p v (dgl v (tp (P a)) 0) (P a) (P b)) (cap (si 12)) (i := k) (n := dgl v (tp (P a)) 0 + 1) (by omega)
        have x0a := ho.of x0 (by omega)
        have hfa := hf.off ho (by omega)
        have hPa := (hP a ha).off ho (by omega)
        have hPb := (hP b hb9).off ho (by omega)
        obtain ⟨fst, cellt⟩ := hsh.cell
        cases n with
        | zero =>
          refine lv_iload hx hb dH_put_104 (lv_at hl 8 rfl) ?_
          refine lv_if_lt hx hb dH_put_106 (tgt := 151) rfl (fun hc => ?_) (fun hc => absurd dn_0 hc)
          have hk : k = dgl v (tp (P a)) 0 + 1 := by omega
          subst hk
          have hcsS := hcs0.spr ho hsh hsp hcmw
          have hsp9 : po Y M1 (si 12) (A (si 12)) (va_up cap (si 12) (cpF (hrP p v (dgl v (tp (P a)) 0) (P a) (P b)) (cap (si 12)) (dgl v (tp (P a)) 0 + 1)) (si 12)) (tp (hrP p v (dgl v (tp (P a)) 0) (P a) (P b) (dgl v (tp (P a)) 0 + 1))) := by rw [va_up_self]; exact hsp
          refine lv_aload_n hx hb dH_put_151 rfl (lv_at hl 0 rfl) ?_
          refine lv_iload_n hx hb dH_put_152 rfl (lv_at hl 1 rfl) ?_
          refine ct_callV (av2 := [.int (nI r)]) (rest := []) (b := xa) X hst (c_H_exchangeSpare l D Y lo hcsS hr hsp9 (hrP_lt (by omega) (P a) (P b) _)) x0a rfl wc_H_exchangeSpare ml_H_99 wi_H_exchangeSpare wl_H_exchangeSpare wn_H md_H_exchangeSpare (by decide) hl.1 rfl (Nat.le_of_ble_eq_true rfl) ⟨by omega, by omega⟩ (fun _ _ h => h.elim) dH_put_153 (fun r M' H locs hp hst => ?_)
          obtain ⟨rfl, hcsT, hoT⟩ := hp
          refine lv_iconst (v := nI 1) hx hb dH_put_156 (by decide +kernel) ?_
          exact ct_zret X hst (by omega) ⟨rfl, hcsT, (ho.wk (fun i hi => by omega : ∀ j, (j = 2 ∨ j = si 12) → j < 300)).tr (hoT.wk (fun i hi => by omega))⟩ (by omega) (by omega) dH_put_157
        | succ n =>
          rw [dn_s] at hl
          have hmn2 := cpF_mono (hrP p v (dgl v (tp (P a)) 0) (P a) (P b)) (cap (si 12)) (i := k + 1) (n := dgl v (tp (P a)) 0 + 1) (by omega)
          have hge2 := gcn_ge (td (hrP p v (dgl v (tp (P a)) 0) (P a) (P b) (k + 1)) 9139).length (cpF (hrP p v (dgl v (tp (P a)) 0) (P a) (P b)) (cap (si 12)) k) 0
          have hcw1 : cpF (hrP p v (dgl v (tp (P a)) 0) (P a) (P b)) (cap (si 12)) (k + 1) = gcn (cpF (hrP p v (dgl v (tp (P a)) 0) (P a) (P b)) (cap (si 12)) k) 0 (td (hrP p v (dgl v (tp (P a)) 0) (P a) (P b) (k + 1)) 9139).length := rfl
          have hmm := hrP_ok (p := p) (v := v) (by omega) hv hdg (k := k) (by omega)
          refine lv_iload hx hb dH_put_104 (lv_at hl 8 rfl) ?_
          refine lv_if_lt hx hb dH_put_106 (tgt := 151) rfl (fun hc => ?_) (fun hc => ?_)
          · skip
            rw [← nI_0] at hc
            have hc5 : n < 0 := (nI_ltI (by omega) (by omega)).mp hc
            exact absurd hc5 (by omega)
          · skip
            rw [← nI_0] at hc
            have hc5 : ¬ n < 0 := fun z => hc ((nI_ltI (by omega) (by omega)).mpr z)
            refine lv_aload_n hx hb dH_put_109 rfl (lv_at hl 0 rfl) ?_
            refine hp_get hx hb hG in_H hown hK hst x0a rfl 1 (by decide) (hG _ fl_H_32) rfl rfl dH_put_110 ?_
            refine lv_aload_n hx hb dH_put_113 rfl (lv_at hl 0 rfl) ?_
            refine hp_get hx hb hG in_H hown hK hst x0a rfl 5 (by decide) (hG _ fl_H_44) rfl rfl dH_put_114 ?_
            refine lv_aload hx hb dH_put_117 (lv_at hl 6 rfl) ?_
            refine ct_callV (av2 := [.ref (A (si 12)), .ref (A (si b))]) (rest := []) (b := (A 1)) X hst (c_S_addProduct l D Y lo hsh hfa (fun _ => by omega) hsp (by omega) hPb (by omega) (fun q hq => ⟨by rw [(tp_mem hq).2.1]; exact hrP_lt (by omega) (P a) (P b) k _, fun q2 hq2 => ⟨hmm q hq q2 hq2, by rw [(tp_mem hq2).2.1]; exact hPp b hb9 _⟩⟩)) cellt rfl wc_S_addProduct ml_H_92 wi_S_addProduct wl_S_addProduct wn_S md_S_addProduct (by decide) hl.1 rfl (Nat.le_of_ble_eq_true rfl) ⟨by omega, by omega⟩ (fun _ _ h => h.elim) dH_put_119 (fun r M' H locs hp hst => ?_)
            obtain ⟨rfl, hs3, ho3⟩ := hp
            have hs3 : sh Y M' (A 1) (A 0) (mulP p (hrP p v (dgl v (tp (P a)) 0) (P a) (P b) k) (P b)) := hs3
            have hoo := ho.tr (ho3.wk (fun j hj => Or.inl hj : ∀ j, j = 2 → (j = 2 ∨ j = si 12)))
            have x0b := hoo.of x0 (by omega)
            obtain ⟨fsu, cellu⟩ := hs3.cell
            refine lv_aload_n hx hb dH_put_122 rfl (lv_at hl 0 rfl) ?_
            refine hp_get hx hb hG in_H hown hK hst x0b rfl 1 (by decide) (hG _ fl_H_32) rfl rfl dH_put_123 ?_
            refine lv_aload hx hb dH_put_126 (lv_at hl 5 rfl) ?_
            refine lv_iload_n hx hb dH_put_128 rfl (lv_at hl 3 rfl) ?_
            refine lv_iload hx hb dH_put_129 (lv_at hl 8 rfl) ?_
            refine ct_callV (av2 := [.ref (A (si a)), .int (nI v), .int (nI n)]) (rest := []) (b := (A 1)) X hst (c_S_addCoefficientOf l D Y lo hs3 (hf.off hoo (by omega)) (mulP_lt (by omega) _ _) ((hP a ha).off hoo (by omega)) (by omega) (ex := n) hv (by omega) (fun q hq => ⟨(tp_mem hq).1, by rw [(tp_mem hq).2.1]; exact hPp a ha _⟩)) cellu rfl wc_S_addCoefficientOf ml_H_127 wi_S_addCoefficientOf wl_S_addCoefficientOf wn_S md_S_addCoefficientOf (by decide) hl.1 rfl (Nat.le_of_ble_eq_true rfl) ⟨by omega, by omega⟩ (fun _ _ h => h.elim) dH_put_131 (fun r M' H locs hp hst => ?_)
            obtain ⟨rfl, hs4, ho4⟩ := hp
            have hs4 : sh Y M' (A 1) (A 0) (hrP p v (dgl v (tp (P a)) 0) (P a) (P b) (k + 1)) := by
              show sh Y M' (A 1) (A 0) (addC p v (dgl v (tp (P a)) 0 - k) (tp (P a)) (mulP p (hrP p v (dgl v (tp (P a)) 0) (P a) (P b) k) (P b)))
              rw [show dgl v (tp (P a)) 0 - k = n by omega]
              exact hs4
            have hop := hoo.tr (ho4.wk (fun j hj => Or.inl hj : ∀ j, j = 2 → (j = 2 ∨ j = si 12)))
            have x0c := hop.of x0 (by omega)
            have hspb := (hsp.off ho3 (by omega)).off ho4 (by omega)
            obtain ⟨fsv, cellv⟩ := hs4.cell
            have hcp2 := hrP_lt (p := p) (v := v) (od := dgl v (tp (P a)) 0) (by omega) (P a) (P b) (k + 1)
            refine lv_aload_n hx hb dH_put_134 rfl (lv_at hl 0 rfl) ?_
            refine hp_get hx hb hG in_H hown hK hst x0c rfl 1 (by decide) (hG _ fl_H_32) rfl rfl dH_put_135 ?_
            refine lv_aload_n hx hb dH_put_138 rfl (lv_at hl 0 rfl) ?_
            refine hp_get hx hb hG in_H hown hK hst x0c rfl 5 (by decide) (hG _ fl_H_44) rfl rfl dH_put_139 ?_
            refine ct_callV (av2 := [.ref (A (si 12))]) (rest := []) (b := (A 1)) X hst (c_S_moveTo l D Y lo hs4 hspb (by omega) hcmw (fun m => by have := hcp2 m; omega)) cellv rfl wc_S_moveTo ml_H_81 wi_S_moveTo wl_S_moveTo wn_S md_S_moveTo (by decide) hl.1 rfl (Nat.le_of_ble_eq_true rfl) ⟨by omega, by omega⟩ (fun _ _ h => h.elim) dH_put_142 (fun r M' H locs hp hst => ?_)
            obtain ⟨rfl, hp6, hs6, ho6⟩ := hp
            refine W.widen (k := cpF (hrP p v (dgl v (tp (P a)) 0) (P a) (P b)) (cap (si 12)) (k + 1) - cap (si 12)) (n := 4 * (cpF (hrP p v (dgl v (tp (P a)) 0) (P a) (P b)) (cap (si 12)) (k + 1) - cap (si 12))) (by omega) (by omega) ?_
            refine lv_iinc (lv' := [(8, .int (dn n)), (0, .ref xa), (1, .int (nI r)), (2, .int (nI a)), (3, .int (nI v)), (4, .int (nI b)), (5, .ref (A (si a))), (6, .ref (A (si b))), (7, .int (nI (dgl v (tp (P a)) 0)))]) hx hb dH_put_145 hl (k := 8) rfl (ii_m _) (by decide) rfl (fun ls hl => ?_)
            refine lv_goto hx hb dH_put_148 (tgt := 104) rfl ?_
            exact ihLQ _ (by omega) n (k + 1) M' _ _ _ rfl (by omega) hp6 hs6 (hop.tr ho6) hst (lv_sub hl [1, 2, 3, 4, 5, 6, 7, 8, 0] rfl)
      have hl : lv_has ls 10 [(8, .int (dn (dgl v (tp (P a)) 0 + 1))), (0, .ref xa), (1, .int (nI r)), (2, .int (nI a)), (3, .int (nI v)), (4, .int (nI b)), (5, .ref (A (si a))), (6, .ref (A (si b))), (7, .int (nI (dgl v (tp (P a)) 0)))] := by rw [dn_s]; exact hl
      exact LQ _ (dgl v (tp (P a)) 0 + 1) 0 M' _ _ _ rfl (by omega) (by rw [show tp (hrP p v (dgl v (tp (P a)) 0) (P a) (P b) 0) = [] from td_nil _]; exact hp1) (hs.off ho1 (by omega)) (ho1.wk (fun j hj => Or.inr hj)) hst (lv_sub hl [1, 2, 3, 4, 5, 6, 7, 8, 0] rfl)
    · skip
      have hc7 : ¬ 3 ≤ u := fun z => hc ((nI_leI (by omega) (by omega)).mpr z)
      have hu : u < 3 := by omega
      have d1 := dgl_lt (v := u) (g := 0) (L := tp (P a)) (by omega)
      have d2 := dgl_lt (v := u) (g := 0) (L := tp (P b)) (by omega)
      have d3 : dgl v (tp (P a)) 0 * dgl u (tp (P b)) 0 ≤ 64 * 64 := Nat.mul_le_mul (by omega) (by omega)
      refine lv_iload hx hb dH_put_45 (lv_at hl 8 rfl) ?_
      refine lv_iload_n hx hb dH_put_47 rfl (lv_at hl 3 rfl) ?_
      refine lv_icmp_ne hx hb dH_put_48 (tgt := 55) rfl (fun hc => ?_) (fun hc => ?_)
      · skip
        have hcv : ¬ u = v := fun z => hc ((nI_eq (by omega) (by omega)).mpr z)
        refine lv_aload hx hb dH_put_55 (lv_at hl 5 rfl) ?_
        refine lv_iload hx hb dH_put_57 (lv_at hl 8 rfl) ?_
        refine ct_callV (av2 := [.int (nI u)]) (rest := []) (b := (A (si a))) X hst (c_P_degreeIn l D Y lo (hP a ha) hu (fun q hq => (tp_b hpp3 (hPp a ha) q hq).1)) cell_a rfl wc_P_degreeIn ml_H_85 wi_P_degreeIn wl_P_degreeIn wn_P md_P_degreeIn (by decide) hl.1 rfl (Nat.le_of_ble_eq_true rfl) ⟨by omega, by omega⟩ (fun _ _ h => h.elim) dH_put_59 (fun r M' H locs hp hst => ?_)
        obtain ⟨rfl, rfl⟩ := hp
        refine lv_istore (lv' := [(9, .int (nI (dgl u (tp (P a)) 0))), (0, .ref xa), (1, .int (nI r)), (2, .int (nI a)), (3, .int (nI v)), (4, .int (nI b)), (5, .ref (A (si a))), (6, .ref (A (si b))), (7, .int (nI (dgl v (tp (P a)) 0))), (8, .int (nI u))]) hx hb dH_put_62 hl (by decide) rfl (fun ls hl => ?_)
        refine lv_iload hx hb dH_put_64 (lv_at hl 0 rfl) ?_
        refine lv_iload hx hb dH_put_66 (lv_at hl 8 rfl) ?_
        refine lv_aload hx hb dH_put_68 (lv_at hl 7 rfl) ?_
        refine lv_iload hx hb dH_put_70 (lv_at hl 9 rfl) ?_
        refine ct_callV (av2 := [.int (nI u)]) (rest := [.int (nI (dgl v (tp (P a)) 0)), .int (nI (dgl u (tp (P a)) 0))]) (b := (A (si b))) X hst (c_P_degreeIn l D Y lo (hP b hb9) hu (fun q hq => (tp_b hpp3 (hPp b hb9) q hq).1)) cell_b rfl wc_P_degreeIn ml_H_85 wi_P_degreeIn wl_P_degreeIn wn_P md_P_degreeIn (by decide) hl.1 rfl (Nat.le_of_ble_eq_true rfl) ⟨by omega, by omega⟩ (fun _ _ h => h.elim) dH_put_72 (fun r M' H locs hp hst => ?_)
        obtain ⟨rfl, rfl⟩ := hp
        refine t_imul hx hb dH_put_75 (v := nI ((dgl v (tp (P a)) 0) * (dgl u (tp (P b)) 0))) (pk_mul _ _) ?_
        refine t_iadd hx hb dH_put_76 (v := nI ((dgl u (tp (P a)) 0) + ((dgl v (tp (P a)) 0) * (dgl u (tp (P b)) 0)))) (nI_add _ _) ?_
        refine lv_bipush (v := nI 12) hx hb dH_put_77 (by decide +kernel) ?_
        refine lv_icmp_le hx hb dH_put_79 (tgt := 87) rfl (fun hc => ?_) (fun hc => ?_)
        · skip
          have hc8 : ((dgl u (tp (P a)) 0) + ((dgl v (tp (P a)) 0) * (dgl u (tp (P b)) 0))) ≤ 12 := (nI_leI (by omega) (by omega)).mp hc
          refine lv_iinc (lv' := [(8, .int (nI (u + 1))), (9, .int (nI (dgl u (tp (P a)) 0))), (0, .ref xa), (1, .int (nI r)), (2, .int (nI a)), (3, .int (nI v)), (4, .int (nI b)), (5, .ref (A (si a))), (6, .ref (A (si b))), (7, .int (nI (dgl v (tp (P a)) 0)))]) hx hb dH_put_87 hl (k := 9) rfl (ii_p _) (by decide) rfl (fun ls hl => ?_)
          refine lv_goto hx hb dH_put_90 (tgt := 39) rfl ?_
          exact ihLP _ (by omega) (u + 1) _ _ _ rfl (by omega) (fun y hy => by
              by_cases h9 : y = u
              · subst h9; show (if _ then _ else _) + _ ≤ 12; rw [if_neg hcv]; exact hc8
              · exact hok y (by omega)) hst (lv_sub hl [2, 3, 4, 5, 6, 7, 8, 9, 0] rfl)
        · skip
          have hc8 : ¬ ((dgl u (tp (P a)) 0) + ((dgl v (tp (P a)) 0) * (dgl u (tp (P b)) 0))) ≤ 12 := fun z => hc ((nI_leI (by omega) (by omega)).mpr z)
          have hnu : ¬ hrD v (P a) (P b) (dgl v (tp (P a)) 0) u ≤ 12 := by
            show ¬ (if _ then _ else _) + _ ≤ 12
            rw [if_neg hcv]
            exact hc8
          exact absurd (hdg u hu) hnu
      · skip
        have hcv : u = v := (nI_eq (by omega) (by omega)).mp hc
        refine lv_iconst (v := nI 0) hx hb dH_put_51 (by decide +kernel) ?_
        refine lv_goto hx hb dH_put_52 (tgt := 62) rfl ?_
        refine lv_istore (lv' := [(9, .int (nI 0)), (0, .ref xa), (1, .int (nI r)), (2, .int (nI a)), (3, .int (nI v)), (4, .int (nI b)), (5, .ref (A (si a))), (6, .ref (A (si b))), (7, .int (nI (dgl v (tp (P a)) 0))), (8, .int (nI u))]) hx hb dH_put_62 hl (by decide) rfl (fun ls hl => ?_)
        refine lv_iload hx hb dH_put_64 (lv_at hl 0 rfl) ?_
        refine lv_iload hx hb dH_put_66 (lv_at hl 8 rfl) ?_
        refine lv_aload hx hb dH_put_68 (lv_at hl 7 rfl) ?_
        refine lv_iload hx hb dH_put_70 (lv_at hl 9 rfl) ?_
        refine ct_callV (av2 := [.int (nI u)]) (rest := [.int (nI (dgl v (tp (P a)) 0)), .int (nI 0)]) (b := (A (si b))) X hst (c_P_degreeIn l D Y lo (hP b hb9) hu (fun q hq => (tp_b hpp3 (hPp b hb9) q hq).1)) cell_b rfl wc_P_degreeIn ml_H_85 wi_P_degreeIn wl_P_degreeIn wn_P md_P_degreeIn (by decide) hl.1 rfl (Nat.le_of_ble_eq_true rfl) ⟨by omega, by omega⟩ (fun _ _ h => h.elim) dH_put_72 (fun r M' H locs hp hst => ?_)
        obtain ⟨rfl, rfl⟩ := hp
        refine t_imul hx hb dH_put_75 (v := nI ((dgl v (tp (P a)) 0) * (dgl u (tp (P b)) 0))) (pk_mul _ _) ?_
        refine t_iadd hx hb dH_put_76 (v := nI (0 + ((dgl v (tp (P a)) 0) * (dgl u (tp (P b)) 0)))) (nI_add _ _) ?_
        refine lv_bipush (v := nI 12) hx hb dH_put_77 (by decide +kernel) ?_
        refine lv_icmp_le hx hb dH_put_79 (tgt := 87) rfl (fun hc => ?_) (fun hc => ?_)
        · skip
          have hc8 : (0 + ((dgl v (tp (P a)) 0) * (dgl u (tp (P b)) 0))) ≤ 12 := (nI_leI (by omega) (by omega)).mp hc
          refine lv_iinc (lv' := [(8, .int (nI (u + 1))), (9, .int (nI 0)), (0, .ref xa), (1, .int (nI r)), (2, .int (nI a)), (3, .int (nI v)), (4, .int (nI b)), (5, .ref (A (si a))), (6, .ref (A (si b))), (7, .int (nI (dgl v (tp (P a)) 0)))]) hx hb dH_put_87 hl (k := 9) rfl (ii_p _) (by decide) rfl (fun ls hl => ?_)
          refine lv_goto hx hb dH_put_90 (tgt := 39) rfl ?_
          exact ihLP _ (by omega) (u + 1) _ _ _ rfl (by omega) (fun y hy => by
              by_cases h9 : y = u
              · subst h9; show (if _ then _ else _) + _ ≤ 12; rw [if_pos hcv]; exact hc8
              · exact hok y (by omega)) hst (lv_sub hl [2, 3, 4, 5, 6, 7, 8, 9, 0] rfl)
        · skip
          have hc8 : ¬ (0 + ((dgl v (tp (P a)) 0) * (dgl u (tp (P b)) 0))) ≤ 12 := fun z => hc ((nI_leI (by omega) (by omega)).mpr z)
          have hnu : ¬ hrD v (P a) (P b) (dgl v (tp (P a)) 0) u ≤ 12 := by
            show ¬ (if _ then _ else _) + _ ≤ 12
            rw [if_pos hcv]
            exact hc8
          exact absurd (hdg u hu) hnu
  exact LP _ 0 _ _ _ rfl (by omega) (fun y hy => by omega) hst (lv_sub hl [4, 5, 6, 7, 8, 3, 2, 1, 0] rfl)

set_option maxHeartbeats 4000000 in
set_option maxRecDepth 100000 in
theorem n_H_put (l : Launch) (D : va_G) (Y : Nat → ClassId) (lo : Nat) {M : Hm} {xa p rf : Nat} {A cap si : Nat → Nat} {P : Nat → Pf} (hcs : cs Y M xa A p P cap si rf) {r a v b : Nat} (hr : r < 12) (ha : a < 12) (hv : v < 3) (hb9 : b < 12) (hdg : ¬ ∀ u, u < 3 → hrD v (P a) (P b) (dgl v (tp (P a)) 0) u ≤ 12) : ct l D Y lo y_H_put b_H_put 10 (some .boolean) 5 [.ref xa, .int (nI r), .int (nI a), .int (nI v), .int (nI b)] M (fun r9 M' => r9 = some (.int (nI 0)) ∧ cs Y M' xa A p P cap si (rf + 1) ∧ hp_off (fun i => i < 300) M M') nx 0 0 := by
  refine ct_of (by decide) (Nat.le_of_ble_eq_true rfl) ?_
  intro pg eg sg mg bw mt cg ls X hst hl
  have X1 := X
  obtain ⟨hx, hb, hml, hrt, hlocks, hown, hnm, hts, hkz, hex⟩ := X1
  have hG : ∀ w ∈ GW, w.before _ sg = true := fun w h => hts w (List.mem_cons_of_mem _ h)
  have hK := hkz.1
  have hl : lv_has ls 10 [(0, .ref xa), (1, .int (nI r)), (2, .int (nI a)), (3, .int (nI v)), (4, .int (nI b))] := hl
  have hcs0 := hcs
  obtain ⟨x0, ⟨gr, x1, hgr⟩, ⟨gn, x2, hgn⟩, ⟨hf, hpr⟩, hs, ⟨gw, ht⟩, ⟨hs1, hs2⟩, hP, ⟨LS, hS⟩, hN, hc1, hc2, hPp⟩ := hcs
  have hpp := hf.2.1
  have hpp3 := hf.2.2
  have hf0 := hf.1
  refine lv_iload_n hx hb dH_put_0 rfl (lv_at hl 1 rfl) ?_
  refine lv_iload_n hx hb dH_put_1 rfl (lv_at hl 2 rfl) ?_
  refine lv_iload hx hb dH_put_2 (lv_at hl 4 rfl) ?_
  refine ct_callS (av2 := [.int (nI r), .int (nI a), .int (nI b)]) (rest := []) X hst (c_H_checkRegisters l D Y lo hr ha hb9) wc_H_checkRegisters ml_H_73 ws_H_checkRegisters wn_H md_H_checkRegisters (by decide) hl.1 rfl (Nat.le_of_ble_eq_true rfl) ⟨by omega, by omega⟩ (fun _ _ h => h.elim) dH_put_4 (fun r M' H locs hp hst => ?_)
  obtain ⟨rfl, rfl⟩ := hp
  refine lv_iload_n hx hb dH_put_7 rfl (lv_at hl 3 rfl) ?_
  refine ct_callS (av2 := [.int (nI v)]) (rest := []) X hst (c_H_checkVariable l D Y lo hv) wc_H_checkVariable ml_H_58 ws_H_checkVariable wn_H md_H_checkVariable (by decide) hl.1 rfl (Nat.le_of_ble_eq_true rfl) ⟨by omega, by omega⟩ (fun _ _ h => h.elim) dH_put_8 (fun r M' H locs hp hst => ?_)
  obtain ⟨rfl, rfl⟩ := hp
  have hs_r := hs1 r (by omega)
  have hs_a := hs1 a (by omega)
  have hs_b := hs1 b (by omega)
  have hs_12 := hs1 12 (by omega)
  have hna : si a ≠ si 12 := fun z => by have := hs2 a 12 (by omega) (by omega) z; omega
  have hnb : si b ≠ si 12 := fun z => by have := hs2 b 12 (by omega) (by omega) z; omega
  have hc18 := hc1 12 (by omega)
  obtain ⟨fs_a, cell_a⟩ := (hP a ha).cell
  obtain ⟨fs_b, cell_b⟩ := (hP b hb9).cell
  refine lv_aload_n hx hb dH_put_11 rfl (lv_at hl 0 rfl) ?_
  refine hp_get hx hb hG in_H hown hK hst x0 rfl 3 (by decide) (hG _ fl_H_11) rfl rfl dH_put_12 ?_
  refine lv_iload_n hx hb dH_put_15 rfl (lv_at hl 2 rfl) ?_
  refine hp_aald hx hb hK rfl hst x1 (j := a) (v := (A (si a))) (by omega) (by omega) (hgr a ha) dH_put_16 ?_
  refine lv_astore (lv' := [(5, .ref (A (si a))), (0, .ref xa), (1, .int (nI r)), (2, .int (nI a)), (3, .int (nI v)), (4, .int (nI b))]) hx hb dH_put_17 hl (by decide) rfl (fun ls hl => ?_)
  refine lv_aload_n hx hb dH_put_19 rfl (lv_at hl 1 rfl) ?_
  refine hp_get hx hb hG in_H hown hK hst x0 rfl 3 (by decide) (hG _ fl_H_11) rfl rfl dH_put_20 ?_
  refine lv_iload hx hb dH_put_23 (lv_at hl 5 rfl) ?_
  refine hp_aald hx hb hK rfl hst x1 (j := b) (v := (A (si b))) (by omega) (by omega) (hgr b hb9) dH_put_25 ?_
  have dod := dgl_lt (v := v) (g := 0) (L := tp (P a)) (by omega)
  refine lv_astore (lv' := [(6, .ref (A (si b))), (5, .ref (A (si a))), (0, .ref xa), (1, .int (nI r)), (2, .int (nI a)), (3, .int (nI v)), (4, .int (nI b))]) hx hb dH_put_26 hl (by decide) rfl (fun ls hl => ?_)
  refine lv_aload hx hb dH_put_28 (lv_at hl 1 rfl) ?_
  refine lv_iload_n hx hb dH_put_30 rfl (lv_at hl 5 rfl) ?_
  refine ct_callV (av2 := [.int (nI v)]) (rest := []) (b := (A (si a))) X hst (c_P_degreeIn l D Y lo (hP a ha) hv (fun q hq => (tp_b hpp3 (hPp a ha) q hq).1)) cell_a rfl wc_P_degreeIn ml_H_85 wi_P_degreeIn wl_P_degreeIn wn_P md_P_degreeIn (by decide) hl.1 rfl (Nat.le_of_ble_eq_true rfl) ⟨by omega, by omega⟩ (fun _ _ h => h.elim) dH_put_31 (fun r M' H locs hp hst => ?_)
  obtain ⟨rfl, rfl⟩ := hp
  refine lv_istore (lv' := [(7, .int (nI (dgl v (tp (P a)) 0))), (6, .ref (A (si b))), (5, .ref (A (si a))), (0, .ref xa), (1, .int (nI r)), (2, .int (nI a)), (3, .int (nI v)), (4, .int (nI b))]) hx hb dH_put_34 hl (by decide) rfl (fun ls hl => ?_)
  refine lv_iconst (v := nI 0) hx hb dH_put_36 (by decide +kernel) ?_
  refine lv_istore (lv' := [(8, .int (nI 0)), (7, .int (nI (dgl v (tp (P a)) 0))), (6, .ref (A (si b))), (5, .ref (A (si a))), (0, .ref xa), (1, .int (nI r)), (2, .int (nI a)), (3, .int (nI v)), (4, .int (nI b))]) hx hb dH_put_37 hl (by decide) rfl (fun ls hl => ?_)
  have LP : ∀ (kk : Nat) (u : Nat) (H : Heap) (locs : List Loc) (ls : Array Slot), kk = 4 - u → (u ≤ 3) → (∀ y, y < u → hrD v (P a) (P b) (dgl v (tp (P a)) 0) y ≤ 12) → hp_st D vC lo M sg.heap H locs → lv_has ls 10 [(0, .ref xa), (1, .int (nI r)), (2, .int (nI a)), (3, .int (nI v)), (4, .int (nI b)), (5, .ref (A (si a))), (6, .ref (A (si b))), (7, .int (nI (dgl v (tp (P a)) 0))), (8, .int (nI u))] → cW pg l eg sg mg [.ref xa, .int (nI r), .int (nI a), .int (nI v), .int (nI b)] bw mt cg y_H_put b_H_put 10 (some .boolean) 5 D lo (fun r9 M' => r9 = some (.int (nI 0)) ∧ cs Y M' xa A p P cap si (rf + 1) ∧ hp_off (fun i => i < 300) M M') nx 0 0 H locs 0 0 (F0 mg 39 ls []) := by
    intro kk
    induction kk using Nat.strongRecOn with
    | _ kk ihLP =>
    intro u H locs ls hkk hu9 hok hst hl
    refine lv_iload hx hb dH_put_39 (lv_at hl 8 rfl) ?_
    refine lv_iconst (v := nI 3) hx hb dH_put_41 (by decide +kernel) ?_
    refine lv_icmp_ge hx hb dH_put_42 (tgt := 93) rfl (fun hc => ?_) (fun hc => ?_)
    · skip
      have hc7 : 3 ≤ u := (nI_leI (by omega) (by omega)).mp hc
      exact absurd (fun u hu => hok u (by omega)) hdg
    · skip
      have hc7 : ¬ 3 ≤ u := fun z => hc ((nI_leI (by omega) (by omega)).mpr z)
      have hu : u < 3 := by omega
      have d1 := dgl_lt (v := u) (g := 0) (L := tp (P a)) (by omega)
      have d2 := dgl_lt (v := u) (g := 0) (L := tp (P b)) (by omega)
      have d3 : dgl v (tp (P a)) 0 * dgl u (tp (P b)) 0 ≤ 64 * 64 := Nat.mul_le_mul (by omega) (by omega)
      refine lv_iload hx hb dH_put_45 (lv_at hl 8 rfl) ?_
      refine lv_iload_n hx hb dH_put_47 rfl (lv_at hl 3 rfl) ?_
      refine lv_icmp_ne hx hb dH_put_48 (tgt := 55) rfl (fun hc => ?_) (fun hc => ?_)
      · skip
        have hcv : ¬ u = v := fun z => hc ((nI_eq (by omega) (by omega)).mpr z)
        refine lv_aload hx hb dH_put_55 (lv_at hl 5 rfl) ?_
        refine lv_iload hx hb dH_put_57 (lv_at hl 8 rfl) ?_
        refine ct_callV (av2 := [.int (nI u)]) (rest := []) (b := (A (si a))) X hst (c_P_degreeIn l D Y lo (hP a ha) hu (fun q hq => (tp_b hpp3 (hPp a ha) q hq).1)) cell_a rfl wc_P_degreeIn ml_H_85 wi_P_degreeIn wl_P_degreeIn wn_P md_P_degreeIn (by decide) hl.1 rfl (Nat.le_of_ble_eq_true rfl) ⟨by omega, by omega⟩ (fun _ _ h => h.elim) dH_put_59 (fun r M' H locs hp hst => ?_)
        obtain ⟨rfl, rfl⟩ := hp
        refine lv_istore (lv' := [(9, .int (nI (dgl u (tp (P a)) 0))), (0, .ref xa), (1, .int (nI r)), (2, .int (nI a)), (3, .int (nI v)), (4, .int (nI b)), (5, .ref (A (si a))), (6, .ref (A (si b))), (7, .int (nI (dgl v (tp (P a)) 0))), (8, .int (nI u))]) hx hb dH_put_62 hl (by decide) rfl (fun ls hl => ?_)
        refine lv_iload hx hb dH_put_64 (lv_at hl 0 rfl) ?_
        refine lv_iload hx hb dH_put_66 (lv_at hl 8 rfl) ?_
        refine lv_aload hx hb dH_put_68 (lv_at hl 7 rfl) ?_
        refine lv_iload hx hb dH_put_70 (lv_at hl 9 rfl) ?_
        refine ct_callV (av2 := [.int (nI u)]) (rest := [.int (nI (dgl v (tp (P a)) 0)), .int (nI (dgl u (tp (P a)) 0))]) (b := (A (si b))) X hst (c_P_degreeIn l D Y lo (hP b hb9) hu (fun q hq => (tp_b hpp3 (hPp b hb9) q hq).1)) cell_b rfl wc_P_degreeIn ml_H_85 wi_P_degreeIn wl_P_degreeIn wn_P md_P_degreeIn (by decide) hl.1 rfl (Nat.le_of_ble_eq_true rfl) ⟨by omega, by omega⟩ (fun _ _ h => h.elim) dH_put_72 (fun r M' H locs hp hst => ?_)
        obtain ⟨rfl, rfl⟩ := hp
        refine t_imul hx hb dH_put_75 (v := nI ((dgl v (tp (P a)) 0) * (dgl u (tp (P b)) 0))) (pk_mul _ _) ?_
        refine t_iadd hx hb dH_put_76 (v := nI ((dgl u (tp (P a)) 0) + ((dgl v (tp (P a)) 0) * (dgl u (tp (P b)) 0)))) (nI_add _ _) ?_
        refine lv_bipush (v := nI 12) hx hb dH_put_77 (by decide +kernel) ?_
        refine lv_icmp_le hx hb dH_put_79 (tgt := 87) rfl (fun hc => ?_) (fun hc => ?_)
        · skip
          have hc8 : ((dgl u (tp (P a)) 0) + ((dgl v (tp (P a)) 0) * (dgl u (tp (P b)) 0))) ≤ 12 := (nI_leI (by omega) (by omega)).mp hc
          refine lv_iinc (lv' := [(8, .int (nI (u + 1))), (9, .int (nI (dgl u (tp (P a)) 0))), (0, .ref xa), (1, .int (nI r)), (2, .int (nI a)), (3, .int (nI v)), (4, .int (nI b)), (5, .ref (A (si a))), (6, .ref (A (si b))), (7, .int (nI (dgl v (tp (P a)) 0)))]) hx hb dH_put_87 hl (k := 9) rfl (ii_p _) (by decide) rfl (fun ls hl => ?_)
          refine lv_goto hx hb dH_put_90 (tgt := 39) rfl ?_
          exact ihLP _ (by omega) (u + 1) _ _ _ rfl (by omega) (fun y hy => by
              by_cases h9 : y = u
              · subst h9; show (if _ then _ else _) + _ ≤ 12; rw [if_neg hcv]; exact hc8
              · exact hok y (by omega)) hst (lv_sub hl [2, 3, 4, 5, 6, 7, 8, 9, 0] rfl)
        · skip
          have hc8 : ¬ ((dgl u (tp (P a)) 0) + ((dgl v (tp (P a)) 0) * (dgl u (tp (P b)) 0))) ≤ 12 := fun z => hc ((nI_leI (by omega) (by omega)).mpr z)
          have hnu : ¬ hrD v (P a) (P b) (dgl v (tp (P a)) 0) u ≤ 12 := by
            show ¬ (if _ then _ else _) + _ ≤ 12
            rw [if_neg hcv]
            exact hc8
          refine lv_aload_n hx hb dH_put_82 rfl (lv_at hl 1 rfl) ?_
          refine ct_callV (av2 := []) (rest := []) (b := xa) X hst (c_H_refuse l D Y lo hcs0) x0 rfl wc_H_refuse ml_H_88 wi_H_refuse wl_H_refuse wn_H md_H_refuse (by decide) hl.1 rfl (Nat.le_of_ble_eq_true rfl) ⟨by omega, by omega⟩ (fun _ _ h => h.elim) dH_put_83 (fun r M' H locs hp hst => ?_)
          obtain ⟨rfl, hcs1, ho1⟩ := hp
          exact ct_zret X hst (by omega) ⟨rfl, hcs1, ho1.wk (fun i hi => by omega)⟩ (by omega) (by omega) dH_put_86
      · skip
        have hcv : u = v := (nI_eq (by omega) (by omega)).mp hc
        refine lv_iconst (v := nI 0) hx hb dH_put_51 (by decide +kernel) ?_
        refine lv_goto hx hb dH_put_52 (tgt := 62) rfl ?_
        refine lv_istore (lv' := [(9, .int (nI 0)), (0, .ref xa), (1, .int (nI r)), (2, .int (nI a)), (3, .int (nI v)), (4, .int (nI b)), (5, .ref (A (si a))), (6, .ref (A (si b))), (7, .int (nI (dgl v (tp (P a)) 0))), (8, .int (nI u))]) hx hb dH_put_62 hl (by decide) rfl (fun ls hl => ?_)
        refine lv_iload hx hb dH_put_64 (lv_at hl 0 rfl) ?_
        refine lv_iload hx hb dH_put_66 (lv_at hl 8 rfl) ?_
        refine lv_aload hx hb dH_put_68 (lv_at hl 7 rfl) ?_
        refine lv_iload hx hb dH_put_70 (lv_at hl 9 rfl) ?_
        refine ct_callV (av2 := [.int (nI u)]) (rest := [.int (nI (dgl v (tp (P a)) 0)), .int (nI 0)]) (b := (A (si b))) X hst (c_P_degreeIn l D Y lo (hP b hb9) hu (fun q hq => (tp_b hpp3 (hPp b hb9) q hq).1)) cell_b rfl wc_P_degreeIn ml_H_85 wi_P_degreeIn wl_P_degreeIn wn_P md_P_degreeIn (by decide) hl.1 rfl (Nat.le_of_ble_eq_true rfl) ⟨by omega, by omega⟩ (fun _ _ h => h.elim) dH_put_72 (fun r M' H locs hp hst => ?_)
        obtain ⟨rfl, rfl⟩ := hp
        refine t_imul hx hb dH_put_75 (v := nI ((dgl v (tp (P a)) 0) * (dgl u (tp (P b)) 0))) (pk_mul _ _) ?_
        refine t_iadd hx hb dH_put_76 (v := nI (0 + ((dgl v (tp (P a)) 0) * (dgl u (tp (P b)) 0)))) (nI_add _ _) ?_
        refine lv_bipush (v := nI 12) hx hb dH_put_77 (by decide +kernel) ?_
        refine lv_icmp_le hx hb dH_put_79 (tgt := 87) rfl (fun hc => ?_) (fun hc => ?_)
        · skip
          have hc8 : (0 + ((dgl v (tp (P a)) 0) * (dgl u (tp (P b)) 0))) ≤ 12 := (nI_leI (by omega) (by omega)).mp hc
          refine lv_iinc (lv' := [(8, .int (nI (u + 1))), (9, .int (nI 0)), (0, .ref xa), (1, .int (nI r)), (2, .int (nI a)), (3, .int (nI v)), (4, .int (nI b)), (5, .ref (A (si a))), (6, .ref (A (si b))), (7, .int (nI (dgl v (tp (P a)) 0)))]) hx hb dH_put_87 hl (k := 9) rfl (ii_p _) (by decide) rfl (fun ls hl => ?_)
          refine lv_goto hx hb dH_put_90 (tgt := 39) rfl ?_
          exact ihLP _ (by omega) (u + 1) _ _ _ rfl (by omega) (fun y hy => by
              by_cases h9 : y = u
              · subst h9; show (if _ then _ else _) + _ ≤ 12; rw [if_pos hcv]; exact hc8
              · exact hok y (by omega)) hst (lv_sub hl [2, 3, 4, 5, 6, 7, 8, 9, 0] rfl)
        · skip
          have hc8 : ¬ (0 + ((dgl v (tp (P a)) 0) * (dgl u (tp (P b)) 0))) ≤ 12 := fun z => hc ((nI_leI (by omega) (by omega)).mpr z)
          have hnu : ¬ hrD v (P a) (P b) (dgl v (tp (P a)) 0) u ≤ 12 := by
            show ¬ (if _ then _ else _) + _ ≤ 12
            rw [if_pos hcv]
            exact hc8
          refine lv_aload_n hx hb dH_put_82 rfl (lv_at hl 1 rfl) ?_
          refine ct_callV (av2 := []) (rest := []) (b := xa) X hst (c_H_refuse l D Y lo hcs0) x0 rfl wc_H_refuse ml_H_88 wi_H_refuse wl_H_refuse wn_H md_H_refuse (by decide) hl.1 rfl (Nat.le_of_ble_eq_true rfl) ⟨by omega, by omega⟩ (fun _ _ h => h.elim) dH_put_83 (fun r M' H locs hp hst => ?_)
          obtain ⟨rfl, hcs1, ho1⟩ := hp
          exact ct_zret X hst (by omega) ⟨rfl, hcs1, ho1.wk (fun i hi => by omega)⟩ (by omega) (by omega) dH_put_86
  exact LP _ 0 _ _ _ rfl (by omega) (fun y hy => by omega) hst (lv_sub hl [4, 5, 6, 7, 8, 3, 2, 1, 0] rfl)

set_option maxHeartbeats 4000000 in
set_option maxRecDepth 100000 in
theorem x_H_put (l : Launch) (D : va_G) (Y : Nat → ClassId) (lo : Nat) (hlt : l.stackTraces = false) {M : Hm} {xa : Nat} {x1 x2 x3 x4 : Int32} (hno : ¬ ((inR x1 ∧ inR x2 ∧ inR x4) ∧ inV x3)) : ct l D Y lo y_H_put b_H_put 10 (some .boolean) 8 [.ref xa, .int x1, .int x2, .int x3, .int x4] M (fun _ _ => False) (fun E M' => M = M' ∧ (E = EI ∧ ¬ (inR x1 ∧ inR x2 ∧ inR x4) ∨ E = EA ∧ (inR x1 ∧ inR x2 ∧ inR x4))) 4 24 := by
  refine ct_of (by decide) (Nat.le_of_ble_eq_true rfl) ?_
  intro pg eg sg mg bw mt cg ls X hst hl
  have X1 := X
  obtain ⟨hx, hb, hml, hrt, hlocks, hown, hnm, hts, hkz, hex⟩ := X1
  have hG : ∀ w ∈ GW, w.before _ sg = true := fun w h => hts w (List.mem_cons_of_mem _ h)
  have hK := hkz.1
  have hl : lv_has ls 10 [(0, .ref xa), (1, .int x1), (2, .int x2), (3, .int x3), (4, .int x4)] := hl
  refine lv_iload_n hx hb dH_put_0 rfl (lv_at hl 1 rfl) ?_
  refine lv_iload_n hx hb dH_put_1 rfl (lv_at hl 2 rfl) ?_
  refine lv_iload hx hb dH_put_2 (lv_at hl 4 rfl) ?_
  refine ct_callS (av2 := [.int x1, .int x2, .int x4]) (rest := []) X hst (x_crs_call hlt x1 x2 x4 M) wc_H_checkRegisters ml_H_73 ws_H_checkRegisters wn_H md_H_checkRegisters (by decide) hl.1 rfl (Nat.le_of_ble_eq_true rfl) ⟨by omega, by omega⟩ (fun E M1 h => ⟨h.2.1, Or.inl ⟨h.1, h.2.2⟩⟩) dH_put_4 (fun r M' H locs hp hst => ?_)
  obtain ⟨rfl, rfl, h1⟩ := hp
  refine lv_iload_n hx hb dH_put_7 rfl (lv_at hl 3 rfl) ?_
  refine ct_callS (av2 := [.int x3]) (rest := []) X hst (x_cv_call hlt x3 M) wc_H_checkVariable ml_H_58 ws_H_checkVariable wn_H md_H_checkVariable (by decide) hl.1 rfl (Nat.le_of_ble_eq_true rfl) ⟨by omega, by omega⟩ (fun E M1 h => ⟨h.2.1, Or.inr ⟨h.1, h1⟩⟩) dH_put_8 (fun r M' H locs hp hst => ?_)
  obtain ⟨rfl, rfl, h3⟩ := hp
  exact absurd ⟨h1, h3⟩ hno
end
