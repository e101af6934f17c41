abbrev NSE : String := "java/util/NoSuchElementException"
/-- the words of this throw, without the four on the two statics -/
def XWA : List Cond := (th_W RX11 292 NSE "java/lang/RuntimeException" 13 prog_31_method_4_code ["java/lang/Exception"]).filter vx_no
/-- those that aren't kept by the tables alone -/
def XWL : List Cond := XWA.filter (fun w => !goodWord w)
theorem XWL_face : XWL.all (fun w => w.faceAtom && w.onTables) = true := by decide +kernel
theorem XWA_tb : (XWA.filter goodWord).all (fun w => decide (w ∈ lw_tbl)) = true := by decide +kernel
theorem XWA_in {w : Cond} (h : w ∈ XWA) (hg : goodWord w = true) : w ∈ TB := by
  have := List.all_eq_true.mp XWA_tb w (List.mem_filter.mpr ⟨h, hg⟩)
  exact List.mem_filter.mpr ⟨of_decide_eq_true this, hg⟩
def XW (U : State) : Prop := ∀ w ∈ XWL, w.before #[] U = true
theorem XW.moved {u U : State} (ha : u.vm.Alike U.vm) (h : XW u) : XW U := by
  intro w hw
  have hf := List.all_eq_true.mp XWL_face w hw
  rw [Bool.and_eq_true] at hf
  have h1 := Cond.faceAtom_setVm (args := #[]) ha w hf.1 (h w hw)
  exact va_tabs (u := u.setVm U.vm) (U := U) hf.2 rfl h1
theorem XWA_at {args : Array Value} {s : State} (hts : ∀ w ∈ TB, w.before args s = true) (hx : XW s) : ∀ w ∈ XWA, w.before args s = true := by
  intro w hw
  by_cases g : goodWord w = true
  · exact hts w (XWA_in hw g)
  · have hm : w ∈ XWL := List.mem_filter.mpr ⟨hw, by rw [Bool.not_eq_true] at g; rw [g]; rfl⟩
    have hf := List.all_eq_true.mp XWL_face w hm
    rw [Bool.and_eq_true] at hf
    exact va_any hf.2 (hx w hm)
theorem XWA_ot {w : Cond} (hw : w ∈ XWA) : vx_ot w = true := by
  by_cases g : goodWord w = true
  · simp [vx_ot, g]
  · have hm : w ∈ XWL := List.mem_filter.mpr ⟨hw, by rw [Bool.not_eq_true] at g; rw [g]; rfl⟩
    have hf := List.all_eq_true.mp XWL_face w hm
    rw [Bool.and_eq_true] at hf
    simp [vx_ot, hf.2]
def XS (A : Nat → Prop) (U : State) (H : Heap) : Prop := vx_Zq Bundle.tN "UNASSIGNED_STACK" Bundle.steD A U H ∧ vx_Zq Bundle.tN "SUPPRESSED_SENTINEL" Bundle.listD A U H ∧ XW U
theorem XS.warm {A : Nat → Prop} {u U : State} {H : Heap} (hW : u.WarmedH U.vm) (h : XS A u H) : XS A U H := ⟨h.1.moved hW.alike, h.2.1.moved hW.alike, h.2.2.moved hW.alike⟩
theorem XS.same {A : Nat → Prop} {u U : State} {H : Heap} (hv : U.vm = u.vm) (h : XS A u H) : XS A U H := by
  have ha : u.vm.Alike U.vm := by rw [hv]; exact Vm.Alike.refl _
  exact ⟨h.1.moved ha, h.2.1.moved ha, h.2.2.moved ha⟩
theorem XS.kept {A : Nat → Prop} {U : State} {H H1 : Heap} (h : XS A U H) (hq : ∀ a : Nat, a < H.size → ¬ A a → H1[a]? = H[a]?) : XS A U H1 := ⟨h.1.kept hq, h.2.1.kept hq, h.2.2⟩
theorem XS.narrow {A B : Nat → Prop} {U : State} {H : Heap} (h : XS A U H) (hAB : ∀ q, B q → A q) : XS B U H := ⟨h.1.narrow hAB, h.2.1.narrow hAB, h.2.2⟩
/-- a method's end by a thrown exception: the world behind it -/
def XCm (sh : Sh) (ar : Nat → ClassId) (ad sad : Nat → Nat) (D : va_G) (A : Nat → Prop) (n : Nat) (R : Rr) (X : Mm → Prop) : String → State → State → Prop := fun E st t =>
  E = NSE ∧ (∃ M : Mm, X M ∧ va_P D vwCl (wld sh ar ad sad n R M) t.heap ∧ va_D A (wld sh ar ad sad n R M)) ∧ va_F A st t
/-- K is the walk of a method that may throw -/
def EKX (sh : Sh) (y : MethodName) (cc : ByteArray) (nL : Nat) (ret : Option FieldType) (d n : Nat) (R : Rr) (Q : Option AV → Rr → Mm → Prop) (X : Mm → Prop) (K : Nat → Rr → Nat → List (Nat × AV) → List AV → Mm → Prop) : Prop :=
  ∃ (p : Program) (l : Launch) (e : Env) (s : State) (m : MethodId) (args : Array Value) (below : List Frame) (meth : Method) (c : Code) (ad0 sad : Nat → Nat) (D : va_G) (A : Nat → Prop) (ar : Nat → ClassId) (Z : State → Prop),
    EKc sh y cc nL ret d n n Q p l e s m args below meth c ad0 sad D A ar 1 6 0 0 Z K ∧ l.stackTraces = false ∧ XS A s s.heap ∧ (∀ x ∈ c.exceptionTable.toList, False) ∧ ∀ t, vx_MQ below (Qc sh ar ad0 sad D A n n Q) (XCm sh ar ad0 sad D A n R X) args s (n - n + 1) (cum sh n - cum sh n + 6) A t → Z t
theorem EKX.ek {sh : Sh} {y : MethodName} {cc : ByteArray} {nL : Nat} {ret : Option FieldType} {d n : Nat} {R : Rr} {Q : Option AV → Rr → Mm → Prop} {X : Mm → Prop} {K : Nat → Rr → Nat → List (Nat × AV) → List AV → Mm → Prop} (h : EKX sh y cc nL ret d n R Q X K) : EK sh y cc nL ret d n n Q K := by
  obtain ⟨p, l, e, s, m, args, below, meth, c, ad0, sad, D, A, ar, Z, h, -⟩ := h
  exact ⟨p, l, e, s, m, args, below, meth, c, ad0, sad, D, A, ar, 1, 6, 0, 0, Z, h⟩
def PcX (sh : Sh) (ar : Nat → ClassId) (ad sad : Nat → Nat) (D : va_G) (sz n0 : Nat) (R : Rr) (M : Mm) (as : List AV) : Array Value → State → Prop :=
  va_Pc (as.map (cv ad sad)) (fun U => U.heap.size = sz ∧ va_P D vwCl (wld sh ar ad sad n0 R M) U.heap ∧ va_K D vwCl (tysL ar) U ∧ va_D (fun _ => True) (wld sh ar ad sad n0 R M) ∧ SS sad (va_A (wld sh ar ad sad n0 R M) sz) U U.heap ∧ XS (va_A (wld sh ar ad sad n0 R M) sz) U U.heap)
theorem PcX_blind {sh : Sh} {ar : Nat → ClassId} {ad sad : Nat → Nat} {D : va_G} {sz n0 : Nat} {R : Rr} {M : Mm} {as : List AV} : FrameBlind (PcX sh ar ad sad D sz n0 R M as) := by
  intro a U g mk q
  obtain ⟨q0, q1, qP, qK, qD, qS, qX⟩ := q
  exact ⟨q0, q1, qP, va_K.moved (u := U) (U := U.calling g mk a) (Vm.Alike.refl U.vm) qK, qD, SS.same (u := U) (U := U.calling g mk a) rfl qS, XS.same (u := U) (U := U.calling g mk a) rfl qX⟩
theorem PcX_of {sh : Sh} {ar : Nat → ClassId} {ad sad : Nat → Nat} {D : va_G} {n : Nat} {R : Rr} {M : Mm} {as : List AV} {A : Nat → Prop} {s : State} {H : Heap} {locs : List Loc} (hK : va_K D vwCl (tysL ar) s) (hSS : SS sad A s s.heap) (hXS : XS A s s.heap) (hP : va_P D vwCl (wld sh ar ad sad n R M) H) (hD : va_D A (wld sh ar ad sad n R M)) (hS : va_S A s.heap H locs) (hF : ∀ q, va_A (wld sh ar ad sad n R M) H.size q → A q) :
    ∀ U : State, U.heap = H → s.WarmedH U.vm → PcX sh ar ad sad D H.size n R M as (as.map (cv ad sad)).toArray U := by
  intro U hU hW
  refine ⟨rfl, by rw [hU], by rw [hU]; exact hP, va_K.moved hW.alike hK, hD.weaken (fun _ _ _ _ => trivial), ?_, ?_⟩
  · rw [hU]
    exact ((hSS.kept hS.2.1).narrow hF).warm hW
  · rw [hU]
    exact ((hXS.kept hS.2.1).narrow hF).warm hW
/-- the contract of a method that may throw -/
def MSx (sh : Sh) (y : MethodName) (cc : ByteArray) (nL : Nat) (ret : Option FieldType) (d n : Nat) (R : Rr) (as : List AV) (M : Mm) (Q : Option AV → Rr → Mm → Prop) (X : Mm → Prop) : Prop :=
  ∀ (l : Launch) (ad sad : Nat → Nat) (D : va_G) (ar : Nat → ClassId) (sz : Nat), l.stackTraces = false → vx_Met l y (Cond.code y cc nL ret :: TB) (rmx sh d n n 1 6)
    (PcX sh ar ad sad D sz n R M as) (Qc sh ar ad sad D (va_A (wld sh ar ad sad n R M) sz) n n Q) (XCm sh ar ad sad D (va_A (wld sh ar ad sad n R M) sz) n R X) (n - n + 1) (cum sh n - cum sh n + 6) (va_A (wld sh ar ad sad n R M) sz)
theorem MSx_of {sh : Sh} {y : MethodName} {cc : ByteArray} {nL : Nat} {ret : Option FieldType} {d n : Nat} {R : Rr} {as : List AV} {M : Mm} {Q : Option AV → Rr → Mm → Prop} {X : Mm → Prop} (hy : plainName y.cls = true) (hl : avlen as ≤ nL) (h : ∀ K, EKX sh y cc nL ret d n R Q X K → K n R 0 (avargs 0 as) [] M) : MSx sh y cc nL ret d n R as M Q X := by
  intro l ad sad D ar sz hlt
  refine vx_ofW (cc := cc) (maxL := nL) (ret := ret) hy rfl ?_
  intro p e s m args below meth c s₁ B hml htab hv
  obtain ⟨rfl, hsz, hP, hK, hD0, hSS, hXS⟩ := hv
  subst hsz
  have hts := atoms_spec (ws := Cond.code y cc nL ret :: TB) B.pre
  have hown : s.vm.findClass y.cls = some m.cls := findClass_of_methodNamed B.named
  have hD := hD0.self (sz := s.heap.size)
  have hS : va_S (va_A (wld sh ar ad sad n R M) s.heap.size) s.heap s.heap [] := va_S.rf
  have hle := lv_entry (as.map (cv ad sad)) (n := nL) (by rw [avlen_sl]; exact hl)
  rw [avargs_map] at hle
  rw [lg_entry_eq]
  have key := h _ ⟨p, l, e, s, m, _, below, meth, c, ad, sad, D, va_A (wld sh ar ad sad n R M) s.heap.size, ar, _, ⟨B.exec, B.bytes, B.returns, hml, hown, fun w hw => hts w (List.mem_cons_of_mem _ hw), B.notSynchronized, (name_of_methodNamed B.named B.method).1, hK, hSS, fun q hq => Or.inr hq, ⟨Nat.zero_le _, Nat.zero_le _, fun t ht => by
    obtain ⟨o, b1, b2, b3, b4⟩ := ht
    exact ⟨o, b1, b2, Or.inl ⟨b3, b4⟩⟩⟩, rfl⟩, hlt, hXS, htab, fun _ h9 => h9⟩
  have k2 := key (Nat.le_refl _) ad s.heap [] _ ⟨fun _ _ => rfl, fun _ => rfl⟩ hP hD hS hle
  rw [Nat.sub_self, Nat.sub_self] at k2
  rw [Nat.sub_self, Nat.sub_self]
  exact k2
section THW
variable {p : Program} {l : Launch} {e : Env} {R : Room} {s : State} {m : MethodId} {args : Array Value} {below : List Frame} {meth : Method} {c : Code} {H : Heap} {locs : List Loc} {cells slots : Nat} {free : Addr → Prop} {ls : Array Slot} {rest : List Value} {Qc : Array Value → State → Outcome → State → Prop} {XC : String → State → State → Prop}
theorem th_throw {cc : ByteArray} {pc : Nat} (hexec : p.tables.exec = Jvm.exec) (hb : c.code = cc) (hl : l.stackTraces = false) {text : String} {is mc ms sa : Nat} {A : Nat → Prop}
    (hown : s.vm.findClass RX11 = some m.cls) (hts : ∀ w ∈ TB, w.before args s = true) (hk : Cond.classLink RX11 288 NSE ∈ TB) (hini : Cond.initialized NSE ∈ TB) (hstr : vk_R RX11 is text sa s) (hXS : XS A s s.heap) (hS : va_S A s.heap H locs) (hsize : ls.size = c.maxLocals)
    (d0 : decode cc pc = .ok (.new 288, 3)) (d3 : decode cc (pc + 3) = .ok (.dup, 1)) (d4 : decode cc (pc + 4) = .ok (.ldc_w is, 3)) (d7 : decode cc (pc + 7) = .ok (.invokespecial 292, 3)) (d10 : decode cc (pc + 10) = .ok (.athrow, 1))
    (hout : ∀ x ∈ c.exceptionTable.toList, covers x (pc + 10) = false)
    (hRframes : 2 + 3 < R.frames) (hRlocals : (rest.map fun v => v.category).sum + (13 * (2 + 1) + 43) ≤ R.locals) (hRcells : cells + 1 ≤ R.cells) (hRslots : slots + 6 ≤ R.slots) (hlocks : meth.locks = false)
    (hx : ∀ t : State, s.vm.Alike t.vm → H.size ≤ t.heap.size → (∀ q : Nat, q < H.size → t.heap[q]? = H[q]?) → XC NSE s t)
    (hf : ∀ z ∈ locs, free z.base) (hc : cells + 1 ≤ mc) (hs : slots + 6 ≤ ms) :
    W p l e R s m args below meth c H locs cells slots (vx_MQ below Qc XC args s mc ms free) (F0 m pc ls rest) := by
  intro T hT X
  have htr : e.platform.stackTraces = false := (show e.platform.stackTraces = l.stackTraces by rw [X.admits.platform]).trans hl
  have Y := vx_rebase X (R' := { frames := R.frames, locals := R.locals, cells := 1, slots := 6 }) (Nat.le_refl _) (Nat.le_refl _) hRcells hRslots
  obtain ⟨s', hA⟩ : ∃ z, z = (T.setVm s.vm).setFrames (.invoking m args :: below) := ⟨_, rfl⟩
  rw [← hA] at Y
  have hvm : s'.vm = s.vm := by rw [hA]; rfl
  have hhp : s'.heap = H := by rw [hA]; exact hT
  have hW0 : s.WarmedH s'.vm := by rw [hvm]; exact State.WarmedH.refl s
  have hat' : ∀ w ∈ XWA, w.before args s' = true := fun w hw => vx_ot_at hW0 hvm.symm (XWA_ot hw) (XWA_at hts hXS.2.2 w hw)
  have got : ∀ w ∈ TB, w.before args s' = true := fun w hw => vx_ot_at hW0 hvm.symm (by simp [vx_ot, (List.mem_filter.mp hw).2]) (hts w hw)
  have hU' : vx_Zq Bundle.tN "UNASSIGNED_STACK" Bundle.steD A s' s'.heap := by rw [hhp]; exact vx_Zq.moved hW0.alike (hXS.1.kept hS.2.1)
  have hN' : vx_Zq Bundle.tN "SUPPRESSED_SENTINEL" Bundle.listD A s' s'.heap := by rw [hhp]; exact vx_Zq.moved hW0.alike (hXS.2.1.kept hS.2.1)
  have h : ∀ w ∈ th_W RX11 292 NSE "java/lang/RuntimeException" 13 prog_31_method_4_code ["java/lang/Exception"], w.before args s' = true := vx_own hat' (vx_isRefq hU'.1) (vx_isRefq hN'.1) hU'.2.word hN'.2.word
  have hown' : s'.vm.findClass RX11 = some m.cls := by rw [hvm]; exact hown
  have hins : (Cond.instantiable NSE 6).before args s' = true := h _ (by simp [th_W, th_rest])
  obtain ⟨vm₁, cX, kX, hfX, hkX, -, -, X₁, st1⟩ := Y.newCold hexec (own := RX11) (C := NSE) (index := 288) (n := 6) hown' (got _ hk) hins (got _ hini)
    (g := F0 m pc ls rest) rfl (by rw [hb]; exact d0) (Nat.le_refl _) (Nat.le_refl _)
  generalize hT1 : (T.setVm vm₁).pushCell { cls := cX, slots := kX.instanceTypes.map defaultValue, vm := .none } = T1 at X₁ st1
  have hcat : (Value.ref T.heap.size).category = 1 := rfl
  have hcellA : T1.heap[T.heap.size]? = some (freshCell cX kX) := by rw [← hT1]; exact State.heap_pushCell_size _ _
  have d3' : decode c.code (pc + 3) = .ok (.dup, 1) := by rw [hb]; exact d3
  have d4' : decode c.code (pc + 4) = .ok (.ldc_w is, 3) := by rw [hb]; exact d4
  have hstr' : vk_R RX11 is text sa s' := vk_R.warm hW0 hstr
  obtain ⟨U, hsteps, hrun, hend, hW, hsame, ce, hce, hcv, hcl0⟩ := th_ctor X₁ hexec htr (own := RX11) (cls := NSE) (sup := "java/lang/RuntimeException") (names := ["java/lang/Exception"]) (ic := 292) (ix := 13) (rx := prog_31_method_4_code) (by decide +kernel) (by decide +kernel) (by decide +kernel) (by decide +kernel) hown' (by decide +kernel) (by decide +kernel) (by decide +kernel) h (fun x hx => nomatch hx) hfX hkX hcellA (by rw [hhp, hT]; exact Nat.le_refl _) (msg := .ref sa) rfl
    (g := { method := m, pc := pc + 7, locals := ls, stack := .ref sa :: .ref T.heap.size :: .ref T.heap.size :: rest, locked := none }) rfl hsize rfl rfl (rest := rest) rfl
    (by rw [hb]; exact d7) (by rw [hb]; exact d10) hout hRframes (by simp only [List.map_cons, List.sum_cons, hcat, List.length_cons, List.length_nil]; omega) hlocks
  obtain ⟨f1, f2⟩ := vx_frame hsame
  rw [hhp] at f1 f2
  have hWs : s.WarmedH U.vm := State.WarmedH.trans hW0 hW
  have hcl : s.vm.findClass NSE = some ce.cls := by
    rw [hvm] at hcl0
    exact hcl0
  have hall : s.sameButNew ({ U with vm := s.vm } : State) locs mc ms := by
    subst hA
    obtain ⟨e1, e2⟩ := hsame
    rw [State.setFrames_setFrames] at e1
    have h2 : (T.setVm s.vm).sameButNew ({ U with vm := s.vm } : State) [] (0 + 1) (0 + 6) := ⟨e1, e2⟩
    have h3 := X.same.trans h2
    rw [List.append_nil] at h3
    exact h3.mono hc hs
  refine ⟨U, ?_, .threw T.heap.size, hrun, hend, Or.inr ⟨T.heap.size, rfl, NSE, ce, locs, hx U hWs.alike f1 (fun q hq => f2 q hq (fun z hz => nomatch hz)), hce, hcv, hcl, hWs, hall, hf⟩⟩
  refine st1 _ ?_
  show Steps p.tables e below (T1.setTop { method := m, pc := pc + 3, locals := ls, stack := .ref T.heap.size :: rest, locked := none }) _
  jvm_step X₁.here [X₁.here.top, hexec, d3', Value.category]
  exact X₁.ldcStringW hexec (own := RX11) (text := text) (index := is) (a := sa) hown' hstr'.1 hstr'.2
    (g := { method := m, pc := pc + 4, locals := ls, stack := .ref T.heap.size :: .ref T.heap.size :: rest, locked := none }) rfl d4' _ hsteps
end THW
theorem r_throw {sh : Sh} {y : MethodName} {cc : ByteArray} {nL : Nat} {ret : Option FieldType} {d n : Nat} {R : Rr} {Q : Option AV → Rr → Mm → Prop} {X : Mm → Prop} {K : Nat → Rr → Nat → List (Nat × AV) → List AV → Mm → Prop} {pc : Nat} {L : List (Nat × AV)} {S : List AV} {M : Mm} {is k : Nat} {tx : String} (h : EKX sh y cc nL ret d n R Q X K) (hy : y.cls = RX11)
    (hk : Cond.classLink RX11 288 NSE ∈ TB) (hini : Cond.initialized NSE ∈ TB) (hq : (RX11, is, tx, k) ∈ sF) (hd8 : 8 ≤ d) (hs9 : (S.map (fun v => if isl v then 2 else 1)).sum ≤ 8)
    (d0 : decode cc pc = .ok (.new 288, 3)) (d3 : decode cc (pc + 3) = .ok (.dup, 1)) (d4 : decode cc (pc + 4) = .ok (.ldc_w is, 3)) (d7 : decode cc (pc + 7) = .ok (.invokespecial 292, 3)) (d10 : decode cc (pc + 10) = .ok (.athrow, 1))
    (kk : X M) : K n R pc L S M := by
  obtain ⟨p, l, e, s, m, args, below, meth, c, ad0, sad, D, A, ar, Z, ⟨hx, hb, hr, hml, hown, hts, hlk, hnm, hK, hSS, hA, ⟨hgc, hgs, hZ⟩, rfl⟩, hlt, hXS, htab, hZX⟩ := h
  intro hn ad H locs ls had hP hD hS hl
  have e9 : ad = ad0 := had.2 rfl
  subst e9
  rw [hy] at hown
  refine W_mono hZX (th_throw hx hb hlt hown hts hk hini (hSS.2.2.2.2 _ hq) hXS hS (by rw [hml]; exact hl.1) d0 d3 d4 d7 d10 (fun x hx9 => (htab x hx9).elim) ?_ ?_ ?_ ?_ hlk ?_ hS.2.2 (Nat.le_of_eq (by rw [Nat.sub_self])) (Nat.le_of_eq (by rw [Nat.sub_self])))
  · show 2 + 3 < d
    omega
  · show _ ≤ 64 * d
    have := cat_sum ad sad S
    omega
  · show n - n + 0 + 1 ≤ n - n + 1
    omega
  · show cum sh n - cum sh n + 0 + 6 ≤ cum sh n - cum sh n + 6
    omega
  · intro t hal hsz hkp
    refine ⟨rfl, ⟨M, kk, hP.kept (fun k9 q9 h9 => hkp _ (vx_lt hP h9)), hD⟩, Nat.le_trans hS.1 hsz, fun q h1 h2 => ?_⟩
    rw [hkp q (Nat.lt_of_lt_of_le h1 hS.1)]
    exact hS.2.1 q h1 h2
