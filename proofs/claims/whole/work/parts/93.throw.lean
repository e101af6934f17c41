def NSE : String := "java/util/NoSuchElementException"
def XS (A : Nat → Prop) (U : State) (H : Heap) : Prop := vx_Zq Bundle.tN "UNASSIGNED_STACK" Bundle.steD A U H ∧ vx_Zq Bundle.tN "SUPPRESSED_SENTINEL" Bundle.listD A U H
theorem XS.warm {A : Nat → Prop} {u U : State} {H : Heap} (hW : u.WarmedH U.vm) (h : XS A u H) : XS A U H := ⟨h.1.moved hW.alike, h.2.moved hW.alike⟩
theorem XS.same {A : Nat → Prop} {u U : State} {H : Heap} (hv : U.vm = u.vm) (h : XS A u H) : XS A U H := by
  have ha : u.vm.Alike U.vm := by rw [hv]; exact Vm.Alike.refl _
  exact ⟨h.1.moved ha, h.2.moved ha⟩
theorem XS.kept {A : Nat → Prop} {U : State} {H H1 : Heap} (h : XS A U H) (hq : ∀ a : Nat, a < H.size → ¬ A a → H1[a]? = H[a]?) : XS A U H1 := ⟨h.1.kept hq, h.2.kept hq⟩
theorem XS.narrow {A B : Nat → Prop} {U : State} {H : Heap} (h : XS A U H) (hAB : ∀ q, B q → A q) : XS B U H := ⟨h.1.narrow hAB, h.2.narrow hAB⟩
/-- a method's end by a thrown exception: the world behind it -/
def XCm (sh : Sh) (ar : Nat → ClassId) (ad sad : Nat → Nat) (D : va_G) (A : Nat → Prop) (n : Nat) (R : Rr) (X : Mm → Prop) : String → State → State → Prop := fun E st t =>
  E = NSE ∧ (∃ M : Mm, X M ∧ va_P D vwCl (wld sh ar ad sad n R M) t.heap ∧ va_D A (wld sh ar ad sad n R M)) ∧ va_F A st t
/-- K is the walk of a method that may throw -/
def EKX (sh : Sh) (y : MethodName) (cc : ByteArray) (nL : Nat) (ret : Option FieldType) (d n : Nat) (R : Rr) (Q : Option AV → Rr → Mm → Prop) (X : Mm → Prop) (K : Nat → Rr → Nat → List (Nat × AV) → List AV → Mm → Prop) : Prop :=
  ∃ (p : Program) (l : Launch) (e : Env) (s : State) (m : MethodId) (args : Array Value) (below : List Frame) (meth : Method) (c : Code) (ad0 sad : Nat → Nat) (D : va_G) (A : Nat → Prop) (ar : Nat → ClassId) (Z : State → Prop),
    EKc sh y cc nL ret d n n Q p l e s m args below meth c ad0 sad D A ar 1 6 0 0 Z K ∧ l.stackTraces = false ∧ XS A s s.heap ∧ (∀ x ∈ c.exceptionTable.toList, False) ∧ ∀ t, vx_MQ below (Qc sh ar ad0 sad D A n n Q) (XCm sh ar ad0 sad D A n R X) args s (n - n + 1) (cum sh n - cum sh n + 6) A t → Z t
theorem EKX.ek {sh : Sh} {y : MethodName} {cc : ByteArray} {nL : Nat} {ret : Option FieldType} {d n : Nat} {R : Rr} {Q : Option AV → Rr → Mm → Prop} {X : Mm → Prop} {K : Nat → Rr → Nat → List (Nat × AV) → List AV → Mm → Prop} (h : EKX sh y cc nL ret d n R Q X K) : EK sh y cc nL ret d n n Q K := by
  obtain ⟨p, l, e, s, m, args, below, meth, c, ad0, sad, D, A, ar, Z, h, -⟩ := h
  exact ⟨p, l, e, s, m, args, below, meth, c, ad0, sad, D, A, ar, 1, 6, 0, 0, Z, h⟩
def PcX (sh : Sh) (ar : Nat → ClassId) (ad sad : Nat → Nat) (D : va_G) (sz n0 : Nat) (R : Rr) (M : Mm) (as : List AV) : Array Value → State → Prop :=
  va_Pc (as.map (cv ad sad)) (fun U => U.heap.size = sz ∧ va_P D vwCl (wld sh ar ad sad n0 R M) U.heap ∧ va_K D vwCl (tysL ar) U ∧ va_D (fun _ => True) (wld sh ar ad sad n0 R M) ∧ SS sad (va_A (wld sh ar ad sad n0 R M) sz) U U.heap ∧ XS (va_A (wld sh ar ad sad n0 R M) sz) U U.heap)
theorem PcX_blind {sh : Sh} {ar : Nat → ClassId} {ad sad : Nat → Nat} {D : va_G} {sz n0 : Nat} {R : Rr} {M : Mm} {as : List AV} : FrameBlind (PcX sh ar ad sad D sz n0 R M as) := by
  intro a U g mk q
  obtain ⟨q0, q1, qP, qK, qD, qS, qX⟩ := q
  exact ⟨q0, q1, qP, va_K.moved (u := U) (U := U.calling g mk a) (Vm.Alike.refl U.vm) qK, qD, SS.same (u := U) (U := U.calling g mk a) rfl qS, XS.same (u := U) (U := U.calling g mk a) rfl qX⟩
theorem PcX_of {sh : Sh} {ar : Nat → ClassId} {ad sad : Nat → Nat} {D : va_G} {n : Nat} {R : Rr} {M : Mm} {as : List AV} {A : Nat → Prop} {s : State} {H : Heap} {locs : List Loc} (hK : va_K D vwCl (tysL ar) s) (hSS : SS sad A s s.heap) (hXS : XS A s s.heap) (hP : va_P D vwCl (wld sh ar ad sad n R M) H) (hD : va_D A (wld sh ar ad sad n R M)) (hS : va_S A s.heap H locs) (hF : ∀ q, va_A (wld sh ar ad sad n R M) H.size q → A q) :
    ∀ U : State, U.heap = H → s.WarmedH U.vm → PcX sh ar ad sad D H.size n R M as (as.map (cv ad sad)).toArray U := by
  intro U hU hW
  refine ⟨rfl, by rw [hU], by rw [hU]; exact hP, va_K.moved hW.alike hK, hD.weaken (fun _ _ _ _ => trivial), ?_, ?_⟩
  · rw [hU]
    exact ((hSS.kept hS.2.1).narrow hF).warm hW
  · rw [hU]
    exact ((hXS.kept hS.2.1).narrow hF).warm hW
/-- the contract of a method that may throw -/
def MSx (sh : Sh) (y : MethodName) (cc : ByteArray) (nL : Nat) (ret : Option FieldType) (d n : Nat) (R : Rr) (as : List AV) (M : Mm) (Q : Option AV → Rr → Mm → Prop) (X : Mm → Prop) : Prop :=
  ∀ (l : Launch) (ad sad : Nat → Nat) (D : va_G) (ar : Nat → ClassId) (sz : Nat), l.stackTraces = false → vx_Met l y (Cond.code y cc nL ret :: TB) (rmx sh d n n 1 6)
    (PcX sh ar ad sad D sz n R M as) (Qc sh ar ad sad D (va_A (wld sh ar ad sad n R M) sz) n n Q) (XCm sh ar ad sad D (va_A (wld sh ar ad sad n R M) sz) n R X) (n - n + 1) (cum sh n - cum sh n + 6) (va_A (wld sh ar ad sad n R M) sz)
theorem MSx_of {sh : Sh} {y : MethodName} {cc : ByteArray} {nL : Nat} {ret : Option FieldType} {d n : Nat} {R : Rr} {as : List AV} {M : Mm} {Q : Option AV → Rr → Mm → Prop} {X : Mm → Prop} (hy : plainName y.cls = true) (hl : avlen as ≤ nL) (h : ∀ K, EKX sh y cc nL ret d n R Q X K → K n R 0 (avargs 0 as) [] M) : MSx sh y cc nL ret d n R as M Q X := by
  intro l ad sad D ar sz hlt
  refine vx_ofW (cc := cc) (maxL := nL) (ret := ret) hy rfl ?_
  intro p e s m args below meth c s₁ B hml htab hv
  obtain ⟨rfl, hsz, hP, hK, hD0, hSS, hXS⟩ := hv
  subst hsz
  have hts := atoms_spec (ws := Cond.code y cc nL ret :: TB) B.pre
  have hown : s.vm.findClass y.cls = some m.cls := findClass_of_methodNamed B.named
  have hD := hD0.self (sz := s.heap.size)
  have hS : va_S (va_A (wld sh ar ad sad n R M) s.heap.size) s.heap s.heap [] := va_S.rf
  have hle := lv_entry (as.map (cv ad sad)) (n := nL) (by rw [avlen_sl]; exact hl)
  rw [avargs_map] at hle
  rw [lg_entry_eq]
  have key := h _ ⟨p, l, e, s, m, _, below, meth, c, ad, sad, D, va_A (wld sh ar ad sad n R M) s.heap.size, ar, _, ⟨B.exec, B.bytes, B.returns, hml, hown, fun w hw => hts w (List.mem_cons_of_mem _ hw), B.notSynchronized, (name_of_methodNamed B.named B.method).1, hK, hSS, fun q hq => Or.inr hq, ⟨Nat.zero_le _, Nat.zero_le _, fun t ht => by
    obtain ⟨o, b1, b2, b3, b4⟩ := ht
    exact ⟨o, b1, b2, Or.inl ⟨b3, b4⟩⟩⟩, rfl⟩, hlt, hXS, htab, fun _ h9 => h9⟩
  have k2 := key (Nat.le_refl _) ad s.heap [] _ ⟨fun _ _ => rfl, fun _ => rfl⟩ hP hD hS hle
  rw [Nat.sub_self, Nat.sub_self] at k2
  rw [Nat.sub_self, Nat.sub_self]
  exact k2
theorem atS_TB : ∀ w ∈ vx_atS RX11 292 NSE ["java/lang/RuntimeException", "java/lang/Exception"], w ∈ TB := by decide +kernel
theorem r_throw {sh : Sh} {y : MethodName} {cc : ByteArray} {nL : Nat} {ret : Option FieldType} {d n : Nat} {R : Rr} {Q : Option AV → Rr → Mm → Prop} {X : Mm → Prop} {K : Nat → Rr → Nat → List (Nat × AV) → List AV → Mm → Prop} {pc : Nat} {L : List (Nat × AV)} {S : List AV} {M : Mm} {is k : Nat} {tx : String} (h : EKX sh y cc nL ret d n R Q X K) (hy : y.cls = RX11)
    (hk : Cond.classLink RX11 288 NSE ∈ TB) (hini : Cond.initialized NSE ∈ TB) (hq : (RX11, is, tx, k) ∈ sF) (hd8 : 8 ≤ d) (hs9 : (S.map (fun v => if isl v then 2 else 1)).sum ≤ 8)
    (d0 : decode cc pc = .ok (.new 288, 3)) (d3 : decode cc (pc + 3) = .ok (.dup, 1)) (d4 : decode cc (pc + 4) = .ok (.ldc_w is, 3)) (d7 : decode cc (pc + 7) = .ok (.invokespecial 292, 3)) (d10 : decode cc (pc + 10) = .ok (.athrow, 1))
    (kk : X M) : K n R pc L S M := by
  obtain ⟨p, l, e, s, m, args, below, meth, c, ad0, sad, D, A, ar, Z, ⟨hx, hb, hr, hml, hown, hts, hlk, hnm, hK, hSS, hA, ⟨hgc, hgs, hZ⟩, rfl⟩, hlt, hXS, htab, hZX⟩ := h
  intro hn ad H locs ls had hP hD hS hl
  have e9 : ad = ad0 := had.2 rfl
  subst e9
  rw [hy] at hown
  refine W_mono hZX (vx_throwSW (names := ["java/lang/RuntimeException", "java/lang/Exception"]) (cls := NSE) hx hb hlt hown (by decide +kernel) (by decide +kernel) (hts _ hk) (hts _ hini) (hSS.2.2.2.2 _ hq) (fun w hw => hts w (atS_TB w hw)) ?_ hXS.1 hXS.2 hS (by rw [hml]; exact hl.1) d0 d3 d4 d7 d10 (fun x hx9 => (htab x hx9).elim) ?_ ?_ ?_ ?_ hlk ?_ hS.2.2 (Nat.le_of_eq (by rw [Nat.sub_self])) (Nat.le_of_eq (by rw [Nat.sub_self])))
  · intro w hw
    have hg : goodWord w = true := by
      rcases List.mem_cons.mp hw with rfl | hw
      · exact (List.mem_filter.mp hk).2
      rcases List.mem_cons.mp hw with rfl | hw
      · exact (List.mem_filter.mp hini).2
      exact (List.mem_filter.mp (atS_TB w hw)).2
    simp [vx_ot, hg]
  · show 2 + 3 < d
    omega
  · show _ ≤ 64 * d
    have := cat_sum ad sad S
    simp only [List.length_cons, List.length_nil]
    omega
  · show n - n + 0 + 1 ≤ n - n + 1
    omega
  · show cum sh n - cum sh n + 0 + 6 ≤ cum sh n - cum sh n + 6
    omega
  · intro t hal hsz hkp
    refine ⟨rfl, ⟨M, kk, hP.kept (fun k9 q9 h9 => hkp _ (vx_lt hP h9)), hD⟩, Nat.le_trans hS.1 hsz, fun q h1 h2 => ?_⟩
    rw [hkp q (Nat.lt_of_lt_of_le h1 hS.1)]
    exact hS.2.1 q h1 h2
