/-- the links between nest mates: the constructors that the class and its Standing call -/
def NSL : List (String × Nat × MethodName) := [("MangleTown", 9, yX7_init), ("MangleTown", 28, yX10_init), ("MangleTown", 35, yX6_init), ("MangleTown", 42, yX5_init), ("MangleTown$Standing", 11, yX6_init), ("MangleTown$Standing", 20, yX10_init), ("MangleTown", 64, yX2_init), ("MangleTown", 71, yX3_init), ("MangleTown", 78, yX4_init)]
/-- what constructors need beyond the tables' lasting words -/
def KS (U : State) : Prop := (∀ q ∈ NSL, va_Nw (.methodLinkNest q.1 q.2.1 q.2.2 "MangleTown") U) ∧ va_AO RX5 U ∧ va_AO RX6 U
theorem KS.warm {u U : State} (hW : u.WarmedH U.vm) (h : KS u) : KS U := ⟨fun q hq => va_Nw.warmM hW (h.1 q hq), h.2.1.moved hW.alike, h.2.2.moved hW.alike⟩
theorem KS.same {u U : State} (hv : U.vm = u.vm) (h : KS u) : KS U := by
  have ha : u.vm.Alike U.vm := by rw [hv]; exact Vm.Alike.refl _
  exact ⟨fun q hq => va_Nw.same rfl hv.symm (h.1 q hq), h.2.1.moved ha, h.2.2.moved ha⟩
def EKO (sh : Sh) (y : MethodName) (cc : ByteArray) (nL : Nat) (ret : Option FieldType) (d n0 n1 : Nat) (Q : Option AV → Rr → Mm → Prop) (K : Nat → Rr → Nat → List (Nat × AV) → List AV → Mm → Prop) : Prop :=
  ∃ (p : Program) (l : Launch) (e : Env) (s : State) (m : MethodId) (args : Array Value) (below : List Frame) (meth : Method) (c : Code) (ad0 sad : Nat → Nat) (D : va_G) (A : Nat → Prop) (ar : Nat → ClassId) (xc xs gc gs : Nat) (Z : State → Prop),
    EKc sh y cc nL ret d n0 n1 Q p l e s m args below meth c ad0 sad D A ar xc xs gc gs Z K ∧ KS s
theorem EKO.ek {sh : Sh} {y : MethodName} {cc : ByteArray} {nL : Nat} {ret : Option FieldType} {d n0 n1 : Nat} {Q : Option AV → Rr → Mm → Prop} {K : Nat → Rr → Nat → List (Nat × AV) → List AV → Mm → Prop} (h : EKO sh y cc nL ret d n0 n1 Q K) : EK sh y cc nL ret d n0 n1 Q K := by
  obtain ⟨p, l, e, s, m, args, below, meth, c, ad0, sad, D, A, ar, xc, xs, gc, gs, Z, h, -⟩ := h
  exact ⟨p, l, e, s, m, args, below, meth, c, ad0, sad, D, A, ar, xc, xs, gc, gs, Z, h⟩
def PcO (sh : Sh) (ar : Nat → ClassId) (ad sad : Nat → Nat) (D : va_G) (sz n0 : Nat) (R : Rr) (M : Mm) (as : List AV) : Array Value → State → Prop :=
  va_Pc (as.map (cv ad sad)) (fun U => U.heap.size = sz ∧ va_P D vwCl (wld sh ar ad sad n0 R M) U.heap ∧ va_K D vwCl (tysL ar) U ∧ va_D (fun _ => True) (wld sh ar ad sad n0 R M) ∧ SS sad (va_A (wld sh ar ad sad n0 R M) sz) U U.heap ∧ KS U)
theorem PcO_blind {sh : Sh} {ar : Nat → ClassId} {ad sad : Nat → Nat} {D : va_G} {sz n0 : Nat} {R : Rr} {M : Mm} {as : List AV} : FrameBlind (PcO sh ar ad sad D sz n0 R M as) := by
  intro a U g mk q
  obtain ⟨q0, q1, qP, qK, qD, qS, qX⟩ := q
  exact ⟨q0, q1, qP, va_K.moved (u := U) (U := U.calling g mk a) (Vm.Alike.refl U.vm) qK, qD, SS.same (u := U) (U := U.calling g mk a) rfl qS, KS.same (u := U) (U := U.calling g mk a) rfl qX⟩
theorem PcO_of {sh : Sh} {ar : Nat → ClassId} {ad sad : Nat → Nat} {D : va_G} {n : Nat} {R : Rr} {M : Mm} {as : List AV} {A : Nat → Prop} {s : State} {H : Heap} {locs : List Loc} (hK : va_K D vwCl (tysL ar) s) (hSS : SS sad A s s.heap) (hKS : KS s) (hP : va_P D vwCl (wld sh ar ad sad n R M) H) (hD : va_D A (wld sh ar ad sad n R M)) (hS : va_S A s.heap H locs) (hF : ∀ q, va_A (wld sh ar ad sad n R M) H.size q → A q) :
    ∀ U : State, U.heap = H → s.WarmedH U.vm → PcO sh ar ad sad D H.size n R M as (as.map (cv ad sad)).toArray U := by
  intro U hU hW
  refine ⟨rfl, by rw [hU], by rw [hU]; exact hP, va_K.moved hW.alike hK, hD.weaken (fun _ _ _ _ => trivial), ?_, hKS.warm hW⟩
  rw [hU]
  exact ((hSS.kept hS.2.1).narrow hF).warm hW
def MSo (sh : Sh) (y : MethodName) (cc : ByteArray) (nL : Nat) (ret : Option FieldType) (d n0 n1 : Nat) (R : Rr) (as : List AV) (M : Mm) (Q : Option AV → Rr → Mm → Prop) : Prop :=
  ∀ (l : Launch) (ad sad : Nat → Nat) (D : va_G) (ar : Nat → ClassId) (sz : Nat), Met l y (Cond.code y cc nL ret :: TB) (rmd sh d n0 n1) (PcO sh ar ad sad D sz n0 R M as)
    (Qc sh ar ad sad D (va_A (wld sh ar ad sad n0 R M) sz) n0 n1 Q) (n1 - n0) (cum sh n1 - cum sh n0) (va_A (wld sh ar ad sad n0 R M) sz)
theorem MSo_of {sh : Sh} {y : MethodName} {cc : ByteArray} {nL : Nat} {ret : Option FieldType} {d n0 n1 : Nat} {R : Rr} {as : List AV} {M : Mm} {Q : Option AV → Rr → Mm → Prop} (hy : plainFor y = true) (hl : avlen as ≤ nL) (h : ∀ K, EKO sh y cc nL ret d n0 n1 Q K → K n0 R 0 (avargs 0 as) [] M) : MSo sh y cc nL ret d n0 n1 R as M Q := by
  intro l ad sad D ar sz
  refine va_MetF (cc := cc) (maxL := nL) (ret := ret) hy rfl ?_
  intro p e s m args below meth c s₁ B hml hv
  obtain ⟨rfl, hsz, hP, hK, hD0, hSS, hKS⟩ := hv
  subst hsz
  have hts := atoms_spec (ws := Cond.code y cc nL ret :: TB) B.pre
  have hown : s.vm.findClass y.cls = some m.cls := findClass_of_methodNamed B.named
  have hD := hD0.self (sz := s.heap.size)
  have hS : va_S (va_A (wld sh ar ad sad n0 R M) s.heap.size) s.heap s.heap [] := va_S.rf
  have hle := lv_entry (as.map (cv ad sad)) (n := nL) (by rw [avlen_sl]; exact hl)
  rw [avargs_map] at hle
  rw [lg_entry_eq]
  have key := h _ ⟨p, l, e, s, m, _, below, meth, c, ad, sad, D, va_A (wld sh ar ad sad n0 R M) s.heap.size, ar, 0, 0, 0, 0, _, ⟨B.exec, B.bytes, B.returns, hml, hown, fun w hw => hts w (List.mem_cons_of_mem _ hw), B.notSynchronized, (name_of_methodNamed B.named B.method).1, hK, hSS, fun q hq => Or.inr hq, ⟨Nat.le_refl _, Nat.le_refl _, fun _ h9 => h9⟩, rfl⟩, hKS⟩
  have k2 := key (Nat.le_refl _) ad s.heap [] _ ⟨fun _ _ => rfl, fun _ => rfl⟩ hP hD hS hle
  rw [Nat.sub_self, Nat.sub_self] at k2
  exact k2
/-- a constructor that needs none of it has the other contract too -/
theorem MSo_ofK {sh : Sh} {y : MethodName} {cc : ByteArray} {nL : Nat} {ret : Option FieldType} {d n0 n1 : Nat} {R : Rr} {as : List AV} {M : Mm} {Q : Option AV → Rr → Mm → Prop} (hy : plainFor y = true) (hl : avlen as ≤ nL) (h : ∀ K, EK sh y cc nL ret d n0 n1 Q K → K n0 R 0 (avargs 0 as) [] M) : MSo sh y cc nL ret d n0 n1 R as M Q := MSo_of hy hl (fun K hK => h K hK.ek)
def MLN (own : String) (idx : Nat) (y' : MethodName) (cc' : ByteArray) (nL' na : Nat) : Prop := (own, idx, y') ∈ NSL ∧ Cond.initialized y'.cls ∈ TB ∧ Cond.code y' cc' nL' none ∈ TB ∧ (y'.cls ≠ "java/lang/invoke/MethodHandle" ∧ y'.cls ≠ "java/lang/invoke/VarHandle" ∧ (parseMethodDescriptor y'.desc).map (fun d => d.parameters.length) = some na) ∧ nL' ≤ 45 ∧ y'.name = "<init>" ∧ Cond.instanceMethod y' ∈ TB
theorem r_initN {sh : Sh} {y : MethodName} {cc : ByteArray} {nL : Nat} {ret : Option FieldType} {d n0 n1 : Nat} {Q : Option AV → Rr → Mm → Prop} {K : Nat → Rr → Nat → List (Nat × AV) → List AV → Mm → Prop} {n : Nat} {R : Rr} {pc : Nat} {L : List (Nat × AV)} {S S0 : List AV} {M : Mm} {y' : MethodName} {cc' : ByteArray} {nL' : Nat} {idx na d' b n' : Nat} {as : List AV} {Q' : Option AV → Rr → Mm → Prop}
    (h : EKO sh y cc nL ret d n0 n1 Q K) (ml : MLN y.cls idx y' cc' nL' na) (hm : MSo sh y' cc' nL' none d' n n' R (vr b :: as) M Q') (hd9 : d' + 1 ≤ d) (hnn : n ≤ n') (hn1 : n' ≤ n1) (hlen : as.length = na) (hst : S0 = as.reverse ++ vr b :: S) (hL : avs n (L.map (fun q => q.2))) (hS9 : avs n S) (hs9 : (S.map (fun v => if isl v then 2 else 1)).sum ≤ 8) (hd : decode cc pc = .ok (.invokespecial idx, 3)) (hrn : ∀ r R' M', Q' r R' M' → r = none)
    (kk : ∀ R' M', Q' none R' M' → K n' R' (pc + 3) L S M') : K n R pc L S0 M := by
  obtain ⟨p, l, e, s, m, args, below, meth, c, ad0, sad, D, A, ar, xc, xs, gc, gs, Z, ⟨hx, hb, hr, hml, hown, hts, hlk, hnm, hK, hSS, hA, ⟨hgc, hgs, hZ⟩, rfl⟩, hKS⟩ := h
  intro hn ad H locs ls had hP hD hS hl
  subst hst
  have hF := va_A_sub hD hS hA
  have em := cum_mono (sh := sh) hn
  have em1 := cum_mono (sh := sh) hnn
  have em2 := cum_mono (sh := sh) hn1
  have cn := va_cnB (R := rmx sh d n0 n1 xc xs) (rm := rmd sh d' n n') (mc := n' - n) (ms := cum sh n' - cum sh n) na hts (ws_good ml.2.2.1) rfl rfl rfl (hKS.1 _ ml.1) (hts _ ml.2.1) ml.2.2.2.1 ⟨hd9, by have := ml.2.2.2.2.1; show 8 + (nL' + 11) + 64 * d' ≤ 64 * d; omega⟩
  have run := va_runIN (b := ad b) (As := as.map (cv ad sad)) (rest := S.map (cv ad sad)) (g := F0 m pc ls ((as.reverse ++ vr b :: S).map (cv ad sad))) (below := below) (meth := meth) (e := e) (locs := locs) (cells := n - n0 + gc) (slots := cum sh n - cum sh n0 + gs) ⟨hx, hb, hml, hown, hts⟩ (hm l ad sad D ar H.size) (R := rmx sh d n0 n1 xc xs) ⟨cn, ml.2.2.2.2.2.1, hts _ ml.2.2.2.2.2.2⟩
    ⟨PcO_blind (as := vr b :: as), PcO_of (as := vr b :: as) hK hSS hKS hP hD hS hF⟩ rfl (by rw [List.length_map]; exact hlen) hl.1 (by simp [cv, List.map_reverse]) (lv_room (by rw [cat_sum]; exact hs9)) hd ⟨by show _ ≤ n1 - n0 + xc; omega, by show _ ≤ cum sh n1 - cum sh n0 + xs; omega⟩
  refine w_call run hS hF ?_
  intro ad' r R' M' H1 locs1 hq hag hP1 hD1 hS1
  obtain rfl := hrn r R' M' hq
  have k2 := kk R' M' hq (by omega) ad' H1 locs1 ls ⟨fun c hc9 => (hag.1 c (by omega)).trans (had.1 c hc9), fun e9 => by
    have e1 : n' = n := by omega
    have e2 : n = n0 := by omega
    rw [hag.2 e1, had.2 e2]⟩ hP1 (hD1.weaken (fun _ _ _ h9 => hF _ h9)) hS1 (by rw [avs_mapL hag.1 L hL]; exact hl)
  rw [avs_map hag.1 S hS9, show n' - n0 + gc = n - n0 + gc + (n' - n) by omega, show cum sh n' - cum sh n0 + gs = cum sh n - cum sh n0 + gs + (cum sh n' - cum sh n) by omega] at k2
  exact k2
theorem q_initN {sh : Sh} {RT : Rr} {MT : Mm} {b n : Nat} {R0 : Rr} {M0 : Mm} {F : Nat → Nat} {G : Nat → Int} {R : Rr} {M : Mm} {y : MethodName} {cc : ByteArray} {nL : Nat} {ret : Option FieldType} {d n0 n1 : Nat} {Q : Option AV → Rr → Mm → Prop} {K : Nat → Rr → Nat → List (Nat × AV) → List AV → Mm → Prop} {pc : Nat} {L : List (Nat × AV)} {S : List AV} {y' : MethodName} {cc' : ByteArray} {nL' idx na d' : Nat} {as : List AV} {MT' : Mm} (h : EKO sh y cc nL ret d n0 n1 Q K) (hD : MDp sh RT MT b n R0 M0 F G R M) (n' : Nat) (hm : MSo sh y' cc' nL' none d' (n + 1) n' (upr R (n + 1) zr) (vr (n + 1) :: as) (upr M (n + 1) z0) (QN (MD sh RT MT' (n + 1) n' (upr R (n + 1) zr) (upr M (n + 1) z0)))) (ml : MLN y.cls idx y' cc' nL' na) (hd9 : d' + 1 ≤ d) (hnn : n + 1 ≤ n') (hn1 : n' ≤ n1) (hlen : as.length = na) (hT : ∀ c, n < c → c ≤ n' → MT' c = MT c) {S0 : List AV} (hst : S0 = as.reverse ++ vr (n + 1) :: S) (hL : avs (n + 1) (L.map (fun q => q.2))) (hS9 : avs (n + 1) S) (hs9 : (S.map (fun v => if isl v then 2 else 1)).sum ≤ 8) (hd : decode cc pc = .ok (.invokespecial idx, 3))
    (kk : ∀ R' M', MDp sh RT MT b n' R0 M0 F G R' M' → (∀ c, c ≤ n → R' c = R c ∧ M' c = M c) → K n' R' (pc + 3) L S M') : K (n + 1) (upr R (n + 1) zr) pc L S0 (upr M (n + 1) z0) := by
  refine r_initN h ml hm hd9 hnn hn1 hlen hst hL hS9 hs9 hd (fun r R' M' q => q.1) (fun R' M' q => ?_)
  obtain ⟨a1, a2⟩ := hD.sub hnn hT q.2
  exact kk R' M' a1 a2
