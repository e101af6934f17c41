def MLB (own : String) (idx : Nat) (y' : MethodName) (cc' : ByteArray) (nL' : Nat) (ret' : Option FieldType) (na : Nat) : Prop := Cond.methodLink own idx y' ∈ TB ∧ Cond.initialized y'.cls ∈ TB ∧ Cond.code y' cc' nL' ret' ∈ TB ∧ (y'.cls ≠ "java/lang/invoke/MethodHandle" ∧ y'.cls ≠ "java/lang/invoke/VarHandle" ∧ (parseMethodDescriptor y'.desc).map (fun d => d.parameters.length) = some na) ∧ nL' ≤ 45
def MLV (own : String) (idx : Nat) (y' : MethodName) (cc' : ByteArray) (nL' : Nat) (ret' : Option FieldType) (na ci : Nat) : Prop := MLB own idx y' cc' nL' ret' na ∧ Cond.instanceMethod y' ∈ TB ∧ Cond.selects y'.cls y' y' ∈ TB ∧ vwCl[ci]? = some (y'.cls, (ctN ci).2.1, (ctN ci).2.2.1)
def MLS (own : String) (idx : Nat) (y' : MethodName) (cc' : ByteArray) (nL' : Nat) (ret' : Option FieldType) (na : Nat) : Prop := MLB own idx y' cc' nL' ret' na ∧ Cond.static y' ∈ TB
def MLE (own : String) (idx : Nat) (y' : MethodName) (cc' : ByteArray) (nL' : Nat) (ret' : Option FieldType) (na : Nat) (C : String) : Prop := MLB own idx y' cc' nL' ret' na ∧ Cond.instanceMethod y' ∈ TB ∧ Cond.selects C y' y' ∈ TB
theorem ws_good {y' : MethodName} {cc' : ByteArray} {nL' : Nat} {ret' : Option FieldType} (h : Cond.code y' cc' nL' ret' ∈ TB) : GoodIn TB (Cond.code y' cc' nL' ret' :: TB) := by
  intro w hw
  have hw' : w ∈ TB := by
    rcases List.mem_cons.mp hw with rfl | hw
    · exact h
    · exact hw
  exact ⟨hw', TB_good hw'⟩
theorem callB_TB {sh : Sh} {s : State} {args : Array Value} {y y' : MethodName} {cc' : ByteArray} {nL' : Nat} {ret' : Option FieldType} {idx na d d' n0 n1 xc xs n n' : Nat} (hts : ∀ w ∈ TB, w.before args s = true) (ml : MLB y.cls idx y' cc' nL' ret' na) (hd : d' + 1 ≤ d) :
    CallB (rmx sh d n0 n1 xc xs) s args y.cls idx y' cc' nL' ret' (Cond.code y' cc' nL' ret' :: TB) (rmd sh d' n n') (n' - n) (cum sh n' - cum sh n) na :=
  callB_of na hts (ws_good ml.2.2.1) rfl rfl rfl (hts _ ml.2.1) (hts _ ml.1) ml.2.2.2.1 ⟨hd, by have := ml.2.2.2.2; show 8 + (nL' + 11) + 64 * d' ≤ 64 * d; omega⟩
def PcM (sh : Sh) (ar : Nat → ClassId) (ad sad : Nat → Nat) (D : va_G) (sz n0 : Nat) (R : Rr) (M : Mm) (as : List AV) : Array Value → State → Prop :=
  va_Pc (as.map (cv ad sad)) (fun U => U.heap.size = sz ∧ va_P D vwCl (wld sh ar ad sad n0 R M) U.heap ∧ va_K D vwCl (tysL ar) U ∧ va_D (fun _ => True) (wld sh ar ad sad n0 R M) ∧ SS sad (va_A (wld sh ar ad sad n0 R M) sz) U U.heap)
theorem PcM_blind {sh : Sh} {ar : Nat → ClassId} {ad sad : Nat → Nat} {D : va_G} {sz n0 : Nat} {R : Rr} {M : Mm} {as : List AV} : FrameBlind (PcM sh ar ad sad D sz n0 R M as) := by
  intro a U g mk q
  obtain ⟨q0, q1, qP, qK, qD, qS⟩ := q
  exact ⟨q0, q1, qP, va_K.moved (u := U) (U := U.calling g mk a) (Vm.Alike.refl U.vm) qK, qD, SS.same (u := U) (U := U.calling g mk a) rfl qS⟩
theorem PcM_of {sh : Sh} {ar : Nat → ClassId} {ad sad : Nat → Nat} {D : va_G} {n : Nat} {R : Rr} {M : Mm} {as : List AV} {A : Nat → Prop} {s : State} {H : Heap} {locs : List Loc} (hK : va_K D vwCl (tysL ar) s) (hSS : SS sad A s s.heap) (hP : va_P D vwCl (wld sh ar ad sad n R M) H) (hD : va_D A (wld sh ar ad sad n R M)) (hS : va_S A s.heap H locs) (hF : ∀ q, va_A (wld sh ar ad sad n R M) H.size q → A q) :
    ∀ U : State, U.heap = H → s.WarmedH U.vm → PcM sh ar ad sad D H.size n R M as (as.map (cv ad sad)).toArray U := by
  intro U hU hW
  refine ⟨rfl, by rw [hU], by rw [hU]; exact hP, va_K.moved hW.alike hK, hD.weaken (fun _ _ _ _ => trivial), ?_⟩
  rw [hU]
  exact ((hSS.kept hS.2.1).narrow hF).warm hW
theorem va_A_sub {sh : Sh} {ar : Nat → ClassId} {ad sad : Nat → Nat} {n : Nat} {R : Rr} {M : Mm} {A : Nat → Prop} {H0 H : Heap} {locs : List Loc} (hD : va_D A (wld sh ar ad sad n R M)) (hS : va_S A H0 H locs) (hA : ∀ q, H0.size ≤ q → A q) : ∀ q, va_A (wld sh ar ad sad n R M) H.size q → A q := by
  rintro q (⟨k, e, hk⟩ | hq)
  · exact hD.2 k _ hk
  · exact hA q (Nat.le_trans hS.1 hq)
theorem w_call {p : Program} {l : Launch} {e : Env} {Rm : Room} {s : State} {m : MethodId} {args : Array Value} {below : List Frame} {meth : Method} {c : Code} {H : Heap} {locs : List Loc} {cells slots mc ms pc : Nat} {ls : Array Slot} {rest st0 : List Value} {a : Array Value} {A A1 : Nat → Prop} {Qf : State → Prop}
    {sh : Sh} {ar : Nat → ClassId} {ad sad : Nat → Nat} {D : va_G} {n n' : Nat} {Q' : Option AV → Rr → Mm → Prop}
    (hr : va_Run p l e Rm s m args below meth c H locs cells slots mc ms (F0 m pc ls st0) rest (Qc sh ar ad sad D A1 n n' Q' a) A1) (hS : va_S A s.heap H locs) (hA : ∀ q, A1 q → A q)
    (kk : ∀ (ad' : Nat → Nat) (r : Option AV) (R' : Rr) (M' : Mm) (H1 : Heap) (locs1 : List Loc), Q' r R' M' → agr n n' ad' ad → va_P D vwCl (wld sh ar ad' sad n' R' M') H1 → va_D A1 (wld sh ar ad' sad n' R' M') → va_S A s.heap H1 locs1 → W p l e Rm s m args below meth c H1 locs1 (cells + mc) (slots + ms) Qf (F0 m (pc + 3) ls ((r.map (cv ad' sad)).toList ++ rest))) : W p l e Rm s m args below meth c H locs cells slots Qf (F0 m pc ls st0) := by
  intro T hT X
  obtain ⟨v, st₀, t, T', L, h0, X', hL, e1, e2, ⟨⟨ad', r, R', M', hv, hq, hag, hP1, hK1, hD1⟩, hz, hk⟩, st⟩ := hr T hT X
  cases hv
  rw [h0] at hz hk
  obtain ⟨t2, a1, b1⟩ := kk ad' r R' M' T'.heap (locs ++ L) hq hag (by rw [e1]; exact hP1) hD1
    ⟨Nat.le_trans hS.1 (by rw [e1]; exact hz), fun q h1 h2 => by rw [e1, hk q (Nat.lt_of_lt_of_le h1 hS.1) (fun z => h2 (hA q z))]; exact hS.2.1 q h1 h2, fun q hq => by
      rcases List.mem_append.mp hq with h | h
      · exact hS.2.2 q h
      · exact hA _ (hL q h)⟩ T' rfl X'
  exact ⟨t2, st t2 a1, b1⟩
section ROWS
variable {sh : Sh} {y : MethodName} {cc : ByteArray} {nL : Nat} {ret : Option FieldType} {d n0 n1 : Nat} {Q : Option AV → Rr → Mm → Prop} {K : Nat → Rr → Nat → List (Nat × AV) → List AV → Mm → Prop} {n : Nat} {R : Rr} {pc : Nat} {L L' : List (Nat × AV)} {S S0 : List AV} {M : Mm}
variable {y' : MethodName} {cc' : ByteArray} {nL' : Nat} {ret' : Option FieldType} {idx na ci d' b : Nat} {as : List AV} {Q' : Option AV → Rr → Mm → Prop}
theorem r_callV (h : EK sh y cc nL ret d n0 n1 Q K) (ml : MLV y.cls idx y' cc' nL' ret' na ci) (hm : MSg sh y' cc' nL' ret' d' n n R (vr b :: as) M Q') (hd9 : d' + 1 ≤ d) (hn1 : n ≤ n1) (hlen : as.length = na) (hb9 : At sh n b (.inl ci)) (hst : S0 = as.reverse ++ vr b :: S) (hs9 : (S.map (fun v => if isl v then 2 else 1)).sum ≤ 8) (hd : decode cc pc = .ok (.invokevirtual idx, 3))
    (kk : ∀ r R' M', Q' r R' M' → K n R' (pc + 3) L (r.toList ++ S) M') : K n R pc L S0 M := by
  obtain ⟨p, l, e, s, m, args, below, meth, c, ad0, sad, D, A, ar, xc, xs, gc, gs, Z, hx, hb, hr, hml, hown, hts, hlk, hnm, hK, hSS, hA, ⟨hgc, hgs, hZ⟩, rfl⟩ := h
  intro hn ad H locs ls had hP hD hS hl
  subst hst
  have htb : ∀ w ∈ TB, w.before args s = true := hts
  have hF := va_A_sub hD hS hA
  have run := va_runV (C := y'.cls) (b := ad b) (As := as.map (cv ad sad)) (rest := S.map (cv ad sad)) (g := F0 m pc ls ((as.reverse ++ vr b :: S).map (cv ad sad))) (below := below) (meth := meth) (e := e) (locs := locs) (cells := n - n0 + gc) (slots := cum sh n - cum sh n0 + gs) ⟨hx, hb, hml, hown, hts⟩ (hm l ad sad D ar H.size) (R := rmx sh d n0 n1 xc xs) ⟨callB_TB hts ml.1 hd9, htb _ ml.2.1, htb _ ml.2.2.1⟩
    ⟨PcM_blind (as := vr b :: as), va_recv (q0 := b - 1) hK hP ml.2.2.2 (w_obj hb9), PcM_of (as := vr b :: as) hK hSS hP hD hS hF⟩ rfl (by rw [List.length_map]; exact hlen) hl.1 (by simp [cv, List.map_reverse]) (lv_room (by rw [cat_sum]; exact hs9)) hd ⟨by show _ ≤ n1 - n0 + xc; omega, by show _ ≤ cum sh n1 - cum sh n0 + xs; have := cum_mono (sh := sh) hn1; omega⟩
  refine w_call run hS hF ?_
  intro ad' r R' M' H1 locs1 hq hag hP1 hD1 hS1
  have e9 : ad' = ad := hag.2 rfl
  subst e9
  have k2 := kk r R' M' hq hn ad' H1 locs1 ls had hP1 (hD1.weaken (fun _ _ _ h9 => hF _ h9)) hS1 hl
  rw [List.map_append, show (r.toList.map (cv ad' sad)) = (r.map (cv ad' sad)).toList by cases r <;> rfl] at k2
  rw [Nat.sub_self, Nat.sub_self]
  exact k2
theorem r_callS (h : EK sh y cc nL ret d n0 n1 Q K) (ml : MLS y.cls idx y' cc' nL' ret' na) (hm : MSg sh y' cc' nL' ret' d' n n R as M Q') (hd9 : d' + 1 ≤ d) (hn1 : n ≤ n1) (hlen : as.length = na) (hst : S0 = as.reverse ++ S) (hs9 : (S.map (fun v => if isl v then 2 else 1)).sum ≤ 8) (hd : decode cc pc = .ok (.invokestatic idx, 3))
    (kk : ∀ r R' M', Q' r R' M' → K n R' (pc + 3) L (r.toList ++ S) M') : K n R pc L S0 M := by
  obtain ⟨p, l, e, s, m, args, below, meth, c, ad0, sad, D, A, ar, xc, xs, gc, gs, Z, hx, hb, hr, hml, hown, hts, hlk, hnm, hK, hSS, hA, ⟨hgc, hgs, hZ⟩, rfl⟩ := h
  intro hn ad H locs ls had hP hD hS hl
  subst hst
  have htb : ∀ w ∈ TB, w.before args s = true := hts
  have hF := va_A_sub hD hS hA
  have run := va_runS (As := as.map (cv ad sad)) (rest := S.map (cv ad sad)) (g := F0 m pc ls ((as.reverse ++ S).map (cv ad sad))) (below := below) (meth := meth) (e := e) (locs := locs) (cells := n - n0 + gc) (slots := cum sh n - cum sh n0 + gs) ⟨hx, hb, hml, hown, hts⟩ (hm l ad sad D ar H.size) (R := rmx sh d n0 n1 xc xs) ⟨callB_TB hts ml.1 hd9, htb _ ml.2⟩
    ⟨PcM_blind (as := as), PcM_of (as := as) hK hSS hP hD hS hF⟩ rfl (by rw [List.length_map]; exact hlen) hl.1 (by simp [List.map_reverse]) (lv_room (by rw [cat_sum]; exact hs9)) hd ⟨by show _ ≤ n1 - n0 + xc; omega, by show _ ≤ cum sh n1 - cum sh n0 + xs; have := cum_mono (sh := sh) hn1; omega⟩
  refine w_call run hS hF ?_
  intro ad' r R' M' H1 locs1 hq hag hP1 hD1 hS1
  have e9 : ad' = ad := hag.2 rfl
  subst e9
  have k2 := kk r R' M' hq hn ad' H1 locs1 ls had hP1 (hD1.weaken (fun _ _ _ h9 => hF _ h9)) hS1 hl
  rw [List.map_append, show (r.toList.map (cv ad' sad)) = (r.map (cv ad' sad)).toList by cases r <;> rfl] at k2
  rw [Nat.sub_self, Nat.sub_self]
  exact k2
/-- a virtual call on an object that stands from the start -/
theorem r_callE (h : EK sh y cc nL ret d n0 n1 Q K) {C : String} (ml : MLE y.cls idx y' cc' nL' ret' na C) (hm : MSg sh y' cc' nL' ret' d' n n R (ve b :: as) M Q') (hd9 : d' + 1 ≤ d) (hn1 : n ≤ n1) (hlen : as.length = na) (hb9 : (C, b) ∈ oC) (hst : S0 = as.reverse ++ ve b :: S) (hs9 : (S.map (fun v => if isl v then 2 else 1)).sum ≤ 8) (hd : decode cc pc = .ok (.invokevirtual idx, 3))
    (kk : ∀ r R' M', Q' r R' M' → K n R' (pc + 3) L (r.toList ++ S) M') : K n R pc L S0 M := by
  obtain ⟨p, l, e, s, m, args, below, meth, c, ad0, sad, D, A, ar, xc, xs, gc, gs, Z, hx, hb, hr, hml, hown, hts, hlk, hnm, hK, hSS, hA, ⟨hgc, hgs, hZ⟩, rfl⟩ := h
  intro hn ad H locs ls had hP hD hS hl
  subst hst
  have htb : ∀ w ∈ TB, w.before args s = true := hts
  have hF := va_A_sub hD hS hA
  have hrc : ∃ cellB : Cell, H[sad b]? = some cellB ∧ cellB.vm.isStatics = false ∧ s.vm.findClass C = some cellB.cls := by
    obtain ⟨cell, g1, g2, g3, -⟩ := (hSS.2.2.1 _ hb9).kept hS.2.1
    exact ⟨cell, g1, g2, g3⟩
  have run := va_runV (C := C) (b := sad b) (As := as.map (cv ad sad)) (rest := S.map (cv ad sad)) (g := F0 m pc ls ((as.reverse ++ ve b :: S).map (cv ad sad))) (below := below) (meth := meth) (e := e) (locs := locs) (cells := n - n0 + gc) (slots := cum sh n - cum sh n0 + gs) ⟨hx, hb, hml, hown, hts⟩ (hm l ad sad D ar H.size) (R := rmx sh d n0 n1 xc xs) ⟨callB_TB hts ml.1 hd9, htb _ ml.2.1, htb _ ml.2.2⟩
    ⟨PcM_blind (as := ve b :: as), hrc, PcM_of (as := ve b :: as) hK hSS hP hD hS hF⟩ rfl (by rw [List.length_map]; exact hlen) hl.1 (by simp [cv, List.map_reverse]) (lv_room (by rw [cat_sum]; exact hs9)) hd ⟨by show _ ≤ n1 - n0 + xc; omega, by show _ ≤ cum sh n1 - cum sh n0 + xs; have := cum_mono (sh := sh) hn1; omega⟩
  refine w_call run hS hF ?_
  intro ad' r R' M' H1 locs1 hq hag hP1 hD1 hS1
  have e9 : ad' = ad := hag.2 rfl
  subst e9
  have k2 := kk r R' M' hq hn ad' H1 locs1 ls had hP1 (hD1.weaken (fun _ _ _ h9 => hF _ h9)) hS1 hl
  rw [List.map_append, show (r.toList.map (cv ad' sad)) = (r.map (cv ad' sad)).toList by cases r <;> rfl] at k2
  rw [Nat.sub_self, Nat.sub_self]
  exact k2
end ROWS
