/-! calls out of the law's world -/
theorem callB2 {sh sh' : Sh} {s : State} {args : Array Value} {y y' : MethodName} {cc' : ByteArray} {nL' : Nat} {ret' : Option FieldType} {idx na d d' n0 n1 xc xs n n' : Nat} (hts : ∀ w ∈ TB, w.before args s = true) (ml : MLB y.cls idx y' cc' nL' ret' na) (hd : d' + 1 ≤ d) :
    CallB (rmx sh d n0 n1 xc xs) s args y.cls idx y' cc' nL' ret' (Cond.code y' cc' nL' ret' :: TB) (rmd sh' d' n n') (n' - n) (cum sh' n' - cum sh' n) na :=
  callB_of na hts (ws_good ml.2.2.1) rfl rfl rfl (hts _ ml.2.1) (hts _ ml.1) ml.2.2.2.1 ⟨hd, by have := ml.2.2.2.2; show 8 + (nL' + 11) + 64 * d' ≤ 64 * d; omega⟩
theorem w_call2 {p : Program} {l : Launch} {e : Env} {Rm : Room} {s : State} {m : MethodId} {args : Array Value} {below : List Frame} {meth : Method} {c : Code} {H : Heap} {locs : List Loc} {cells slots mc ms pc : Nat} {ls : Array Slot} {rest st0 : List Value} {a : Array Value} {A A1 : Nat → Prop} {Qf : State → Prop}
    {sh : Sh} {ar : Nat → ClassId} {ad sad : Nat → Nat} {D : va_G} {n n' : Nat} {Q' : Option AV → Rr → Mm → Prop}
    (hr : va_Run p l e Rm s m args below meth c H locs cells slots mc ms (F0 m pc ls st0) rest (Qc sh ar ad sad D A1 n n' Q' a) A1) (hS : va_S A s.heap H locs) (hA : ∀ q, A1 q → A q)
    (kk : ∀ (ad' : Nat → Nat) (r : Option AV) (R' : Rr) (M' : Mm) (H1 : Heap) (locs1 : List Loc), Q' r R' M' → agr n n' ad' ad → va_P D vwCl (wld sh ar ad' sad n' R' M') H1 → va_D A1 (wld sh ar ad' sad n' R' M') → (∀ q : Nat, q < H.size → ¬ A1 q → H1[q]? = H[q]?) → va_S A s.heap H1 locs1 → W p l e Rm s m args below meth c H1 locs1 (cells + mc) (slots + ms) Qf (F0 m (pc + 3) ls ((r.map (cv ad' sad)).toList ++ rest))) : W p l e Rm s m args below meth c H locs cells slots Qf (F0 m pc ls st0) := by
  intro T hT X
  obtain ⟨v, st₀, t, T', L, h0, X', hL, e1, e2, ⟨⟨ad', r, R', M', hv, hq, hag, hP1, hK1, hD1⟩, hz, hk⟩, st⟩ := hr T hT X
  cases hv
  rw [h0] at hz hk
  obtain ⟨t2, a1, b1⟩ := kk ad' r R' M' T'.heap (locs ++ L) hq hag (by rw [e1]; exact hP1) hD1 (fun q h1 h2 => by rw [e1]; exact hk q h1 h2)
    ⟨Nat.le_trans hS.1 (by rw [e1]; exact hz), fun q h1 h2 => by rw [e1, hk q (Nat.lt_of_lt_of_le h1 hS.1) (fun z => h2 (hA q z))]; exact hS.2.1 q h1 h2, fun q hq => by
      rcases List.mem_append.mp hq with h | h
      · exact hS.2.2 q h
      · exact hA _ (hL q h)⟩ T' rfl X'
  exact ⟨t2, st t2 a1, b1⟩
section ROWS
variable {y : MethodName} {cc : ByteArray} {nL : Nat} {ret : Option FieldType} {d n0 n1 : Nat} {Q : Option AV → Rr → Mm → Prop} {K : Nat → Rr → Nat → List (Nat × AV) → List AV → Mm → Prop} {pc : Nat} {L : List (Nat × AV)} {S S0 : List AV} {M N : Mm} {o : Nat → Int}
variable {y' : MethodName} {cc' : ByteArray} {nL' : Nat} {ret' : Option FieldType} {idx na d' : Nat} {as : List AV} {P : Int → Mm → Prop}
/-- a call of the class -/
theorem r_callC (h : EK shW y cc nL ret d n0 n1 Q K) (ml : MLV y.cls idx y' cc' nL' ret' na 9) (hm : MI shC NN RRC y' cc' nL' ret' d' (vr 1 :: as) M P) (hd9 : d' + 1 ≤ d) (hn1 : 246 ≤ n1) (hlen : as.length = na) (hst : S0 = as.reverse ++ vr 1 :: S) (hs9 : (S.map (fun v => if isl v then 2 else 1)).sum ≤ 8) (hd : decode cc pc = .ok (.invokevirtual idx, 3))
    (kk : ∀ x M', P x M' → K 246 RRL (pc + 3) L (vi x :: S) (ML M' N o)) : K 246 RRL pc L S0 (ML M N o) := by
  obtain ⟨p, l, e, s, m, args, below, meth, c, ad0, sad, D, A, ar, xc, xs, gc, gs, Z, hx, hb, hr, hml, hown, hts, hlk, hnm, hK, hSS, hA, ⟨hgc, hgs, hZ⟩, rfl⟩ := h
  intro hn ad H locs ls had hP hD hS hl
  subst hst
  obtain ⟨ad2, h3⟩ : ∃ ad2 : Nat → Nat, ∀ q, ad2 q = ad (q + 200) := ⟨fun q => ad (q + 200), fun _ => rfl⟩
  rw [wL_6 h3] at hP hD
  have hPw := P_left hP
  have hDw := D_left hD
  have hF := fr_F (D := D) (cl := vwCl) (a := []) (w := wld shC ar ad sad 200 RRC M) hD hS hA
  have run := va_runV (C := y'.cls) (b := ad 1) (As := as.map (cv ad sad)) (rest := S.map (cv ad sad)) (g := F0 m pc ls ((as.reverse ++ vr 1 :: S).map (cv ad sad))) (below := below) (meth := meth) (e := e) (locs := locs) (cells := 246 - n0 + gc) (slots := cum shW 246 - cum shW n0 + gs) ⟨hx, hb, hml, hown, hts⟩ (hm l ad sad D ar H.size) (R := rmx shW d n0 n1 xc xs) ⟨callB2 hts ml.1 hd9, hts _ ml.2.1, hts _ ml.2.2.1⟩
    ⟨PcM_blind (as := vr 1 :: as), va_recv (q0 := 0) hK hPw ml.2.2.2 (w_obj at1C), PcM_of (as := vr 1 :: as) hK hSS hPw hDw hS hF⟩ rfl (by rw [List.length_map]; exact hlen) hl.1 (by simp [cv, List.map_reverse]) (lv_room (by rw [cat_sum]; exact hs9)) hd ⟨by show _ ≤ n1 - n0 + xc; omega, by show _ ≤ cum shW n1 - cum shW n0 + xs; have := cum_mono (sh := shW) hn1; omega⟩
  refine w_call2 run hS hF ?_
  intro ad' r R' M' H1 locs1 hq hag hP1 hD1 hk hS1
  have e9 : ad' = ad := hag.2 rfl
  subst e9
  obtain ⟨rfl, x, rfl, hp⟩ := hq
  obtain ⟨hP2, hD2⟩ := fr3 (a := []) hP hD hP1 hD1 hk hF
  have k2 := kk x M' hp hn ad' H1 locs1 ls had (by rw [wL_6 h3]; exact hP2) (by rw [wL_6 h3]; exact hD2) hS1 hl
  rw [Nat.sub_self, Nat.sub_self]
  exact k2
/-- a call of the model -/
theorem r_callM (h : EK shW y cc nL ret d n0 n1 Q K) (ml : MLV y.cls idx y' cc' nL' ret' na 10) (hm : MI shM NM RRM y' cc' nL' ret' d' (vr 1 :: as) N P) (hnr : ∀ ad ad' sad : Nat → Nat, as.map (cv ad sad) = as.map (cv ad' sad)) (hd9 : d' + 1 ≤ d) (hn1 : 246 ≤ n1) (hlen : as.length = na) (hst : S0 = as.reverse ++ vr 201 :: S) (hs9 : (S.map (fun v => if isl v then 2 else 1)).sum ≤ 8) (hd : decode cc pc = .ok (.invokevirtual idx, 3))
    (kk : ∀ x N', P x N' → K 246 RRL (pc + 3) L (vi x :: S) (ML M N' o)) : K 246 RRL pc L S0 (ML M N o) := by
  obtain ⟨p, l, e, s, m, args, below, meth, c, ad0, sad, D, A, ar, xc, xs, gc, gs, Z, hx, hb, hr, hml, hown, hts, hlk, hnm, hK, hSS, hA, ⟨hgc, hgs, hZ⟩, rfl⟩ := h
  intro hn ad H locs ls had hP hD hS hl
  subst hst
  obtain ⟨ad2, h3⟩ : ∃ ad2 : Nat → Nat, ∀ q, ad2 q = ad (q + 200) := ⟨fun q => ad (q + 200), fun _ => rfl⟩
  rw [wL_6 h3] at hP hD
  have hPw := P_left (P_right hP)
  have hDw := D_left (D_right hD)
  have hF := fr_F (D := D) (cl := vwCl) (a := wld shC ar ad sad 200 RRC M) (w := wld shM ar ad2 sad 45 RRM N) hD hS hA
  have e1 : ad2 1 = ad 201 := h3 1
  have run := va_runV (C := y'.cls) (b := ad2 1) (As := as.map (cv ad2 sad)) (rest := S.map (cv ad sad)) (g := F0 m pc ls ((as.reverse ++ vr 201 :: S).map (cv ad sad))) (below := below) (meth := meth) (e := e) (locs := locs) (cells := 246 - n0 + gc) (slots := cum shW 246 - cum shW n0 + gs) ⟨hx, hb, hml, hown, hts⟩ (hm l ad2 sad D ar H.size) (R := rmx shW d n0 n1 xc xs) ⟨callB2 hts ml.1 hd9, hts _ ml.2.1, hts _ ml.2.2.1⟩
    ⟨PcM_blind (as := vr 1 :: as), va_recv (q0 := 0) hK hPw ml.2.2.2 (w_obj at1M), PcM_of (as := vr 1 :: as) hK hSS hPw hDw hS hF⟩ rfl (by rw [List.length_map]; exact hlen) hl.1 (by rw [hnr ad2 ad sad, e1]; simp [cv, List.map_reverse]) (lv_room (by rw [cat_sum]; exact hs9)) hd ⟨by show _ ≤ n1 - n0 + xc; omega, by show _ ≤ cum shW n1 - cum shW n0 + xs; have := cum_mono (sh := shW) hn1; omega⟩
  refine w_call2 run hS hF ?_
  intro ad' r R' N' H1 locs1 hq hag hP1 hD1 hk hS1
  have e9 : ad' = ad2 := hag.2 rfl
  subst e9
  obtain ⟨rfl, x, rfl, hp⟩ := hq
  obtain ⟨hP2, hD2⟩ := fr3 (a := wld shC ar ad sad 200 RRC M) hP hD hP1 hD1 hk hF
  have k2 := kk x N' hp hn ad H1 locs1 ls had (by rw [wL_6 h3]; exact hP2) (by rw [wL_6 h3]; exact hD2) hS1 hl
  rw [Nat.sub_self, Nat.sub_self]
  exact k2
/-- the same answer twice -/
theorem r_icmp_same {sh : Sh} {n : Nat} {R : Rr} {M : Mm} (h : EK sh y cc nL ret d n0 n1 Q K) {x : Int} {off : Int} (tgt : Nat) (ht : (pc : Int) + off = (tgt : Int)) (hd : decode cc pc = .ok (.if_icmp .eq off, 3)) (kt : K n R tgt L S M) : K n R pc L (vi x :: vi x :: S) M := by
  obtain ⟨p, l, e, s, m, args, below, meth, c, ad0, sad, D, A, ar, xc, xs, gc, gs, Z, hx, hb, hr, hml, hown, hts, hlk, hnm, hK, hSS, hA, ⟨hgc, hgs, hZ⟩, rfl⟩ := h
  intro hn ad H locs ls had hP hD hS hl
  exact lv_icmp_eq (tgt := tgt) hx hb hd ht (fun _ => kt hn ad H locs ls had hP hD hS hl) (fun q => absurd rfl q)
end ROWS
