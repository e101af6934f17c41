theorem m_L_7 : MLV "MangleTownLaw" 7 yX11_pin cX11_pin 9 (some .int) 3 9 := ⟨⟨(inT5 160 rfl rfl), (inT1 1 rfl rfl), (inT5 163 rfl rfl), by decide +kernel, by decide⟩, (inT5 161 rfl rfl), (inT5 162 rfl rfl), rfl⟩
theorem m_L_15 : MLV "MangleTownLaw" 15 yX11_rests cX11_rests 8 (some .int) 3 9 := ⟨⟨(inT6 10 rfl rfl), (inT1 1 rfl rfl), (inT6 13 rfl rfl), by decide +kernel, by decide⟩, (inT6 11 rfl rfl), (inT6 12 rfl rfl), rfl⟩
theorem ml_cast : Cond.castable NSE NSE ∈ XWA := by decide +kernel
theorem ml_link : Cond.classLink "MangleTownLaw" 13 NSE ∈ TB := (inT5 159 rfl rfl)
abbrev LY (u v w : Int) : List (Nat × AV) := [(0, vr 1), (1, vi u), (2, vi v), (3, vi w), (4, vr 246)]
set_option maxHeartbeats 2000000 in
theorem r_callY {y : MethodName} {cc : ByteArray} {d : Nat} {Q : Option AV → Rr → Mm → Prop} {K0 K1 : Nat → Rr → Nat → List (Nat × AV) → List AV → Mm → Prop} {u v w : Int} {S S0 : List AV} {M N : Mm} {o : Nat → Int} {y' : MethodName} {cc' : ByteArray} {nL' : Nat} {ret' : Option FieldType} {idx na d' : Nat} {as : List AV} {P : Int → Mm → Prop} {X : Mm → Prop}
    (h : EKY y cc d Q K0 K1) (hy : y.cls = "MangleTownLaw") (ml : MLV y.cls idx y' cc' nL' ret' na 9) (hm : MSx shC y' cc' nL' ret' d' NN RRC (vr 1 :: as) M (QI RRC P) X) (hd9 : d' + 1 ≤ d) (hlen : as.length = na) (hst : S0 = as.reverse ++ vr 1 :: S) (hs9 : (S.map (fun v => if isl v then 2 else 1)).sum ≤ 8) (hd : decode cc 7 = .ok (.invokevirtual idx, 3)) (hda : decode cc 15 = .ok (.astore 5, 2))
    (kk : ∀ x M', P x M' → K1 246 RRL 10 (LY u v w) (vi x :: S) (ML M' N o)) (kx : ∀ M', X M' → K1 246 RRL 17 (LY u v w) [] (ML M' N o)) : K0 246 RRL 7 (LY u v w) S0 (ML M N o) := by
  obtain ⟨p, l, e, s, m, args, below, meth, c, ad0, sad, D, A, ar, Z, ⟨hx, hb, hr, hml, hown, hts, hlk, hnm, hK, hSS, hA, ⟨hgc, hgs, hZ⟩, rfl⟩, ⟨-, -, -, -, -, -, -, -, -, -, -, -, hK1⟩, hlt, hXS, htab⟩ := h
  rw [hK1] at kk kx
  intro hn ad H locs ls had hP hD hS hl
  subst hst
  obtain ⟨ad2, h3⟩ : ∃ ad2 : Nat → Nat, ∀ q, ad2 q = ad (q + 200) := ⟨fun q => ad (q + 200), fun _ => rfl⟩
  rw [wL_6 h3] at hP hD
  have hPw := P_left hP
  have hDw := D_left hD
  have hF := fr_F (D := D) (cl := vwCl) (a := []) (w := wld shC ar ad sad 200 RRC M) hD hS hA
  have run := vx_runV (C := y'.cls) (b := ad 1) (As := as.map (cv ad sad)) (rest := S.map (cv ad sad)) (g := F0 m 7 ls ((as.reverse ++ vr 1 :: S).map (cv ad sad))) (below := below) (meth := meth) (e := e) (locs := locs) (cells := 246 - 246 + 0) (slots := cum shW 246 - cum shW 246 + 0) ⟨hx, hb, hml, hown, hts⟩ (hm l ad sad D ar H.size hlt) (R := rmx shW d 246 246 1 6) ⟨callB_of na hts (ws_good ml.1.2.2.1) rfl rfl rfl (hts _ ml.1.2.1) (hts _ ml.1.1) ml.1.2.2.2.1 ⟨hd9, by have := ml.1.2.2.2.2; show 8 + (nL' + 11) + 64 * d' ≤ 64 * d; omega⟩, hts _ ml.2.1, hts _ ml.2.2.1⟩
    ⟨PcX_blind (as := vr 1 :: as), va_recv (q0 := 0) hK hPw ml.2.2.2 (w_obj at1C), PcX_of (as := vr 1 :: as) hK hSS hXS hPw hDw hS hF⟩ rfl (by rw [List.length_map]; exact hlen) hl.1 (by simp [cv, List.map_reverse]) (lv_room (by rw [cat_sum]; exact hs9)) hd ⟨by show _ ≤ 246 - 246 + 1; omega, by show _ ≤ cum shW 246 - cum shW 246 + 6; omega⟩
  intro T hT X9
  rcases run T hT X9 with ⟨v9, st₀, t, T', L9, h0, X', hL, e1, e2, ⟨⟨ad', r, R', M', hv, hq, hag, hP1, hK9, hD1⟩, hz, hk⟩, st⟩ | ⟨q, st₀, t, T', L9, E, ce, h0, X', hL, e1, e2, ⟨rfl, ⟨M', hx9, hP1, hD1⟩, hz, hk⟩, hce, hcv, hcl9, st⟩
  · cases hv
    have e9 : ad' = ad := hag.2 rfl
    subst e9
    obtain ⟨rfl, x, rfl, hp⟩ := hq
    rw [h0] at hz hk
    obtain ⟨hP2, hD2⟩ := fr3 (a := []) (H1 := T'.heap) hP hD (by rw [e1]; exact hP1) hD1 (fun q h1 h2 => by rw [e1]; exact hk q h1 h2) hF
    have hS1 : va_S A s.heap T'.heap (locs ++ L9) := ⟨Nat.le_trans hS.1 (by rw [e1]; exact hz), fun q h1 h2 => by rw [e1, hk q (Nat.lt_of_lt_of_le h1 hS.1) (fun z => h2 (hF q z))]; exact hS.2.1 q h1 h2, fun q hq => by
      rcases List.mem_append.mp hq with h | h
      · exact hS.2.2 q h
      · exact hF _ (hL q h)⟩
    have k2 := kk x M' hp hn ad' T'.heap (locs ++ L9) ls had (by rw [wL_6 h3]; exact hP2) (by rw [wL_6 h3]; exact hD2) hS1 hl
    simp only [Nat.sub_self, Nat.zero_add, Nat.add_zero] at X' k2
    obtain ⟨t2, a1, b1⟩ := k2 T' rfl X'
    exact ⟨t2, st t2 a1, b1⟩
  · rw [h0] at hz hk
    obtain ⟨hP2, hD2⟩ := fr3 (a := []) (H1 := T'.heap) hP hD (by rw [e1]; exact hP1) hD1 (fun q h1 h2 => by rw [e1]; exact hk q h1 h2) hF
    have hS1 : va_S A s.heap T'.heap (locs ++ L9) := ⟨Nat.le_trans hS.1 (by rw [e1]; exact hz), fun q h1 h2 => by rw [e1, hk q (Nat.lt_of_lt_of_le h1 hS.1) (fun z => h2 (hF q z))]; exact hS.2.1 q h1 h2, fun q hq => by
      rcases List.mem_append.mp hq with h | h
      · exact hS.2.2 q h
      · exact hF _ (hL q h)⟩
    have hcast : (Cond.castable NSE NSE).before args s = true := XWA_at hts hXS.2.2 _ ml_cast
    have hown2 : s.vm.findClass "MangleTownLaw" = some m.cls := by rw [← hy]; exact hown
    have cat := th_catch (p := p) (l := l) (e := e) (R := rmx shW d 246 246 1 6) (s := s) (m := m) (args := args) (below := below) (meth := meth) (c := c) (H := T'.heap) (locs := locs ++ L9) (cells := 246 - 246 + 1) (slots := cum shW 246 - cum shW 246 + 6) (Q := Z) (pc := 7) (ls := ls) (rest := S.map (cv ad sad)) (own := "MangleTownLaw") (name := NSE) (E := NSE) (ce := ce) (q := q) hown2 ⟨0, 12, 15, 13⟩ htab (by decide) (by decide) (hts _ ml_link) hcast (by rw [e1]; exact hce) hcv hcl9
      (lv_astore hx hb hda hl (by decide) rfl (fun ls' hl' => kx M' hx9 hn ad T'.heap (locs ++ L9) ls' had (by rw [wL_6 h3]; exact hP2) (by rw [wL_6 h3]; exact hD2) hS1 (lv_sub hl' [1, 2, 3, 4, 5] rfl)))
    simp only [Nat.sub_self, Nat.zero_add, Nat.add_zero] at X' cat
    obtain ⟨t2, a1, b1⟩ := cat T' rfl X'
    exact ⟨t2, st.trans a1, b1⟩
theorem at246 : At shW 246 246 (.inr (1, 1)) := ⟨rfl, by decide, by decide⟩
theorem ml_put {M N : Mm} {o : Nat → Int} {x : Int} : upr (ML M N o) 246 (up1 (ML M N o 246) 0 x) = ML M N (up1 o 0 x) := by rw [ML_o, ML_up]
/-- what the law's pin and rests leave -/
abbrev QY (N : Mm) (o : Nat → Int) (P : Int → Mm → Prop) (X : Mm → Prop) : Option AV → Rr → Mm → Prop := fun r R' Mw => R' = RRL ∧ ((∃ x M', r = some (vi 0) ∧ P x M' ∧ Mw = ML M' N (up1 o 0 x)) ∨ (∃ M', r = some (vi 1) ∧ X M' ∧ Mw = ML M' N o))
set_option maxHeartbeats 2000000 in
set_option maxRecDepth 100000 in
theorem ly_pin {u v w : Int} {M N : Mm} {o : Nat → Int} {P : Int → Mm → Prop} {X : Mm → Prop} (hm : SX_Main_pin u v w M P X) (hPr : ∀ x M', P x M' → rng x) : MSy yL_pin cL_pin 9 [vr 1, vi u, vi v, vi w, vr 246] (ML M N o) (QY N o P X) := by
  refine MSy_of (by decide +kernel) (Nat.le_of_ble_eq_true rfl) fun K0 K1 h => ?_
  have h0 := h.ek0
  have h1 := h.ek1
  show K0 246 RRL 0 (LY u v w) [] (ML M N o)
  refine r_aload h0 (i := 4) 4 rfl (by decide +kernel : decode cL_pin 0 = .ok (.aload 4, 2)) ?_
  refine r_iconst h0 (v := 0) (by decide +kernel : decode cL_pin 2 = .ok (.iconst 0, 1)) ?_
  refine r_aloadn h0 (q := 0) 0 rfl (by decide +kernel : decode cL_pin 3 = .ok (.aload_n 0, 1)) ?_
  refine r_iloadn h0 (q := 1) 1 rfl (by decide +kernel : decode cL_pin 4 = .ok (.iload_n 1, 1)) ?_
  refine r_iloadn h0 (q := 2) 2 rfl (by decide +kernel : decode cL_pin 5 = .ok (.iload_n 2, 1)) ?_
  refine r_iloadn h0 (q := 3) 3 rfl (by decide +kernel : decode cL_pin 6 = .ok (.iload_n 3, 1)) ?_
  refine r_callY h rfl (as := [vi u, vi v, vi w]) (S := [vi 0, vr 246]) m_L_7 hm (by decide) rfl rfl (Nat.le_of_ble_eq_true rfl) (by decide +kernel : decode cL_pin 7 = .ok (.invokevirtual 7, 3)) (by decide +kernel : decode cL_pin 15 = .ok (.astore 5, 2)) (fun x M' hp => ?_) (fun M' hx => ?_)
  · refine r_i2l h1 (hPr x M' hp) (by decide +kernel : decode cL_pin 10 = .ok (.i2l, 1)) ?_
    refine r_last h1 0 rfl at246 (by decide) (by decide) (by decide +kernel : decode cL_pin 11 = .ok (.lastore, 1)) ?_
    rw [ml_put]
    refine r_goto h1 19 (by decide) (by decide +kernel : decode cL_pin 12 = .ok (.goto 7, 3)) ?_
    refine r_iconst h1 (v := 0) (by decide +kernel : decode cL_pin 19 = .ok (.iconst 0, 1)) ?_
    exact r_iret h1 rfl (by decide +kernel : decode cL_pin 20 = .ok (.ireturn, 1)) rfl ⟨rfl, Or.inl ⟨x, M', rfl, hp, rfl⟩⟩
  · refine r_iconst h1 (v := 1) (by decide +kernel : decode cL_pin 17 = .ok (.iconst 1, 1)) ?_
    exact r_iret h1 rfl (by decide +kernel : decode cL_pin 18 = .ok (.ireturn, 1)) rfl ⟨rfl, Or.inr ⟨M', rfl, hx, rfl⟩⟩
set_option maxHeartbeats 2000000 in
set_option maxRecDepth 100000 in
theorem ly_rests {u v w : Int} {M N : Mm} {o : Nat → Int} {P : Int → Mm → Prop} {X : Mm → Prop} (hm : SX_Main_rests u v w M P X) (hPr : ∀ x M', P x M' → rng x) : MSy yL_rests cL_rests 9 [vr 1, vi u, vi v, vi w, vr 246] (ML M N o) (QY N o P X) := by
  refine MSy_of (by decide +kernel) (Nat.le_of_ble_eq_true rfl) fun K0 K1 h => ?_
  have h0 := h.ek0
  have h1 := h.ek1
  show K0 246 RRL 0 (LY u v w) [] (ML M N o)
  refine r_aload h0 (i := 4) 4 rfl (by decide +kernel : decode cL_rests 0 = .ok (.aload 4, 2)) ?_
  refine r_iconst h0 (v := 0) (by decide +kernel : decode cL_rests 2 = .ok (.iconst 0, 1)) ?_
  refine r_aloadn h0 (q := 0) 0 rfl (by decide +kernel : decode cL_rests 3 = .ok (.aload_n 0, 1)) ?_
  refine r_iloadn h0 (q := 1) 1 rfl (by decide +kernel : decode cL_rests 4 = .ok (.iload_n 1, 1)) ?_
  refine r_iloadn h0 (q := 2) 2 rfl (by decide +kernel : decode cL_rests 5 = .ok (.iload_n 2, 1)) ?_
  refine r_iloadn h0 (q := 3) 3 rfl (by decide +kernel : decode cL_rests 6 = .ok (.iload_n 3, 1)) ?_
  refine r_callY h rfl (as := [vi u, vi v, vi w]) (S := [vi 0, vr 246]) m_L_15 hm (by decide) rfl rfl (Nat.le_of_ble_eq_true rfl) (by decide +kernel : decode cL_rests 7 = .ok (.invokevirtual 15, 3)) (by decide +kernel : decode cL_rests 15 = .ok (.astore 5, 2)) (fun x M' hp => ?_) (fun M' hx => ?_)
  · refine r_i2l h1 (hPr x M' hp) (by decide +kernel : decode cL_rests 10 = .ok (.i2l, 1)) ?_
    refine r_last h1 0 rfl at246 (by decide) (by decide) (by decide +kernel : decode cL_rests 11 = .ok (.lastore, 1)) ?_
    rw [ml_put]
    refine r_goto h1 19 (by decide) (by decide +kernel : decode cL_rests 12 = .ok (.goto 7, 3)) ?_
    refine r_iconst h1 (v := 0) (by decide +kernel : decode cL_rests 19 = .ok (.iconst 0, 1)) ?_
    exact r_iret h1 rfl (by decide +kernel : decode cL_rests 20 = .ok (.ireturn, 1)) rfl ⟨rfl, Or.inl ⟨x, M', rfl, hp, rfl⟩⟩
  · refine r_iconst h1 (v := 1) (by decide +kernel : decode cL_rests 17 = .ok (.iconst 1, 1)) ?_
    exact r_iret h1 rfl (by decide +kernel : decode cL_rests 18 = .ok (.ireturn, 1)) rfl ⟨rfl, Or.inr ⟨M', rfl, hx, rfl⟩⟩
def MLZ (own : String) (idx : Nat) (y' : MethodName) (cc' : ByteArray) (na : Nat) : Prop := Cond.methodLink own idx y' ∈ TB ∧ Cond.static y' ∈ TB ∧ Cond.initialized y'.cls ∈ TB ∧ Cond.codeWith y' cc' 6 (some .int) [(0, 12, 15, 13)] ∈ TB ∧ (y'.cls ≠ "java/lang/invoke/MethodHandle" ∧ y'.cls ≠ "java/lang/invoke/VarHandle" ∧ (parseMethodDescriptor y'.desc).map (fun d => d.parameters.length) = some na)
theorem mZ_pin : MLZ "MangleTownLaw" 139 yL_pin cL_pin 5 := ⟨(inT5 156 rfl rfl), (inT5 157 rfl rfl), (inT1 0 rfl rfl), (inT5 158 rfl rfl), by decide +kernel⟩
theorem mZ_rests : MLZ "MangleTownLaw" 148 yL_rests cL_rests 5 := ⟨(inT6 7 rfl rfl), (inT6 8 rfl rfl), (inT1 0 rfl rfl), (inT6 9 rfl rfl), by decide +kernel⟩
set_option maxHeartbeats 2000000 in
theorem r_callZ {b Ls : Nat} {xs : Nat → Int32} {Kf : Nat → Nat → Rr → Nat → List (Nat × AV) → List AV → Mm → Prop} {g pc : Nat} {L : List (Nat × AV)} {S S0 : List AV} {Mw : Mm} {y' : MethodName} {cc' : ByteArray} {idx na d' : Nat} {as : List AV} {Q' : Option AV → Rr → Mm → Prop} (h : LW b Ls xs Kf) (hg : g + 1 ≤ 600) (ml : MLZ "MangleTownLaw" idx y' cc' na) (hm : MSy y' cc' d' as Mw Q') (hd9 : d' + 1 ≤ 100) (hlen : as.length = na) (hst : S0 = as.reverse ++ S) (hs9 : (S.map (fun v => if isl v then 2 else 1)).sum ≤ 8) (hd : decode code pc = .ok (.invokestatic idx, 3))
    (kk : ∀ r R' M', Q' r R' M' → Kf (g + 1) 246 R' (pc + 3) L (r.toList ++ S) M') : Kf g 246 RRL pc L S0 Mw := by
  obtain ⟨p, l, e, s, m, args, below, meth, c, ad0, sad, D, A, ar, Z, hE, hKS, hXS, hnt, -⟩ := h
  obtain ⟨hx, hb, hr, hml, hown, hts, hlk, hnm, hK, hSS, hA, hZ, hKf⟩ := hE g (by omega)
  obtain ⟨-, -, -, -, -, -, -, -, -, -, -, -, hKf1⟩ := hE (g + 1) hg
  rw [hKf1] at kk
  rw [hKf]
  intro hn ad H locs ls had hP hD hS hl
  subst hst
  have hF := va_A_sub hD hS hA
  have hG : GoodIn TB (va_wsS "MangleTownLaw" idx y' (Cond.codeWith y' cc' 6 (some .int) [(0, 12, 15, 13)] :: TB)) := by
    intro w hw
    have hw' : w ∈ TB := by
      unfold va_wsS at hw
      simp only [List.mem_append, List.mem_cons, List.not_mem_nil, or_false] at hw
      rcases hw with (rfl | rfl | rfl) | rfl | hw
      · exact ml.1
      · exact ml.2.1
      · exact ml.2.2.1
      · exact ml.2.2.2.1
      · exact hw
    exact ⟨hw', TB_good hw'⟩
  have cw := vx_cwSW (R := rmx shW 100 0 246 600 3600) (s := s) (args := args) (rm := rmx shW d' 246 246 1 6) (mc := 246 - 246 + 1) (ms := cum shW 246 - cum shW 246 + 6) na hts hG rfl rfl rfl ml.2.2.2.2 ⟨hd9, by show 8 + (6 + 11) + 64 * d' ≤ 64 * 100; omega⟩
  have run := vx_runSX (As := as.map (cv ad sad)) (rest := S.map (cv ad sad)) (g := F0 m pc ls ((as.reverse ++ S).map (cv ad sad))) (below := below) (meth := meth) (e := e) (locs := locs) (cells := 246 - 0 + g) (slots := cum shW 246 - cum shW 0 + 6 * g) ⟨hx, hb, hml, hown, hts⟩ (hm l ad sad D ar H.size hnt) cw ⟨PcX_blind (as := as), PcX_of (as := as) hK hSS hXS hP hD hS hF⟩ rfl (by rw [List.length_map]; exact hlen) hl.1 (by simp [List.map_reverse]) (lv_room (by rw [cat_sum]; exact hs9)) hd ⟨by show _ ≤ 246 - 0 + 600; omega, by show _ ≤ cum shW 246 - cum shW 0 + 3600; omega⟩
  intro T hT X9
  rcases run T hT X9 with ⟨v9, st₀, t, T', L9, h0, X', hL, e1, e2, ⟨⟨ad', r, R', M', hv, hq, hag, hP1, hK9, hD1⟩, hz, hk⟩, st⟩ | ⟨q, st₀, t, T', L9, E, ce, h0, X', hL, e1, e2, hf, -⟩
  · cases hv
    have e9 : ad' = ad := hag.2 rfl
    subst e9
    rw [h0] at hz hk
    have hS1 : va_S A s.heap T'.heap (locs ++ L9) := ⟨Nat.le_trans hS.1 (by rw [e1]; exact hz), fun q h1 h2 => by rw [e1, hk q (Nat.lt_of_lt_of_le h1 hS.1) (fun z => h2 (hF q z))]; exact hS.2.1 q h1 h2, fun q hq => by
      rcases List.mem_append.mp hq with h | h
      · exact hS.2.2 q h
      · exact hF _ (hL q h)⟩
    have k2 := kk r R' M' hq hn ad' T'.heap (locs ++ L9) ls had (by rw [e1]; exact hP1) (hD1.weaken (fun _ _ _ h9 => hF _ h9)) hS1 hl
    rw [List.map_append, show (r.toList.map (cv ad' sad)) = (r.map (cv ad' sad)).toList by cases r <;> rfl] at k2
    rw [show 246 - 0 + g + (246 - 246 + 1) = 246 - 0 + (g + 1) by omega, show cum shW 246 - cum shW 0 + 6 * g + (cum shW 246 - cum shW 246 + 6) = cum shW 246 - cum shW 0 + 6 * (g + 1) by omega] at X'
    obtain ⟨t2, a1, b1⟩ := k2 T' rfl X'
    exact ⟨t2, st t2 a1, b1⟩
  · exact hf.elim
theorem m_thrown {N : Mm} : S_Mod_thrown N (fun r N' => r = N 1 0 ∧ N' = N) := W_Mod_thrown N ⟨rfl, rfl⟩
theorem cmp_self (x : Int) : cmpL x x = 0 := by
  unfold cmpL
  rw [if_neg (by omega), if_pos rfl]
set_option maxHeartbeats 4000000 in
set_option maxRecDepth 100000 in
theorem lc_pin {b Ls : Nat} {xs : Nat → Int32} {Kf : Nat → Nat → Rr → Nat → List (Nat × AV) → List AV → Mm → Prop} (hW : LW b Ls xs Kf) (hLs : Ls ≤ 3584) {g k : Nat} (hgk : g ≤ k) (hk : 7 * k + 7 ≤ Ls) {t : TT} {tb : Nat} {M N : Mm} {o : Nat → Int} (hS : Sim t tb k M N) (hJ : JN Kf k) : Kf g 246 RRL 921 (LL k) [] (ML M N o) := by
  have hg : g ≤ 600 := by omega
  have hg1 : g + 1 ≤ 600 := by omega
  have h := hW.ek hg
  have h1 := hW.ek hg1
  obtain ⟨c9, r9, A9, A9', PD, hr9, hC1, hC2, hD, hE1, hE2, hF⟩ := op_pin (rng_toInt (xs (7 * k + 1))) (rng_toInt (xs (7 * k + 2))) (rng_toInt (xs (7 * k + 3))) hS
  refine r_aloadn h (q := 1) 1 rfl (by decide +kernel : decode code 921 = .ok (.aload_n 1, 1)) ?_
  refine r_aloadEn h (q := 0) 0 rfl (by decide +kernel : decode code 922 = .ok (.aload_n 0, 1)) ?_
  refine r_iload h 4 rfl (by decide +kernel : decode code 923 = .ok (.iload 4, 2)) ?_
  refine r_iconst h (v := 1) (by decide +kernel : decode code 925 = .ok (.iconst 1, 1)) ?_
  refine r_iadd h (by decide +kernel : decode code 926 = .ok (.iadd, 1)) ?_
  refine r_sld hW hg (7 * k + 1) (by omega) (by omega) (by omega) (by decide +kernel : decode code 927 = .ok (.iaload, 1)) ?_
  refine r_aloadEn h (q := 0) 0 rfl (by decide +kernel : decode code 928 = .ok (.aload_n 0, 1)) ?_
  refine r_iload h 4 rfl (by decide +kernel : decode code 929 = .ok (.iload 4, 2)) ?_
  refine r_iconst h (v := 2) (by decide +kernel : decode code 931 = .ok (.iconst 2, 1)) ?_
  refine r_iadd h (by decide +kernel : decode code 932 = .ok (.iadd, 1)) ?_
  refine r_sld hW hg (7 * k + 2) (by omega) (by omega) (by omega) (by decide +kernel : decode code 933 = .ok (.iaload, 1)) ?_
  refine r_aloadEn h (q := 0) 0 rfl (by decide +kernel : decode code 934 = .ok (.aload_n 0, 1)) ?_
  refine r_iload h 4 rfl (by decide +kernel : decode code 935 = .ok (.iload 4, 2)) ?_
  refine r_iconst h (v := 3) (by decide +kernel : decode code 937 = .ok (.iconst 3, 1)) ?_
  refine r_iadd h (by decide +kernel : decode code 938 = .ok (.iadd, 1)) ?_
  refine r_sld hW hg (7 * k + 3) (by omega) (by omega) (by omega) (by decide +kernel : decode code 939 = .ok (.iaload, 1)) ?_
  refine r_aloadn h (q := 3) 3 rfl (by decide +kernel : decode code 940 = .ok (.aload_n 3, 1)) ?_
  by_cases e9 : c9
  · refine r_callZ hW hg1 (as := [vr 1, vi (xs (7 * k + 1)).toInt, vi (xs (7 * k + 2)).toInt, vi (xs (7 * k + 3)).toInt, vr 246]) (S := []) mZ_pin (ly_pin (hC1 e9) (fun x M' q => by rw [q.1]; exact hr9 e9)) (by decide) rfl rfl (Nat.le_of_ble_eq_true rfl) (by decide +kernel : decode code 941 = .ok (.invokestatic 139, 3)) ?_
    rintro r8 R8 Mw ⟨rfl, (⟨x, M1, rfl, ⟨rfl, hA1⟩, rfl⟩ | ⟨M1, rfl, hx8, rfl⟩)⟩
    · refine r_istore h1 (i := 5) (L' := (5, vi 0) :: LL k) (by decide) rfl (by decide +kernel : decode code 944 = .ok (.istore 5, 2)) ?_
      refine r_aloadn h1 (q := 2) 3 rfl (by decide +kernel : decode code 946 = .ok (.aload_n 2, 1)) ?_
      refine r_aloadEn h1 (q := 0) 1 rfl (by decide +kernel : decode code 947 = .ok (.aload_n 0, 1)) ?_
      refine r_iload h1 5 rfl (by decide +kernel : decode code 948 = .ok (.iload 4, 2)) ?_
      refine r_iconst h1 (v := 1) (by decide +kernel : decode code 950 = .ok (.iconst 1, 1)) ?_
      refine r_iadd h1 (by decide +kernel : decode code 951 = .ok (.iadd, 1)) ?_
      refine r_sld hW hg1 (7 * k + 1) (by omega) (by omega) (by omega) (by decide +kernel : decode code 952 = .ok (.iaload, 1)) ?_
      refine r_aloadEn h1 (q := 0) 1 rfl (by decide +kernel : decode code 953 = .ok (.aload_n 0, 1)) ?_
      refine r_iload h1 5 rfl (by decide +kernel : decode code 954 = .ok (.iload 4, 2)) ?_
      refine r_iconst h1 (v := 2) (by decide +kernel : decode code 956 = .ok (.iconst 2, 1)) ?_
      refine r_iadd h1 (by decide +kernel : decode code 957 = .ok (.iadd, 1)) ?_
      refine r_sld hW hg1 (7 * k + 2) (by omega) (by omega) (by omega) (by decide +kernel : decode code 958 = .ok (.iaload, 1)) ?_
      refine r_aloadEn h1 (q := 0) 1 rfl (by decide +kernel : decode code 959 = .ok (.aload_n 0, 1)) ?_
      refine r_iload h1 5 rfl (by decide +kernel : decode code 960 = .ok (.iload 4, 2)) ?_
      refine r_iconst h1 (v := 3) (by decide +kernel : decode code 962 = .ok (.iconst 3, 1)) ?_
      refine r_iadd h1 (by decide +kernel : decode code 963 = .ok (.iadd, 1)) ?_
      refine r_sld hW hg1 (7 * k + 3) (by omega) (by omega) (by omega) (by decide +kernel : decode code 964 = .ok (.iaload, 1)) ?_
      refine r_callM h1 (as := [vi (xs (7 * k + 1)).toInt, vi (xs (7 * k + 2)).toInt, vi (xs (7 * k + 3)).toInt]) (S := []) m_L_144 hD (fun _ _ _ => rfl) (by decide) (Nat.le_refl _) rfl rfl (Nat.le_of_ble_eq_true rfl) (by decide +kernel : decode code 965 = .ok (.invokevirtual 144, 3)) ?_
      intro y9 N1 hP9
      obtain ⟨rfl, hn0, hA2⟩ := hE1 e9 _ _ hP9
      refine r_istore h1 (i := 6) (L' := (6, vi y9) :: (5, vi 0) :: LL k) (by decide) rfl (by decide +kernel : decode code 968 = .ok (.istore 6, 2)) ?_
      refine r_aloadn h1 (q := 2) 4 rfl (by decide +kernel : decode code 970 = .ok (.aload_n 2, 1)) ?_
      refine r_callM h1 (as := []) (S := []) m_L_145 (m_thrown (N := N1)) (fun _ _ _ => rfl) (by decide) (Nat.le_refl _) rfl rfl (Nat.le_of_ble_eq_true rfl) (by decide +kernel : decode code 971 = .ok (.invokevirtual 145, 3)) ?_
      rintro z9 N2 ⟨rfl, rfl⟩
      rw [hn0]
      refine r_iload h1 1 rfl (by decide +kernel : decode code 974 = .ok (.iload 5, 2)) ?_
      refine r_icmp_same h1 981 (by decide) (by decide +kernel : decode code 976 = .ok (.if_icmp .eq 5, 3)) ?_
      refine r_iload h1 1 rfl (by decide +kernel : decode code 981 = .ok (.iload 5, 2)) ?_
      refine r_if_ne h1 998 (by decide) (by decide) (by decide +kernel : decode code 983 = .ok (.ifCond .ne 15, 3)) (fun z => absurd rfl z) (fun _ => ?_)
      refine r_aloadn h1 (q := 3) 5 rfl (by decide +kernel : decode code 986 = .ok (.aload_n 3, 1)) ?_
      refine r_iconst h1 (v := 0) (by decide +kernel : decode code 987 = .ok (.iconst 0, 1)) ?_
      refine r_lald h1 0 rfl at246 (by decide) (by decide) (by decide +kernel : decode code 988 = .ok (.laload, 1)) ?_
      rw [show ML M1 N2 (up1 o 0 y9) 246 0 = y9 by rw [ML_o]; rfl]
      refine r_iload h1 0 rfl (by decide +kernel : decode code 989 = .ok (.iload 6, 2)) ?_
      refine r_i2l h1 (hr9 e9) (by decide +kernel : decode code 991 = .ok (.i2l, 1)) ?_
      have hrl : rngL y9 := by have := hr9 e9; constructor <;> omega
      refine r_lcmp h1 hrl hrl (by decide +kernel : decode code 992 = .ok (.lcmp, 1)) ?_
      rw [cmp_self]
      refine r_if_eq h1 998 (by decide) (by decide) (by decide +kernel : decode code 993 = .ok (.ifCond .eq 5, 3)) (fun _ => ?_) (fun z => absurd rfl z)
      refine r_goto h1 1208 (by decide) (by decide +kernel : decode code 998 = .ok (.goto 210, 3)) ?_
      refine r_drop h1 [2, 3, 4, 5, 6] rfl ?_
      obtain ⟨t9, tb9, hS9⟩ := hF M1 _ hA1 hA2
      exact hJ (g + 1) M1 _ _ t9 tb9 (by omega) hS9
    · exact hx8.elim
  · refine r_callZ hW hg1 (as := [vr 1, vi (xs (7 * k + 1)).toInt, vi (xs (7 * k + 2)).toInt, vi (xs (7 * k + 3)).toInt, vr 246]) (S := []) mZ_pin (ly_pin (hC2 e9) (fun x M' q => q.elim)) (by decide) rfl rfl (Nat.le_of_ble_eq_true rfl) (by decide +kernel : decode code 941 = .ok (.invokestatic 139, 3)) ?_
    rintro r8 R8 Mw ⟨rfl, (⟨x, M1, rfl, hx8, rfl⟩ | ⟨M1, rfl, hA1, rfl⟩)⟩
    · exact hx8.elim
    · refine r_istore h1 (i := 5) (L' := (5, vi 1) :: LL k) (by decide) rfl (by decide +kernel : decode code 944 = .ok (.istore 5, 2)) ?_
      refine r_aloadn h1 (q := 2) 3 rfl (by decide +kernel : decode code 946 = .ok (.aload_n 2, 1)) ?_
      refine r_aloadEn h1 (q := 0) 1 rfl (by decide +kernel : decode code 947 = .ok (.aload_n 0, 1)) ?_
      refine r_iload h1 5 rfl (by decide +kernel : decode code 948 = .ok (.iload 4, 2)) ?_
      refine r_iconst h1 (v := 1) (by decide +kernel : decode code 950 = .ok (.iconst 1, 1)) ?_
      refine r_iadd h1 (by decide +kernel : decode code 951 = .ok (.iadd, 1)) ?_
      refine r_sld hW hg1 (7 * k + 1) (by omega) (by omega) (by omega) (by decide +kernel : decode code 952 = .ok (.iaload, 1)) ?_
      refine r_aloadEn h1 (q := 0) 1 rfl (by decide +kernel : decode code 953 = .ok (.aload_n 0, 1)) ?_
      refine r_iload h1 5 rfl (by decide +kernel : decode code 954 = .ok (.iload 4, 2)) ?_
      refine r_iconst h1 (v := 2) (by decide +kernel : decode code 956 = .ok (.iconst 2, 1)) ?_
      refine r_iadd h1 (by decide +kernel : decode code 957 = .ok (.iadd, 1)) ?_
      refine r_sld hW hg1 (7 * k + 2) (by omega) (by omega) (by omega) (by decide +kernel : decode code 958 = .ok (.iaload, 1)) ?_
      refine r_aloadEn h1 (q := 0) 1 rfl (by decide +kernel : decode code 959 = .ok (.aload_n 0, 1)) ?_
      refine r_iload h1 5 rfl (by decide +kernel : decode code 960 = .ok (.iload 4, 2)) ?_
      refine r_iconst h1 (v := 3) (by decide +kernel : decode code 962 = .ok (.iconst 3, 1)) ?_
      refine r_iadd h1 (by decide +kernel : decode code 963 = .ok (.iadd, 1)) ?_
      refine r_sld hW hg1 (7 * k + 3) (by omega) (by omega) (by omega) (by decide +kernel : decode code 964 = .ok (.iaload, 1)) ?_
      refine r_callM h1 (as := [vi (xs (7 * k + 1)).toInt, vi (xs (7 * k + 2)).toInt, vi (xs (7 * k + 3)).toInt]) (S := []) m_L_144 hD (fun _ _ _ => rfl) (by decide) (Nat.le_refl _) rfl rfl (Nat.le_of_ble_eq_true rfl) (by decide +kernel : decode code 965 = .ok (.invokevirtual 144, 3)) ?_
      intro y9 N1 hP9
      obtain ⟨hn0, hA2⟩ := hE2 e9 _ _ hP9
      refine r_istore h1 (i := 6) (L' := (6, vi y9) :: (5, vi 1) :: LL k) (by decide) rfl (by decide +kernel : decode code 968 = .ok (.istore 6, 2)) ?_
      refine r_aloadn h1 (q := 2) 4 rfl (by decide +kernel : decode code 970 = .ok (.aload_n 2, 1)) ?_
      refine r_callM h1 (as := []) (S := []) m_L_145 (m_thrown (N := N1)) (fun _ _ _ => rfl) (by decide) (Nat.le_refl _) rfl rfl (Nat.le_of_ble_eq_true rfl) (by decide +kernel : decode code 971 = .ok (.invokevirtual 145, 3)) ?_
      rintro z9 N2 ⟨rfl, rfl⟩
      rw [hn0]
      refine r_iload h1 1 rfl (by decide +kernel : decode code 974 = .ok (.iload 5, 2)) ?_
      refine r_icmp_same h1 981 (by decide) (by decide +kernel : decode code 976 = .ok (.if_icmp .eq 5, 3)) ?_
      refine r_iload h1 1 rfl (by decide +kernel : decode code 981 = .ok (.iload 5, 2)) ?_
      refine r_if_ne h1 998 (by decide) (by decide) (by decide +kernel : decode code 983 = .ok (.ifCond .ne 15, 3)) (fun _ => ?_) (fun z => absurd z (by decide))
      refine r_goto h1 1208 (by decide) (by decide +kernel : decode code 998 = .ok (.goto 210, 3)) ?_
      refine r_drop h1 [2, 3, 4, 5, 6] rfl ?_
      obtain ⟨t9, tb9, hS9⟩ := hF M1 _ hA1 hA2
      exact hJ (g + 1) M1 _ _ t9 tb9 (by omega) hS9
set_option maxHeartbeats 4000000 in
set_option maxRecDepth 100000 in
theorem lc_rests {b Ls : Nat} {xs : Nat → Int32} {Kf : Nat → Nat → Rr → Nat → List (Nat × AV) → List AV → Mm → Prop} (hW : LW b Ls xs Kf) (hLs : Ls ≤ 3584) {g k : Nat} (hgk : g ≤ k) (hk : 7 * k + 7 ≤ Ls) {t : TT} {tb : Nat} {M N : Mm} {o : Nat → Int} (hS : Sim t tb k M N) (hJ : JN Kf k) : Kf g 246 RRL 1001 (LL k) [] (ML M N o) := by
  have hg : g ≤ 600 := by omega
  have hg1 : g + 1 ≤ 600 := by omega
  have h := hW.ek hg
  have h1 := hW.ek hg1
  obtain ⟨c9, r9, A9, A9', PD, hr9, hC1, hC2, hD, hE1, hE2, hF⟩ := op_rests (rng_toInt (xs (7 * k + 1))) (rng_toInt (xs (7 * k + 2))) (rng_toInt (xs (7 * k + 3))) hS
  refine r_aloadn h (q := 1) 1 rfl (by decide +kernel : decode code 1001 = .ok (.aload_n 1, 1)) ?_
  refine r_aloadEn h (q := 0) 0 rfl (by decide +kernel : decode code 1002 = .ok (.aload_n 0, 1)) ?_
  refine r_iload h 4 rfl (by decide +kernel : decode code 1003 = .ok (.iload 4, 2)) ?_
  refine r_iconst h (v := 1) (by decide +kernel : decode code 1005 = .ok (.iconst 1, 1)) ?_
  refine r_iadd h (by decide +kernel : decode code 1006 = .ok (.iadd, 1)) ?_
  refine r_sld hW hg (7 * k + 1) (by omega) (by omega) (by omega) (by decide +kernel : decode code 1007 = .ok (.iaload, 1)) ?_
  refine r_aloadEn h (q := 0) 0 rfl (by decide +kernel : decode code 1008 = .ok (.aload_n 0, 1)) ?_
  refine r_iload h 4 rfl (by decide +kernel : decode code 1009 = .ok (.iload 4, 2)) ?_
  refine r_iconst h (v := 2) (by decide +kernel : decode code 1011 = .ok (.iconst 2, 1)) ?_
  refine r_iadd h (by decide +kernel : decode code 1012 = .ok (.iadd, 1)) ?_
  refine r_sld hW hg (7 * k + 2) (by omega) (by omega) (by omega) (by decide +kernel : decode code 1013 = .ok (.iaload, 1)) ?_
  refine r_aloadEn h (q := 0) 0 rfl (by decide +kernel : decode code 1014 = .ok (.aload_n 0, 1)) ?_
  refine r_iload h 4 rfl (by decide +kernel : decode code 1015 = .ok (.iload 4, 2)) ?_
  refine r_iconst h (v := 3) (by decide +kernel : decode code 1017 = .ok (.iconst 3, 1)) ?_
  refine r_iadd h (by decide +kernel : decode code 1018 = .ok (.iadd, 1)) ?_
  refine r_sld hW hg (7 * k + 3) (by omega) (by omega) (by omega) (by decide +kernel : decode code 1019 = .ok (.iaload, 1)) ?_
  refine r_aloadn h (q := 3) 3 rfl (by decide +kernel : decode code 1020 = .ok (.aload_n 3, 1)) ?_
  by_cases e9 : c9
  · refine r_callZ hW hg1 (as := [vr 1, vi (xs (7 * k + 1)).toInt, vi (xs (7 * k + 2)).toInt, vi (xs (7 * k + 3)).toInt, vr 246]) (S := []) mZ_rests (ly_rests (hC1 e9) (fun x M' q => by rw [q.1]; exact hr9 e9)) (by decide) rfl rfl (Nat.le_of_ble_eq_true rfl) (by decide +kernel : decode code 1021 = .ok (.invokestatic 148, 3)) ?_
    rintro r8 R8 Mw ⟨rfl, (⟨x, M1, rfl, ⟨rfl, hA1⟩, rfl⟩ | ⟨M1, rfl, hx8, rfl⟩)⟩
    · refine r_istore h1 (i := 5) (L' := (5, vi 0) :: LL k) (by decide) rfl (by decide +kernel : decode code 1024 = .ok (.istore 5, 2)) ?_
      refine r_aloadn h1 (q := 2) 3 rfl (by decide +kernel : decode code 1026 = .ok (.aload_n 2, 1)) ?_
      refine r_aloadEn h1 (q := 0) 1 rfl (by decide +kernel : decode code 1027 = .ok (.aload_n 0, 1)) ?_
      refine r_iload h1 5 rfl (by decide +kernel : decode code 1028 = .ok (.iload 4, 2)) ?_
      refine r_iconst h1 (v := 1) (by decide +kernel : decode code 1030 = .ok (.iconst 1, 1)) ?_
      refine r_iadd h1 (by decide +kernel : decode code 1031 = .ok (.iadd, 1)) ?_
      refine r_sld hW hg1 (7 * k + 1) (by omega) (by omega) (by omega) (by decide +kernel : decode code 1032 = .ok (.iaload, 1)) ?_
      refine r_aloadEn h1 (q := 0) 1 rfl (by decide +kernel : decode code 1033 = .ok (.aload_n 0, 1)) ?_
      refine r_iload h1 5 rfl (by decide +kernel : decode code 1034 = .ok (.iload 4, 2)) ?_
      refine r_iconst h1 (v := 2) (by decide +kernel : decode code 1036 = .ok (.iconst 2, 1)) ?_
      refine r_iadd h1 (by decide +kernel : decode code 1037 = .ok (.iadd, 1)) ?_
      refine r_sld hW hg1 (7 * k + 2) (by omega) (by omega) (by omega) (by decide +kernel : decode code 1038 = .ok (.iaload, 1)) ?_
      refine r_aloadEn h1 (q := 0) 1 rfl (by decide +kernel : decode code 1039 = .ok (.aload_n 0, 1)) ?_
      refine r_iload h1 5 rfl (by decide +kernel : decode code 1040 = .ok (.iload 4, 2)) ?_
      refine r_iconst h1 (v := 3) (by decide +kernel : decode code 1042 = .ok (.iconst 3, 1)) ?_
      refine r_iadd h1 (by decide +kernel : decode code 1043 = .ok (.iadd, 1)) ?_
      refine r_sld hW hg1 (7 * k + 3) (by omega) (by omega) (by omega) (by decide +kernel : decode code 1044 = .ok (.iaload, 1)) ?_
      refine r_callM h1 (as := [vi (xs (7 * k + 1)).toInt, vi (xs (7 * k + 2)).toInt, vi (xs (7 * k + 3)).toInt]) (S := []) m_L_150 hD (fun _ _ _ => rfl) (by decide) (Nat.le_refl _) rfl rfl (Nat.le_of_ble_eq_true rfl) (by decide +kernel : decode code 1045 = .ok (.invokevirtual 150, 3)) ?_
      intro y9 N1 hP9
      obtain ⟨rfl, hn0, hA2⟩ := hE1 e9 _ _ hP9
      refine r_istore h1 (i := 6) (L' := (6, vi y9) :: (5, vi 0) :: LL k) (by decide) rfl (by decide +kernel : decode code 1048 = .ok (.istore 6, 2)) ?_
      refine r_aloadn h1 (q := 2) 4 rfl (by decide +kernel : decode code 1050 = .ok (.aload_n 2, 1)) ?_
      refine r_callM h1 (as := []) (S := []) m_L_145 (m_thrown (N := N1)) (fun _ _ _ => rfl) (by decide) (Nat.le_refl _) rfl rfl (Nat.le_of_ble_eq_true rfl) (by decide +kernel : decode code 1051 = .ok (.invokevirtual 145, 3)) ?_
      rintro z9 N2 ⟨rfl, rfl⟩
      rw [hn0]
      refine r_iload h1 1 rfl (by decide +kernel : decode code 1054 = .ok (.iload 5, 2)) ?_
      refine r_icmp_same h1 1061 (by decide) (by decide +kernel : decode code 1056 = .ok (.if_icmp .eq 5, 3)) ?_
      refine r_iload h1 1 rfl (by decide +kernel : decode code 1061 = .ok (.iload 5, 2)) ?_
      refine r_if_ne h1 1078 (by decide) (by decide) (by decide +kernel : decode code 1063 = .ok (.ifCond .ne 15, 3)) (fun z => absurd rfl z) (fun _ => ?_)
      refine r_aloadn h1 (q := 3) 5 rfl (by decide +kernel : decode code 1066 = .ok (.aload_n 3, 1)) ?_
      refine r_iconst h1 (v := 0) (by decide +kernel : decode code 1067 = .ok (.iconst 0, 1)) ?_
      refine r_lald h1 0 rfl at246 (by decide) (by decide) (by decide +kernel : decode code 1068 = .ok (.laload, 1)) ?_
      rw [show ML M1 N2 (up1 o 0 y9) 246 0 = y9 by rw [ML_o]; rfl]
      refine r_iload h1 0 rfl (by decide +kernel : decode code 1069 = .ok (.iload 6, 2)) ?_
      refine r_i2l h1 (hr9 e9) (by decide +kernel : decode code 1071 = .ok (.i2l, 1)) ?_
      have hrl : rngL y9 := by have := hr9 e9; constructor <;> omega
      refine r_lcmp h1 hrl hrl (by decide +kernel : decode code 1072 = .ok (.lcmp, 1)) ?_
      rw [cmp_self]
      refine r_if_eq h1 1078 (by decide) (by decide) (by decide +kernel : decode code 1073 = .ok (.ifCond .eq 5, 3)) (fun _ => ?_) (fun z => absurd rfl z)
      refine r_goto h1 1208 (by decide) (by decide +kernel : decode code 1078 = .ok (.goto 130, 3)) ?_
      refine r_drop h1 [2, 3, 4, 5, 6] rfl ?_
      obtain ⟨t9, tb9, hS9⟩ := hF M1 _ hA1 hA2
      exact hJ (g + 1) M1 _ _ t9 tb9 (by omega) hS9
    · exact hx8.elim
  · refine r_callZ hW hg1 (as := [vr 1, vi (xs (7 * k + 1)).toInt, vi (xs (7 * k + 2)).toInt, vi (xs (7 * k + 3)).toInt, vr 246]) (S := []) mZ_rests (ly_rests (hC2 e9) (fun x M' q => q.elim)) (by decide) rfl rfl (Nat.le_of_ble_eq_true rfl) (by decide +kernel : decode code 1021 = .ok (.invokestatic 148, 3)) ?_
    rintro r8 R8 Mw ⟨rfl, (⟨x, M1, rfl, hx8, rfl⟩ | ⟨M1, rfl, hA1, rfl⟩)⟩
    · exact hx8.elim
    · refine r_istore h1 (i := 5) (L' := (5, vi 1) :: LL k) (by decide) rfl (by decide +kernel : decode code 1024 = .ok (.istore 5, 2)) ?_
      refine r_aloadn h1 (q := 2) 3 rfl (by decide +kernel : decode code 1026 = .ok (.aload_n 2, 1)) ?_
      refine r_aloadEn h1 (q := 0) 1 rfl (by decide +kernel : decode code 1027 = .ok (.aload_n 0, 1)) ?_
      refine r_iload h1 5 rfl (by decide +kernel : decode code 1028 = .ok (.iload 4, 2)) ?_
      refine r_iconst h1 (v := 1) (by decide +kernel : decode code 1030 = .ok (.iconst 1, 1)) ?_
      refine r_iadd h1 (by decide +kernel : decode code 1031 = .ok (.iadd, 1)) ?_
      refine r_sld hW hg1 (7 * k + 1) (by omega) (by omega) (by omega) (by decide +kernel : decode code 1032 = .ok (.iaload, 1)) ?_
      refine r_aloadEn h1 (q := 0) 1 rfl (by decide +kernel : decode code 1033 = .ok (.aload_n 0, 1)) ?_
      refine r_iload h1 5 rfl (by decide +kernel : decode code 1034 = .ok (.iload 4, 2)) ?_
      refine r_iconst h1 (v := 2) (by decide +kernel : decode code 1036 = .ok (.iconst 2, 1)) ?_
      refine r_iadd h1 (by decide +kernel : decode code 1037 = .ok (.iadd, 1)) ?_
      refine r_sld hW hg1 (7 * k + 2) (by omega) (by omega) (by omega) (by decide +kernel : decode code 1038 = .ok (.iaload, 1)) ?_
      refine r_aloadEn h1 (q := 0) 1 rfl (by decide +kernel : decode code 1039 = .ok (.aload_n 0, 1)) ?_
      refine r_iload h1 5 rfl (by decide +kernel : decode code 1040 = .ok (.iload 4, 2)) ?_
      refine r_iconst h1 (v := 3) (by decide +kernel : decode code 1042 = .ok (.iconst 3, 1)) ?_
      refine r_iadd h1 (by decide +kernel : decode code 1043 = .ok (.iadd, 1)) ?_
      refine r_sld hW hg1 (7 * k + 3) (by omega) (by omega) (by omega) (by decide +kernel : decode code 1044 = .ok (.iaload, 1)) ?_
      refine r_callM h1 (as := [vi (xs (7 * k + 1)).toInt, vi (xs (7 * k + 2)).toInt, vi (xs (7 * k + 3)).toInt]) (S := []) m_L_150 hD (fun _ _ _ => rfl) (by decide) (Nat.le_refl _) rfl rfl (Nat.le_of_ble_eq_true rfl) (by decide +kernel : decode code 1045 = .ok (.invokevirtual 150, 3)) ?_
      intro y9 N1 hP9
      obtain ⟨hn0, hA2⟩ := hE2 e9 _ _ hP9
      refine r_istore h1 (i := 6) (L' := (6, vi y9) :: (5, vi 1) :: LL k) (by decide) rfl (by decide +kernel : decode code 1048 = .ok (.istore 6, 2)) ?_
      refine r_aloadn h1 (q := 2) 4 rfl (by decide +kernel : decode code 1050 = .ok (.aload_n 2, 1)) ?_
      refine r_callM h1 (as := []) (S := []) m_L_145 (m_thrown (N := N1)) (fun _ _ _ => rfl) (by decide) (Nat.le_refl _) rfl rfl (Nat.le_of_ble_eq_true rfl) (by decide +kernel : decode code 1051 = .ok (.invokevirtual 145, 3)) ?_
      rintro z9 N2 ⟨rfl, rfl⟩
      rw [hn0]
      refine r_iload h1 1 rfl (by decide +kernel : decode code 1054 = .ok (.iload 5, 2)) ?_
      refine r_icmp_same h1 1061 (by decide) (by decide +kernel : decode code 1056 = .ok (.if_icmp .eq 5, 3)) ?_
      refine r_iload h1 1 rfl (by decide +kernel : decode code 1061 = .ok (.iload 5, 2)) ?_
      refine r_if_ne h1 1078 (by decide) (by decide) (by decide +kernel : decode code 1063 = .ok (.ifCond .ne 15, 3)) (fun _ => ?_) (fun z => absurd z (by decide))
      refine r_goto h1 1208 (by decide) (by decide +kernel : decode code 1078 = .ok (.goto 130, 3)) ?_
      refine r_drop h1 [2, 3, 4, 5, 6] rfl ?_
      obtain ⟨t9, tb9, hS9⟩ := hF M1 _ hA1 hA2
      exact hJ (g + 1) M1 _ _ t9 tb9 (by omega) hS9
