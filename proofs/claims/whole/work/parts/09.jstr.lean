section ROWS
variable {sh : Sh} {y : MethodName} {cc : ByteArray} {nL : Nat} {ret : Option FieldType} {d n0 n1 : Nat} {Q : Option AV → Rr → Mm → Prop} {K : Nat → Rr → Nat → List (Nat × AV) → List AV → Mm → Prop} {n : Nat} {R : Rr} {pc : Nat} {L : List (Nat × AV)} {S : List AV} {M : Mm}
theorem r_getSN (h : EK sh y cc nL ret d n0 n1 Q K) {idx : Nat} {C nm ds : String} {v : AV} (hq : (C, nm, ds, v) ∈ zF) (hv9 : isNR v = true) (hlk9 : Cond.fieldLink y.cls idx C nm ds ∈ TB) (hd : decode cc pc = .ok (.getstatic idx, 3)) (kk : K n R (pc + 3) L (v :: S) M) : K n R pc L S M := by
  obtain ⟨p, l, e, s, m, args, below, meth, c, ad0, sad, D, A, ar, xc, xs, gc, gs, Z, hx, hb, hr, hml, hown, hts, hlk, hnm, hK, hSS, hA, ⟨hgc, hgs, hZ⟩, rfl⟩ := h
  intro hn ad H locs ls had hP hD hS hl
  refine va_gets hx hb (hSS.1 _ hq) hS hown (hts _ hlk9) (fun _ h9 => h9) hd ?_
  have k2 := kk hn ad H locs ls had hP hD hS hl
  rw [List.map_cons, cv_NR hv9 (ad' := sad)] at k2
  exact k2
theorem r_bret (h : EK sh y cc nL ret d n0 n1 Q K) {x : Int} (hret : ret = some .byte) (hx01 : x = 0 ∨ x = 1) (hd : decode cc pc = .ok (.ireturn, 1)) (hn1 : n = n1) (hq : Q (some (vi x)) R M) : K n R pc L [vi x] M := by
  obtain ⟨p, l, e, s, m, args, below, meth, c, ad0, sad, D, A, ar, xc, xs, gc, gs, Z, hx, hb, hr, hml, hown, hts, hlk, hnm, hK, hSS, hA, ⟨hgc, hgs, hZ⟩, rfl⟩ := h
  intro hn ad H locs ls had hP hD hS hl
  subst hn1
  exact W.widen (Nat.add_le_add_left hgc _) (Nat.add_le_add_left hgs _) (W_mono hZ (W.zret hx hb (hr.trans hret) (by rcases hx01 with rfl | rfl <;> rfl) (fun t ht hW => ⟨⟨ad, some (vi x), R, M, rfl, hq, had, by rw [ht]; exact hP, va_K.moved hW.alike hK, hD⟩, hS.F ht⟩) hS.2.2 hd hlk))
end ROWS
theorem zF_29 : (("java/lang/String", "COMPACT_STRINGS", "Z", vi 1) : String × String × String × AV) ∈ zF := List.mem_append.mpr (Or.inr (List.mem_cons_of_mem _ (List.mem_cons_of_mem _ List.mem_cons_self)))
theorem m_JStr_335 : MLE "java/lang/String" 335 yJ0_coder_7d493 cJ0_coder_7d493 1 (some .byte) 0 "java/lang/String" := ⟨⟨(inT3 29 rfl rfl), (inT1 15 rfl rfl), (inT3 32 rfl rfl), by decide +kernel, by decide⟩, (inT3 30 rfl rfl), (inT3 31 rfl rfl)⟩
theorem m_JStr_505 : MLE "java/lang/String" 505 yJ0_length_8abf5 cJ0_length_8abf5 1 (some .int) 0 "java/lang/String" := ⟨⟨(inT3 25 rfl rfl), (inT1 15 rfl rfl), (inT3 28 rfl rfl), by decide +kernel, by decide⟩, (inT3 26 rfl rfl), (inT3 27 rfl rfl)⟩
theorem m_JStr_637 : MLS "java/lang/String" 637 yJ1_indexOf_4cfef cJ1_indexOf_4cfef 4 (some .int) 4 := ⟨⟨(inT3 33 rfl rfl), (inT1 16 rfl rfl), (inT3 35 rfl rfl), by decide +kernel, by decide⟩, (inT3 34 rfl rfl)⟩
def S_JStr_coder  (M : Mm) (P : Int → Mm → Prop) : Prop := MI shC NN RRC yJ0_coder_7d493 cJ0_coder_7d493 1 (some .byte) 1 [ve 29] M P
theorem e_JStr_coder  (M : Mm) {P : Int → Mm → Prop} (h : ∀ K, EK shC yJ0_coder_7d493 cJ0_coder_7d493 1 (some .byte) 1 NN NN (QI RRC P) K → K NN RRC 0 [(0, ve 29)] [] M) : S_JStr_coder  M P := MI_of (by decide +kernel) (Nat.le_of_ble_eq_true rfl) h
set_option maxHeartbeats 4000000 in
set_option maxRecDepth 100000 in
theorem w_JStr_coder_0 {P : Int → Mm → Prop} {K : Nat → Rr → Nat → List (Nat × AV) → List AV → Mm → Prop} (h : EK shC yJ0_coder_7d493 cJ0_coder_7d493 1 (some .byte) 1 NN NN (QI RRC P) K)  (M : Mm)
    (H : ((1 : Int) = 0 → (P 1 M)) ∧ ((1 : Int) ≠ 0 → (P (0 : Int) M))) :
    K NN RRC 0 [(0, ve 29)] [] M := by
  refine r_getSN h zF_29 rfl (inT3 23 rfl rfl) (by decide +kernel : decode cJ0_coder_7d493 0 = .ok (.getstatic 38, 3)) ?_
  obtain ⟨H1, H2⟩ := H
  refine r_if_eq h 13 (by decide) (by decide) (by decide +kernel : decode cJ0_coder_7d493 3 = .ok (.ifCond .eq 10, 3)) (fun hc => ?_) (fun hc => ?_)
  · have H := H1 hc
    refine r_iconst h (v := 1) (by decide +kernel : decode cJ0_coder_7d493 13 = .ok (.iconst 1, 1)) ?_
    exact r_bret h rfl (by decide) (by decide +kernel : decode cJ0_coder_7d493 14 = .ok (.ireturn, 1)) rfl ⟨rfl, _, rfl, H⟩
  · have H := H2 hc
    refine r_aloadEn h (q := 0) 0 rfl (by decide +kernel : decode cJ0_coder_7d493 6 = .ok (.aload_n 0, 1)) ?_
    refine r_getO h oF_coder rfl (inT8 185 rfl rfl) (by decide +kernel : decode cJ0_coder_7d493 7 = .ok (.getfield 15, 3)) ?_
    refine r_goto h 14 (by decide) (by decide +kernel : decode cJ0_coder_7d493 10 = .ok (.goto 4, 3)) ?_
    exact r_bret h rfl (by decide) (by decide +kernel : decode cJ0_coder_7d493 14 = .ok (.ireturn, 1)) rfl ⟨rfl, _, rfl, H⟩
theorem W_JStr_coder  (M : Mm) {P : Int → Mm → Prop} (H : ((1 : Int) = 0 → (P 1 M)) ∧ ((1 : Int) ≠ 0 → (P (0 : Int) M))) : S_JStr_coder  M P := e_JStr_coder  M (fun _ h => w_JStr_coder_0 h  M H)
set_option maxHeartbeats 4000000 in
set_option maxRecDepth 100000 in
theorem w_JStr_isLatin1_0 {P : Int → Mm → Prop} {K : Nat → Rr → Nat → List (Nat × AV) → List AV → Mm → Prop} (h : EK shC yJ0_isLatin1_aae02 cJ0_isLatin1_aae02 1 (some .boolean) 1 NN NN (QI RRC P) K)  (M : Mm)
    (H : ((1 : Int) = 0 → (P 0 M)) ∧ ((1 : Int) ≠ 0 → (((0 : Int) ≠ 0 → (P 0 M)) ∧ ((0 : Int) = 0 → (P 1 M))))) :
    K NN RRC 0 [(0, ve 29)] [] M := by
  refine r_getSN h zF_29 rfl (inT3 23 rfl rfl) (by decide +kernel : decode cJ0_isLatin1_aae02 0 = .ok (.getstatic 38, 3)) ?_
  obtain ⟨H1, H2⟩ := H
  refine r_if_eq h 17 (by decide) (by decide) (by decide +kernel : decode cJ0_isLatin1_aae02 3 = .ok (.ifCond .eq 14, 3)) (fun hc => ?_) (fun hc => ?_)
  · have H := H1 hc
    refine r_iconst h (v := 0) (by decide +kernel : decode cJ0_isLatin1_aae02 17 = .ok (.iconst 0, 1)) ?_
    exact r_zret h rfl (by decide) (by decide +kernel : decode cJ0_isLatin1_aae02 18 = .ok (.ireturn, 1)) rfl ⟨rfl, _, rfl, H⟩
  · have H := H2 hc
    refine r_aloadEn h (q := 0) 0 rfl (by decide +kernel : decode cJ0_isLatin1_aae02 6 = .ok (.aload_n 0, 1)) ?_
    refine r_getO h oF_coder rfl (inT8 185 rfl rfl) (by decide +kernel : decode cJ0_isLatin1_aae02 7 = .ok (.getfield 15, 3)) ?_
    obtain ⟨H1, H2⟩ := H
    refine r_if_ne h 17 (by decide) (by decide) (by decide +kernel : decode cJ0_isLatin1_aae02 10 = .ok (.ifCond .ne 7, 3)) (fun hc => ?_) (fun hc => ?_)
    · have H := H1 hc
      refine r_iconst h (v := 0) (by decide +kernel : decode cJ0_isLatin1_aae02 17 = .ok (.iconst 0, 1)) ?_
      exact r_zret h rfl (by decide) (by decide +kernel : decode cJ0_isLatin1_aae02 18 = .ok (.ireturn, 1)) rfl ⟨rfl, _, rfl, H⟩
    · have H := H2 hc
      refine r_iconst h (v := 1) (by decide +kernel : decode cJ0_isLatin1_aae02 13 = .ok (.iconst 1, 1)) ?_
      refine r_goto h 18 (by decide) (by decide +kernel : decode cJ0_isLatin1_aae02 14 = .ok (.goto 4, 3)) ?_
      exact r_zret h rfl (by decide) (by decide +kernel : decode cJ0_isLatin1_aae02 18 = .ok (.ireturn, 1)) rfl ⟨rfl, _, rfl, H⟩
theorem W_JStr_isLatin1  (M : Mm) {P : Int → Mm → Prop} (H : ((1 : Int) = 0 → (P 0 M)) ∧ ((1 : Int) ≠ 0 → (((0 : Int) ≠ 0 → (P 0 M)) ∧ ((0 : Int) = 0 → (P 1 M))))) : S_JStr_isLatin1  M P := e_JStr_isLatin1  M (fun _ h => w_JStr_isLatin1_0 h  M H)
def S_JStr_length  (M : Mm) (P : Int → Mm → Prop) : Prop := MI shC NN RRC yJ0_length_8abf5 cJ0_length_8abf5 1 (some .int) 2 [ve 29] M P
theorem e_JStr_length  (M : Mm) {P : Int → Mm → Prop} (h : ∀ K, EK shC yJ0_length_8abf5 cJ0_length_8abf5 1 (some .int) 2 NN NN (QI RRC P) K → K NN RRC 0 [(0, ve 29)] [] M) : S_JStr_length  M P := MI_of (by decide +kernel) (Nat.le_of_ble_eq_true rfl) h
set_option maxHeartbeats 4000000 in
set_option maxRecDepth 100000 in
theorem w_JStr_length_0 {P : Int → Mm → Prop} {K : Nat → Rr → Nat → List (Nat × AV) → List AV → Mm → Prop} (h : EK shC yJ0_length_8abf5 cJ0_length_8abf5 1 (some .int) 2 NN NN (QI RRC P) K)  (M : Mm)
    (H : ∃ P1 : Int → Mm → Prop, S_JStr_coder  M P1 ∧ ∀ (r1 : Int) (M1 : Mm), P1 r1 M1 → P (shrI 8 r1) M1) :
    K NN RRC 0 [(0, ve 29)] [] M := by
  refine r_aloadEn h (q := 0) 0 rfl (by decide +kernel : decode cJ0_length_8abf5 0 = .ok (.aload_n 0, 1)) ?_
  refine r_getO h oF_value rfl (inT8 186 rfl rfl) (by decide +kernel : decode cJ0_length_8abf5 1 = .ok (.getfield 9, 3)) ?_
  refine r_tlen h tF_b (by decide +kernel : decode cJ0_length_8abf5 4 = .ok (.arraylength, 1)) ?_
  refine r_aloadEn h (q := 0) 0 rfl (by decide +kernel : decode cJ0_length_8abf5 5 = .ok (.aload_n 0, 1)) ?_
  obtain ⟨P1, hSP1, H⟩ := H
  refine r_callE h (as := []) (S := [vi 8]) (b := 29) m_JStr_335 hSP1 (by decide) (Nat.le_refl _) rfl oC_s rfl (Nat.le_of_ble_eq_true rfl) (by decide +kernel : decode cJ0_length_8abf5 6 = .ok (.invokevirtual 335, 3)) ?_
  rintro _ _ M1 ⟨rfl, r1, rfl, hP⟩
  have H := H r1 M1 hP
  show K NN RRC _ _ [vi r1, vi 8] _
  refine r_ishr h (by decide +kernel : decode cJ0_length_8abf5 9 = .ok (.ishr, 1)) ?_
  exact r_iret h rfl (by decide +kernel : decode cJ0_length_8abf5 10 = .ok (.ireturn, 1)) rfl ⟨rfl, _, rfl, H⟩
theorem W_JStr_length  (M : Mm) {P : Int → Mm → Prop} (H : ∃ P1 : Int → Mm → Prop, S_JStr_coder  M P1 ∧ ∀ (r1 : Int) (M1 : Mm), P1 r1 M1 → P (shrI 8 r1) M1) : S_JStr_length  M P := e_JStr_length  M (fun _ h => w_JStr_length_0 h  M H)
set_option maxHeartbeats 4000000 in
set_option maxRecDepth 100000 in
theorem w_JStr_indexOf_1_0 {P : Int → Mm → Prop} {K : Nat → Rr → Nat → List (Nat × AV) → List AV → Mm → Prop} (h : EK shC yJ0_indexOf_7cf53 cJ0_indexOf_7cf53 3 (some .int) 6 NN NN (QI RRC P) K) (x1 : Int) (x2 : Int) (M : Mm)
    (H : ∃ P1 : Int → Mm → Prop, S_JStr_isLatin1  M P1 ∧ ∀ (r1 : Int) (M1 : Mm), P1 r1 M1 → (rng r1) ∧ (r1 = 0 → (False)) ∧ (r1 ≠ 0 → (∃ P2 : Int → Mm → Prop, S_JStr_length  M1 P2 ∧ ∀ (r2 : Int) (M2 : Mm), P2 r2 M2 → ∃ P3 : Int → Mm → Prop, S_JLat_indexOf x1 x2 r2 M2 P3 ∧ ∀ (r3 : Int) (M3 : Mm), P3 r3 M3 → P r3 M3))) :
    K NN RRC 0 [(0, ve 29), (1, vi x1), (2, vi x2)] [] M := by
  refine r_aloadEn h (q := 0) 0 rfl (by decide +kernel : decode cJ0_indexOf_7cf53 0 = .ok (.aload_n 0, 1)) ?_
  obtain ⟨P1, hSP1, H⟩ := H
  refine r_callE h (as := []) (S := []) (b := 29) m_JStr_492 hSP1 (by decide) (Nat.le_refl _) rfl oC_s rfl (Nat.le_of_ble_eq_true rfl) (by decide +kernel : decode cJ0_indexOf_7cf53 1 = .ok (.invokevirtual 492, 3)) ?_
  rintro _ _ M1 ⟨rfl, r1, rfl, hP⟩
  have H := H r1 M1 hP
  show K NN RRC _ _ [vi r1] _
  obtain ⟨g1, H⟩ := H
  obtain ⟨H1, H2⟩ := H
  refine r_if_eq h 23 g1 (by decide) (by decide +kernel : decode cJ0_indexOf_7cf53 4 = .ok (.ifCond .eq 19, 3)) (fun hc => ?_) (fun hc => ?_)
  · have H := H1 hc
    exact H.elim
  · have H := H2 hc
    refine r_aloadEn h (q := 0) 0 rfl (by decide +kernel : decode cJ0_indexOf_7cf53 7 = .ok (.aload_n 0, 1)) ?_
    refine r_getO h oF_value rfl (inT8 186 rfl rfl) (by decide +kernel : decode cJ0_indexOf_7cf53 8 = .ok (.getfield 9, 3)) ?_
    refine r_iloadn h (q := 1) 1 rfl (by decide +kernel : decode cJ0_indexOf_7cf53 11 = .ok (.iload_n 1, 1)) ?_
    refine r_iloadn h (q := 2) 2 rfl (by decide +kernel : decode cJ0_indexOf_7cf53 12 = .ok (.iload_n 2, 1)) ?_
    refine r_aloadEn h (q := 0) 0 rfl (by decide +kernel : decode cJ0_indexOf_7cf53 13 = .ok (.aload_n 0, 1)) ?_
    obtain ⟨P2, hSP2, H⟩ := H
    refine r_callE h (as := []) (S := [vi x2, vi x1, ve 30]) (b := 29) m_JStr_505 hSP2 (by decide) (Nat.le_refl _) rfl oC_s rfl (Nat.le_of_ble_eq_true rfl) (by decide +kernel : decode cJ0_indexOf_7cf53 14 = .ok (.invokevirtual 505, 3)) ?_
    rintro _ _ M2 ⟨rfl, r2, rfl, hP⟩
    have H := H r2 M2 hP
    show K NN RRC _ _ [vi r2, vi x2, vi x1, ve 30] _
    obtain ⟨P3, hSP3, H⟩ := H
    refine r_callS h (as := [ve 30, vi x1, vi x2, vi r2]) (S := []) m_JStr_637 hSP3 (by decide) (Nat.le_refl _) rfl rfl (Nat.le_of_ble_eq_true rfl) (by decide +kernel : decode cJ0_indexOf_7cf53 17 = .ok (.invokestatic 637, 3)) ?_
    rintro _ _ M3 ⟨rfl, r3, rfl, hP⟩
    have H := H r3 M3 hP
    show K NN RRC _ _ [vi r3] _
    refine r_goto h 36 (by decide) (by decide +kernel : decode cJ0_indexOf_7cf53 20 = .ok (.goto 16, 3)) ?_
    exact r_iret h rfl (by decide +kernel : decode cJ0_indexOf_7cf53 36 = .ok (.ireturn, 1)) rfl ⟨rfl, _, rfl, H⟩
theorem W_JStr_indexOf_1 (x1 : Int) (x2 : Int) (M : Mm) {P : Int → Mm → Prop} (H : ∃ P1 : Int → Mm → Prop, S_JStr_isLatin1  M P1 ∧ ∀ (r1 : Int) (M1 : Mm), P1 r1 M1 → (rng r1) ∧ (r1 = 0 → (False)) ∧ (r1 ≠ 0 → (∃ P2 : Int → Mm → Prop, S_JStr_length  M1 P2 ∧ ∀ (r2 : Int) (M2 : Mm), P2 r2 M2 → ∃ P3 : Int → Mm → Prop, S_JLat_indexOf x1 x2 r2 M2 P3 ∧ ∀ (r3 : Int) (M3 : Mm), P3 r3 M3 → P r3 M3))) : S_JStr_indexOf_1 x1 x2 M P := e_JStr_indexOf_1 x1 x2 M (fun _ h => w_JStr_indexOf_1_0 h x1 x2 M H)
