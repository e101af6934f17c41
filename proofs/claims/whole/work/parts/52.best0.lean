def wrI (x : Int) : Int := (Int32.ofInt x).toInt
theorem wrI_eq {x : Int} (h : rng x) : wrI x = x := oI h
theorem K_st {sh : Sh} {y : MethodName} {cc : ByteArray} {nL : Nat} {ret : Option FieldType} {d n0 n1 : Nat} {Q : Option AV → Rr → Mm → Prop} {K : Nat → Rr → Nat → List (Nat × AV) → List AV → Mm → Prop} {n : Nat} {R : Rr} {pc : Nat} {L : List (Nat × AV)} {S : List AV} {M : Mm} {x : Int} (h : EK sh y cc nL ret d n0 n1 Q K) (kk : K n R pc L (vi (wrI x) :: S) M) : K n R pc L (vi x :: S) M := by
  obtain ⟨p, l, e, s, m, args, below, meth, c, ad0, sad, D, A, ar, xc, xs, gc, gs, Z, hx, hb, hr, hml, hown, hts, hlk, hnm, hK, hSS, hA, ⟨hgc, hgs, hZ⟩, rfl⟩ := h
  intro hn ad H locs ls had hP hD hS hl
  have k2 := kk hn ad H locs ls had hP hD hS hl
  have e9 : cv ad sad (vi (wrI x)) = cv ad sad (vi x) := by
    show Value.int (Int32.ofInt (Int32.ofInt x).toInt) = Value.int (Int32.ofInt x)
    rw [Int32.ofInt_toInt]
  rw [List.map_cons, e9] at k2
  rw [List.map_cons]
  exact k2
set_option maxHeartbeats 4000000 in
set_option maxRecDepth 100000 in
theorem w_Rows_findRest_27w {P : Mm → Prop} {K : Nat → Rr → Nat → List (Nat × AV) → List AV → Mm → Prop} (h : EK shC yX3_findRest cX3_findRest 8 none 4 NN NN (QV RRC P) K) (b : Nat) (hb : At shC NN b (.inl 2)) (b1 : Nat) (hb1 : At shC NN b1 (.inl 7)) (x2 : Int) (x3 : Int) (x4 : Int) (x5 : Int) (x6 : Int) (x7 : Int) (M : Mm)
    (H : (rng x7) ∧ (rng (M b1 9)) ∧ ((M b1 9) ≤ x7 → ((0 ≤ ((x2 * 8) + x5) ∧ ((x2 * 8) + x5) < 1024) ∧ ∀ M1 : Mm, M1 = (upr M (b + 3) (up1 (M (b + 3)) ((x2 * 8) + x5).toNat x6)) → K NN RRC 3 [(0, vr b), (1, vr b1), (2, vi x2), (3, vi x3), (4, vi x4), (5, vi (x5 + 1))] [] M1)) ∧ (¬ ((M b1 9) ≤ x7) → (((andI (andI x3 (xorI x2 (-1))) (shlI 1 x7)) = 0 → (K NN RRC 27 [(0, vr b), (1, vr b1), (2, vi x2), (3, vi x3), (4, vi x4), (5, vi x5), (6, vi x6), (7, vi (x7 + 1))] [] M)) ∧ ((andI (andI x3 (xorI x2 (-1))) (shlI 1 x7)) ≠ 0 → (∃ P2 : Int → Mm → Prop, S_Rows_restBy b b1 x2 x5 x7 x4 M P2 ∧ ∀ (r1 : Int) (M2 : Mm), P2 r1 M2 → (rng x6) ∧ K NN RRC 27 [(0, vr b), (1, vr b1), (2, vi x2), (3, vi x3), (4, vi x4), (5, vi x5), (6, vi (min x6 (wrI r1))), (7, vi (x7 + 1))] [] M2))))) :
    K NN RRC 27 [(0, vr b), (1, vr b1), (2, vi x2), (3, vi x3), (4, vi x4), (5, vi x5), (6, vi x6), (7, vi x7)] [] M := by
  refine r_iload h 7 rfl (by decide +kernel : decode cX3_findRest 27 = .ok (.iload 7, 2)) ?_
  refine r_aloadn h (q := 1) 1 rfl (by decide +kernel : decode cX3_findRest 29 = .ok (.aload_n 1, 1)) ?_
  refine r_getI h f_Rows_34 hb1 (by decide +kernel : decode cX3_findRest 30 = .ok (.getfield 34, 3)) ?_
  obtain ⟨g1, g2, H⟩ := H
  obtain ⟨H1, H2⟩ := H
  refine r_icmp_ge h 74 g1 g2 (by decide) (by decide +kernel : decode cX3_findRest 33 = .ok (.if_icmp .ge 41, 3)) (fun hc => ?_) (fun hc => ?_)
  · have H := H1 hc
    refine r_aloadn h (q := 0) 0 rfl (by decide +kernel : decode cX3_findRest 74 = .ok (.aload_n 0, 1)) ?_
    refine r_getR h (r := (b + 3)) f_Rows_18 hb (rr_2_3 hb) (by omega) (by decide +kernel : decode cX3_findRest 75 = .ok (.getfield 18, 3)) ?_
    refine r_iloadn h (q := 2) 2 rfl (by decide +kernel : decode cX3_findRest 78 = .ok (.iload_n 2, 1)) ?_
    refine r_bipush h (v := 8) (by decide) (by decide +kernel : decode cX3_findRest 79 = .ok (.bipush 8, 2)) ?_
    refine r_imul h (by decide +kernel : decode cX3_findRest 81 = .ok (.imul, 1)) ?_
    refine r_iload h 5 rfl (by decide +kernel : decode cX3_findRest 82 = .ok (.iload 5, 2)) ?_
    refine r_iadd h (by decide +kernel : decode cX3_findRest 84 = .ok (.iadd, 1)) ?_
    refine r_iload h 6 rfl (by decide +kernel : decode cX3_findRest 85 = .ok (.iload 6, 2)) ?_
    obtain ⟨g1, H⟩ := H
    refine r_iast h ((x2 * 8) + x5).toNat rfl (at_2_3 hb) g1 (by decide) (by decide +kernel : decode cX3_findRest 87 = .ok (.iastore, 1)) ?_
    have H := H _ rfl
    revert H
    generalize (upr M (b + 3) (up1 (M (b + 3)) ((x2 * 8) + x5).toNat x6)) = M1
    intro H
    refine r_iinc h (i := 5) (v := 1) (L' := [(5, vi (x5 + 1)), (0, vr b), (1, vr b1), (2, vi x2), (3, vi x3), (4, vi x4), (6, vi x6), (7, vi x7)]) 5 rfl (by decide) rfl (by decide +kernel : decode cX3_findRest 88 = .ok (.iinc 5 1, 3)) ?_
    refine r_goto h 3 (by decide) (by decide +kernel : decode cX3_findRest 91 = .ok (.goto (-88), 3)) ?_
    refine r_drop h [1, 2, 3, 4, 5, 0] rfl ?_
    exact H
  · have H := H2 hc
    refine r_iloadn h (q := 3) 3 rfl (by decide +kernel : decode cX3_findRest 36 = .ok (.iload_n 3, 1)) ?_
    refine r_iloadn h (q := 2) 2 rfl (by decide +kernel : decode cX3_findRest 37 = .ok (.iload_n 2, 1)) ?_
    refine r_iconst h (v := (-1)) (by decide +kernel : decode cX3_findRest 38 = .ok (.iconst (-1), 1)) ?_
    refine r_ixor h (by decide +kernel : decode cX3_findRest 39 = .ok (.ixor, 1)) ?_
    refine r_iand h (by decide +kernel : decode cX3_findRest 40 = .ok (.iand, 1)) ?_
    refine r_iconst h (v := 1) (by decide +kernel : decode cX3_findRest 41 = .ok (.iconst 1, 1)) ?_
    refine r_iload h 7 rfl (by decide +kernel : decode cX3_findRest 42 = .ok (.iload 7, 2)) ?_
    refine r_ishl h (by decide +kernel : decode cX3_findRest 44 = .ok (.ishl, 1)) ?_
    refine r_iand h (by decide +kernel : decode cX3_findRest 45 = .ok (.iand, 1)) ?_
    obtain ⟨H1, H2⟩ := H
    refine r_if_eq h 68 (rng_toInt _) (by decide) (by decide +kernel : decode cX3_findRest 46 = .ok (.ifCond .eq 22, 3)) (fun hc => ?_) (fun hc => ?_)
    · have H := H1 hc
      refine r_iinc h (i := 7) (v := 1) (L' := [(7, vi (x7 + 1)), (0, vr b), (1, vr b1), (2, vi x2), (3, vi x3), (4, vi x4), (5, vi x5), (6, vi x6)]) 7 rfl (by decide) rfl (by decide +kernel : decode cX3_findRest 68 = .ok (.iinc 7 1, 3)) ?_
      refine r_goto h 27 (by decide) (by decide +kernel : decode cX3_findRest 71 = .ok (.goto (-44), 3)) ?_
      refine r_drop h [1, 2, 3, 4, 5, 6, 7, 0] rfl ?_
      exact H
    · have H := H2 hc
      refine r_iload h 6 rfl (by decide +kernel : decode cX3_findRest 49 = .ok (.iload 6, 2)) ?_
      refine r_aloadn h (q := 0) 0 rfl (by decide +kernel : decode cX3_findRest 51 = .ok (.aload_n 0, 1)) ?_
      refine r_aloadn h (q := 1) 1 rfl (by decide +kernel : decode cX3_findRest 52 = .ok (.aload_n 1, 1)) ?_
      refine r_iloadn h (q := 2) 2 rfl (by decide +kernel : decode cX3_findRest 53 = .ok (.iload_n 2, 1)) ?_
      refine r_iload h 5 rfl (by decide +kernel : decode cX3_findRest 54 = .ok (.iload 5, 2)) ?_
      refine r_iload h 7 rfl (by decide +kernel : decode cX3_findRest 56 = .ok (.iload 7, 2)) ?_
      refine r_iload h 4 rfl (by decide +kernel : decode cX3_findRest 58 = .ok (.iload 4, 2)) ?_
      obtain ⟨P2, hSP2, H⟩ := H
      refine r_callV h (as := [vr b1, vi x2, vi x5, vi x7, vi x4]) (S := [vi x6]) (b := b) m_Rows_86 hSP2 (by decide) (Nat.le_refl _) rfl hb rfl (Nat.le_of_ble_eq_true rfl) (by decide +kernel : decode cX3_findRest 60 = .ok (.invokevirtual 86, 3)) ?_
      rintro _ _ M2 ⟨rfl, r1, rfl, hP⟩
      have H := H r1 M2 hP
      show K NN RRC _ _ [vi r1, vi x6] _
      refine K_st h ?_
      obtain ⟨g1, H⟩ := H
      have g2 : rng (wrI r1) := rng_toInt _
      refine r_min h g1 g2 kM_min_Rows (by decide) (Nat.le_refl _) (Nat.le_of_ble_eq_true rfl) (by decide +kernel : decode cX3_findRest 63 = .ok (.invokestatic 90, 3)) ?_
      rw [min_if]
      have gm1 : rng (min x6 (wrI r1)) := min_rng g1 g2
      refine r_istore h (L' := [(6, vi (min x6 (wrI r1))), (0, vr b), (1, vr b1), (2, vi x2), (3, vi x3), (4, vi x4), (5, vi x5), (7, vi x7)]) (by decide) rfl (by decide +kernel : decode cX3_findRest 66 = .ok (.istore 6, 2)) ?_
      refine r_iinc h (i := 7) (v := 1) (L' := [(7, vi (x7 + 1)), (6, vi (min x6 (wrI r1))), (0, vr b), (1, vr b1), (2, vi x2), (3, vi x3), (4, vi x4), (5, vi x5)]) 7 rfl (by decide) rfl (by decide +kernel : decode cX3_findRest 68 = .ok (.iinc 7 1, 3)) ?_
      refine r_goto h 27 (by decide) (by decide +kernel : decode cX3_findRest 71 = .ok (.goto (-44), 3)) ?_
      refine r_drop h [2, 3, 4, 5, 6, 7, 1, 0] rfl ?_
      exact H
