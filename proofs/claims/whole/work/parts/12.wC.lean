set_option maxHeartbeats 4000000 in
set_option maxRecDepth 100000 in
theorem w_Mangle_drawBelow_0 {P : Int → Mm → Prop} {K : Nat → Rr → Nat → List (Nat × AV) → List AV → Mm → Prop} (h : EK shC yX2_drawBelow cX2_drawBelow 2 (some .int) 1 NN NN (QI RRC P) K) (b : Nat) (hb : At shC NN b (.inl 1)) (x1 : Int) (M : Mm)
    (H : ∀ M1 : Mm, M1 = (upr M b (up1 (M b) 6 (remL (((M b 6) * 1103515245) + 12345) 2147483648))) → (rng x1) ∧ (x1 ≤ 0 → (P 0 M1)) ∧ (¬ (x1 ≤ 0) → ((rng x1) ∧ (rngL x1) ∧ (x1 ≠ 0) ∧ P (remL (divL (M1 b 6) 65536) x1) M1))) :
    K NN RRC 0 [(0, vr b), (1, vi x1)] [] M := by
  refine r_aloadn h (q := 0) 0 rfl (by decide +kernel : decode cX2_drawBelow 0 = .ok (.aload_n 0, 1)) ?_
  refine r_aloadn h (q := 0) 0 rfl (by decide +kernel : decode cX2_drawBelow 1 = .ok (.aload_n 0, 1)) ?_
  refine r_getL h f_Mangle_127 hb (by decide +kernel : decode cX2_drawBelow 2 = .ok (.getfield 127, 3)) ?_
  refine r_ldc2 h (v := 1103515245) kc_Mangle_143 (by decide +kernel : decode cX2_drawBelow 5 = .ok (.ldc2_w 143, 3)) ?_
  refine r_lmul h (by decide +kernel : decode cX2_drawBelow 8 = .ok (.lmul, 1)) ?_
  refine r_ldc2 h (v := 12345) kc_Mangle_145 (by decide +kernel : decode cX2_drawBelow 9 = .ok (.ldc2_w 145, 3)) ?_
  refine r_ladd h (by decide +kernel : decode cX2_drawBelow 12 = .ok (.ladd, 1)) ?_
  refine r_ldc2 h (v := 2147483648) kc_Mangle_147 (by decide +kernel : decode cX2_drawBelow 13 = .ok (.ldc2_w 147, 3)) ?_
  refine r_lrem h (by decide) (by decide) (by decide +kernel : decode cX2_drawBelow 16 = .ok (.lrem, 1)) ?_
  refine r_putL h f_Mangle_127 hb rfl rfl (by decide +kernel : decode cX2_drawBelow 17 = .ok (.putfield 127, 3)) ?_
  have H := H _ rfl
  revert H
  generalize (upr M b (up1 (M b) 6 (remL (((M b 6) * 1103515245) + 12345) 2147483648))) = M1
  intro H
  refine r_iloadn h (q := 1) 1 rfl (by decide +kernel : decode cX2_drawBelow 20 = .ok (.iload_n 1, 1)) ?_
  obtain ⟨g1, H⟩ := H
  obtain ⟨H1, H2⟩ := H
  refine r_if_le h 39 g1 (by decide) (by decide +kernel : decode cX2_drawBelow 21 = .ok (.ifCond .le 18, 3)) (fun hc => ?_) (fun hc => ?_)
  · have H := H1 hc
    refine r_iconst h (v := 0) (by decide +kernel : decode cX2_drawBelow 39 = .ok (.iconst 0, 1)) ?_
    exact r_iret h rfl (by decide +kernel : decode cX2_drawBelow 40 = .ok (.ireturn, 1)) rfl ⟨rfl, _, rfl, H⟩
  · have H := H2 hc
    refine r_aloadn h (q := 0) 0 rfl (by decide +kernel : decode cX2_drawBelow 24 = .ok (.aload_n 0, 1)) ?_
    refine r_getL h f_Mangle_127 hb (by decide +kernel : decode cX2_drawBelow 25 = .ok (.getfield 127, 3)) ?_
    refine r_ldc2 h (v := 65536) kc_Mangle_149 (by decide +kernel : decode cX2_drawBelow 28 = .ok (.ldc2_w 149, 3)) ?_
    refine r_ldiv h (by decide) (by decide) (by decide +kernel : decode cX2_drawBelow 31 = .ok (.ldiv, 1)) ?_
    refine r_iloadn h (q := 1) 1 rfl (by decide +kernel : decode cX2_drawBelow 32 = .ok (.iload_n 1, 1)) ?_
    obtain ⟨g1, H⟩ := H
    refine r_i2l h g1 (by decide +kernel : decode cX2_drawBelow 33 = .ok (.i2l, 1)) ?_
    obtain ⟨g1, g2, H⟩ := H
    refine r_lrem h g1 g2 (by decide +kernel : decode cX2_drawBelow 34 = .ok (.lrem, 1)) ?_
    refine r_l2i h (by decide +kernel : decode cX2_drawBelow 35 = .ok (.l2i, 1)) ?_
    refine r_goto h 40 (by decide) (by decide +kernel : decode cX2_drawBelow 36 = .ok (.goto 4, 3)) ?_
    exact r_iret h rfl (by decide +kernel : decode cX2_drawBelow 40 = .ok (.ireturn, 1)) rfl ⟨rfl, _, rfl, H⟩
theorem W_Mangle_drawBelow (b : Nat) (hb : At shC NN b (.inl 1)) (x1 : Int) (M : Mm) {P : Int → Mm → Prop} (H : ∀ M1 : Mm, M1 = (upr M b (up1 (M b) 6 (remL (((M b 6) * 1103515245) + 12345) 2147483648))) → (rng x1) ∧ (x1 ≤ 0 → (P 0 M1)) ∧ (¬ (x1 ≤ 0) → ((rng x1) ∧ (rngL x1) ∧ (x1 ≠ 0) ∧ P (remL (divL (M1 b 6) 65536) x1) M1))) : S_Mangle_drawBelow b x1 M P := e_Mangle_drawBelow b x1 M (fun _ h => w_Mangle_drawBelow_0 h b hb x1 M H)
set_option maxHeartbeats 4000000 in
set_option maxRecDepth 100000 in
theorem w_Rows_countWays_0 {P : Int → Mm → Prop} {K : Nat → Rr → Nat → List (Nat × AV) → List AV → Mm → Prop} (h : EK shC yX3_countWays cX3_countWays 6 (some .int) 1 NN NN (QI RRC P) K) (b : Nat) (hb : At shC NN b (.inl 2)) (x1 : Int) (M : Mm)
    (H : ∀ M1 : Mm, M1 = (upr M (b + 5) (up1 (M (b + 5)) 0 1)) → K NN RRC 13 [(0, vr b), (1, vi x1), (2, vi (shlI 1 x1)), (3, vi 1)] [] M1) :
    K NN RRC 0 [(0, vr b), (1, vi x1)] [] M := by
  refine r_iconst h (v := 1) (by decide +kernel : decode cX3_countWays 0 = .ok (.iconst 1, 1)) ?_
  refine r_iloadn h (q := 1) 1 rfl (by decide +kernel : decode cX3_countWays 1 = .ok (.iload_n 1, 1)) ?_
  refine r_ishl h (by decide +kernel : decode cX3_countWays 2 = .ok (.ishl, 1)) ?_
  refine r_istoren h (q := 2) (L' := [(2, vi (shlI 1 x1)), (0, vr b), (1, vi x1)]) (by decide) rfl (by decide +kernel : decode cX3_countWays 3 = .ok (.istore_n 2, 1)) ?_
  refine r_aloadn h (q := 0) 1 rfl (by decide +kernel : decode cX3_countWays 4 = .ok (.aload_n 0, 1)) ?_
  refine r_getR h (r := (b + 5)) f_Rows_24 hb (rr_2_5 hb) (by omega) (by decide +kernel : decode cX3_countWays 5 = .ok (.getfield 24, 3)) ?_
  refine r_iconst h (v := 0) (by decide +kernel : decode cX3_countWays 8 = .ok (.iconst 0, 1)) ?_
  refine r_iconst h (v := 1) (by decide +kernel : decode cX3_countWays 9 = .ok (.iconst 1, 1)) ?_
  refine r_iast h 0 rfl (at_2_5 hb) (by decide) (by decide) (by decide +kernel : decode cX3_countWays 10 = .ok (.iastore, 1)) ?_
  have H := H _ rfl
  revert H
  generalize (upr M (b + 5) (up1 (M (b + 5)) 0 1)) = M1
  intro H
  refine r_iconst h (v := 1) (by decide +kernel : decode cX3_countWays 11 = .ok (.iconst 1, 1)) ?_
  refine r_istoren h (q := 3) (L' := [(3, vi 1), (2, vi (shlI 1 x1)), (0, vr b), (1, vi x1)]) (by decide) rfl (by decide +kernel : decode cX3_countWays 12 = .ok (.istore_n 3, 1)) ?_
  refine r_drop h [2, 3, 1, 0] rfl ?_
  exact H
set_option maxHeartbeats 4000000 in
set_option maxRecDepth 100000 in
theorem w_Rows_countWays_13 {P : Int → Mm → Prop} {K : Nat → Rr → Nat → List (Nat × AV) → List AV → Mm → Prop} (h : EK shC yX3_countWays cX3_countWays 6 (some .int) 1 NN NN (QI RRC P) K) (b : Nat) (hb : At shC NN b (.inl 2)) (x1 : Int) (x2 : Int) (x3 : Int) (M : Mm)
    (H : (rng x3) ∧ (rng x2) ∧ (x2 ≤ x3 → ((0 ≤ (x2 - 1) ∧ (x2 - 1) < 128) ∧ P (M (b + 5) (x2 - 1).toNat) M)) ∧ (¬ (x2 ≤ x3) → ((0 ≤ x3 ∧ x3 < 128) ∧ ∀ M1 : Mm, M1 = (upr M (b + 5) (up1 (M (b + 5)) x3.toNat 0)) → K NN RRC 28 [(0, vr b), (1, vi x1), (2, vi x2), (3, vi x3), (4, vi 0)] [] M1))) :
    K NN RRC 13 [(0, vr b), (1, vi x1), (2, vi x2), (3, vi x3)] [] M := by
  refine r_iloadn h (q := 3) 3 rfl (by decide +kernel : decode cX3_countWays 13 = .ok (.iload_n 3, 1)) ?_
  refine r_iloadn h (q := 2) 2 rfl (by decide +kernel : decode cX3_countWays 14 = .ok (.iload_n 2, 1)) ?_
  obtain ⟨g1, g2, H⟩ := H
  obtain ⟨H1, H2⟩ := H
  refine r_icmp_ge h 93 g1 g2 (by decide) (by decide +kernel : decode cX3_countWays 15 = .ok (.if_icmp .ge 78, 3)) (fun hc => ?_) (fun hc => ?_)
  · have H := H1 hc
    refine r_aloadn h (q := 0) 0 rfl (by decide +kernel : decode cX3_countWays 93 = .ok (.aload_n 0, 1)) ?_
    refine r_getR h (r := (b + 5)) f_Rows_24 hb (rr_2_5 hb) (by omega) (by decide +kernel : decode cX3_countWays 94 = .ok (.getfield 24, 3)) ?_
    refine r_iloadn h (q := 2) 2 rfl (by decide +kernel : decode cX3_countWays 97 = .ok (.iload_n 2, 1)) ?_
    refine r_iconst h (v := 1) (by decide +kernel : decode cX3_countWays 98 = .ok (.iconst 1, 1)) ?_
    refine r_isub h (by decide +kernel : decode cX3_countWays 99 = .ok (.isub, 1)) ?_
    obtain ⟨g1, H⟩ := H
    refine r_iald h (x2 - 1).toNat rfl (at_2_5 hb) g1 (by decide) (by decide +kernel : decode cX3_countWays 100 = .ok (.iaload, 1)) ?_
    exact r_iret h rfl (by decide +kernel : decode cX3_countWays 101 = .ok (.ireturn, 1)) rfl ⟨rfl, _, rfl, H⟩
  · have H := H2 hc
    refine r_aloadn h (q := 0) 0 rfl (by decide +kernel : decode cX3_countWays 18 = .ok (.aload_n 0, 1)) ?_
    refine r_getR h (r := (b + 5)) f_Rows_24 hb (rr_2_5 hb) (by omega) (by decide +kernel : decode cX3_countWays 19 = .ok (.getfield 24, 3)) ?_
    refine r_iloadn h (q := 3) 3 rfl (by decide +kernel : decode cX3_countWays 22 = .ok (.iload_n 3, 1)) ?_
    refine r_iconst h (v := 0) (by decide +kernel : decode cX3_countWays 23 = .ok (.iconst 0, 1)) ?_
    obtain ⟨g1, H⟩ := H
    refine r_iast h x3.toNat rfl (at_2_5 hb) g1 (by decide) (by decide +kernel : decode cX3_countWays 24 = .ok (.iastore, 1)) ?_
    have H := H _ rfl
    revert H
    generalize (upr M (b + 5) (up1 (M (b + 5)) x3.toNat 0)) = M1
    intro H
    refine r_iconst h (v := 0) (by decide +kernel : decode cX3_countWays 25 = .ok (.iconst 0, 1)) ?_
    refine r_istore h (L' := [(4, vi 0), (0, vr b), (1, vi x1), (2, vi x2), (3, vi x3)]) (by decide) rfl (by decide +kernel : decode cX3_countWays 26 = .ok (.istore 4, 2)) ?_
    refine r_drop h [1, 2, 3, 4, 0] rfl ?_
    exact H
set_option maxHeartbeats 4000000 in
set_option maxRecDepth 100000 in
theorem w_Rows_countWays_28 {P : Int → Mm → Prop} {K : Nat → Rr → Nat → List (Nat × AV) → List AV → Mm → Prop} (h : EK shC yX3_countWays cX3_countWays 6 (some .int) 1 NN NN (QI RRC P) K) (b : Nat) (hb : At shC NN b (.inl 2)) (x1 : Int) (x2 : Int) (x3 : Int) (x4 : Int) (M : Mm)
    (H : (rng x4) ∧ (rng x1) ∧ (x1 ≤ x4 → (K NN RRC 13 [(0, vr b), (1, vi x1), (2, vi x2), (3, vi (x3 + 1))] [] M)) ∧ (¬ (x1 ≤ x4) → ((rng x3) ∧ ((andI x3 (xorI (shlI 1 x4) (-1))) = x3 → (K NN RRC 28 [(0, vr b), (1, vi x1), (2, vi x2), (3, vi x3), (4, vi (x4 + 1))] [] M)) ∧ ((andI x3 (xorI (shlI 1 x4) (-1))) ≠ x3 → ((0 ≤ x4 ∧ x4 < 7) ∧ ((andI (M (b + 6) x4.toNat) (xorI (andI x3 (xorI (shlI 1 x4) (-1))) (-1))) ≠ 0 → (K NN RRC 28 [(0, vr b), (1, vi x1), (2, vi x2), (3, vi x3), (4, vi (x4 + 1))] [] M)) ∧ ((andI (M (b + 6) x4.toNat) (xorI (andI x3 (xorI (shlI 1 x4) (-1))) (-1))) = 0 → ((0 ≤ x3 ∧ x3 < 128) ∧ (0 ≤ (andI x3 (xorI (shlI 1 x4) (-1))) ∧ (andI x3 (xorI (shlI 1 x4) (-1))) < 128) ∧ (0 ≤ x3 ∧ x3 < 128) ∧ ∀ M1 : Mm, M1 = (upr M (b + 5) (up1 (M (b + 5)) x3.toNat ((M (b + 5) x3.toNat) + (M (b + 5) (andI x3 (xorI (shlI 1 x4) (-1))).toNat)))) → K NN RRC 28 [(0, vr b), (1, vi x1), (2, vi x2), (3, vi x3), (4, vi (x4 + 1))] [] M1))))))) :
    K NN RRC 28 [(0, vr b), (1, vi x1), (2, vi x2), (3, vi x3), (4, vi x4)] [] M := by
  refine r_iload h 4 rfl (by decide +kernel : decode cX3_countWays 28 = .ok (.iload 4, 2)) ?_
  refine r_iloadn h (q := 1) 1 rfl (by decide +kernel : decode cX3_countWays 30 = .ok (.iload_n 1, 1)) ?_
  obtain ⟨g1, g2, H⟩ := H
  obtain ⟨H1, H2⟩ := H
  refine r_icmp_ge h 87 g1 g2 (by decide) (by decide +kernel : decode cX3_countWays 31 = .ok (.if_icmp .ge 56, 3)) (fun hc => ?_) (fun hc => ?_)
  · have H := H1 hc
    refine r_iinc h (i := 3) (v := 1) (L' := [(3, vi (x3 + 1)), (0, vr b), (1, vi x1), (2, vi x2), (4, vi x4)]) 3 rfl (by decide) rfl (by decide +kernel : decode cX3_countWays 87 = .ok (.iinc 3 1, 3)) ?_
    refine r_goto h 13 (by decide) (by decide +kernel : decode cX3_countWays 90 = .ok (.goto (-77), 3)) ?_
    refine r_drop h [1, 2, 3, 0] rfl ?_
    exact H
  · have H := H2 hc
    refine r_iloadn h (q := 3) 3 rfl (by decide +kernel : decode cX3_countWays 34 = .ok (.iload_n 3, 1)) ?_
    refine r_iconst h (v := 1) (by decide +kernel : decode cX3_countWays 35 = .ok (.iconst 1, 1)) ?_
    refine r_iload h 4 rfl (by decide +kernel : decode cX3_countWays 36 = .ok (.iload 4, 2)) ?_
    refine r_ishl h (by decide +kernel : decode cX3_countWays 38 = .ok (.ishl, 1)) ?_
    refine r_iconst h (v := (-1)) (by decide +kernel : decode cX3_countWays 39 = .ok (.iconst (-1), 1)) ?_
    refine r_ixor h (by decide +kernel : decode cX3_countWays 40 = .ok (.ixor, 1)) ?_
    refine r_iand h (by decide +kernel : decode cX3_countWays 41 = .ok (.iand, 1)) ?_
    refine r_istore h (L' := [(5, vi (andI x3 (xorI (shlI 1 x4) (-1)))), (0, vr b), (1, vi x1), (2, vi x2), (3, vi x3), (4, vi x4)]) (by decide) rfl (by decide +kernel : decode cX3_countWays 42 = .ok (.istore 5, 2)) ?_
    refine r_iload h 0 rfl (by decide +kernel : decode cX3_countWays 44 = .ok (.iload 5, 2)) ?_
    refine r_iloadn h (q := 3) 4 rfl (by decide +kernel : decode cX3_countWays 46 = .ok (.iload_n 3, 1)) ?_
    obtain ⟨g1, H⟩ := H
    obtain ⟨H1, H2⟩ := H
    refine r_icmp_eq h 81 (rng_toInt _) g1 (by decide) (by decide +kernel : decode cX3_countWays 47 = .ok (.if_icmp .eq 34, 3)) (fun hc => ?_) (fun hc => ?_)
    · have H := H1 hc
      refine r_iinc h (i := 4) (v := 1) (L' := [(4, vi (x4 + 1)), (5, vi (andI x3 (xorI (shlI 1 x4) (-1)))), (0, vr b), (1, vi x1), (2, vi x2), (3, vi x3)]) 5 rfl (by decide) rfl (by decide +kernel : decode cX3_countWays 81 = .ok (.iinc 4 1, 3)) ?_
      refine r_goto h 28 (by decide) (by decide +kernel : decode cX3_countWays 84 = .ok (.goto (-56), 3)) ?_
      refine r_drop h [2, 3, 4, 5, 0] rfl ?_
      exact H
    · have H := H2 hc
      refine r_aloadn h (q := 0) 1 rfl (by decide +kernel : decode cX3_countWays 50 = .ok (.aload_n 0, 1)) ?_
      refine r_getR h (r := (b + 6)) f_Rows_27 hb (rr_2_6 hb) (by omega) (by decide +kernel : decode cX3_countWays 51 = .ok (.getfield 27, 3)) ?_
      refine r_iload h 5 rfl (by decide +kernel : decode cX3_countWays 54 = .ok (.iload 4, 2)) ?_
      obtain ⟨g1, H⟩ := H
      refine r_iald h x4.toNat rfl (at_2_6 hb) g1 (by decide) (by decide +kernel : decode cX3_countWays 56 = .ok (.iaload, 1)) ?_
      refine r_iload h 0 rfl (by decide +kernel : decode cX3_countWays 57 = .ok (.iload 5, 2)) ?_
      refine r_iconst h (v := (-1)) (by decide +kernel : decode cX3_countWays 59 = .ok (.iconst (-1), 1)) ?_
      refine r_ixor h (by decide +kernel : decode cX3_countWays 60 = .ok (.ixor, 1)) ?_
      refine r_iand h (by decide +kernel : decode cX3_countWays 61 = .ok (.iand, 1)) ?_
      obtain ⟨H1, H2⟩ := H
      refine r_if_ne h 81 (rng_toInt _) (by decide) (by decide +kernel : decode cX3_countWays 62 = .ok (.ifCond .ne 19, 3)) (fun hc => ?_) (fun hc => ?_)
      · have H := H1 hc
        refine r_iinc h (i := 4) (v := 1) (L' := [(4, vi (x4 + 1)), (5, vi (andI x3 (xorI (shlI 1 x4) (-1)))), (0, vr b), (1, vi x1), (2, vi x2), (3, vi x3)]) 5 rfl (by decide) rfl (by decide +kernel : decode cX3_countWays 81 = .ok (.iinc 4 1, 3)) ?_
        refine r_goto h 28 (by decide) (by decide +kernel : decode cX3_countWays 84 = .ok (.goto (-56), 3)) ?_
        refine r_drop h [2, 3, 4, 5, 0] rfl ?_
        exact H
      · have H := H2 hc
        refine r_aloadn h (q := 0) 1 rfl (by decide +kernel : decode cX3_countWays 65 = .ok (.aload_n 0, 1)) ?_
        refine r_getR h (r := (b + 5)) f_Rows_24 hb (rr_2_5 hb) (by omega) (by decide +kernel : decode cX3_countWays 66 = .ok (.getfield 24, 3)) ?_
        refine r_iloadn h (q := 3) 4 rfl (by decide +kernel : decode cX3_countWays 69 = .ok (.iload_n 3, 1)) ?_
        refine r_dup2 h rfl rfl (by decide +kernel : decode cX3_countWays 70 = .ok (.dup2, 1)) ?_
        obtain ⟨g1, H⟩ := H
        refine r_iald h x3.toNat rfl (at_2_5 hb) g1 (by decide) (by decide +kernel : decode cX3_countWays 71 = .ok (.iaload, 1)) ?_
        refine r_aloadn h (q := 0) 1 rfl (by decide +kernel : decode cX3_countWays 72 = .ok (.aload_n 0, 1)) ?_
        refine r_getR h (r := (b + 5)) f_Rows_24 hb (rr_2_5 hb) (by omega) (by decide +kernel : decode cX3_countWays 73 = .ok (.getfield 24, 3)) ?_
        refine r_iload h 0 rfl (by decide +kernel : decode cX3_countWays 76 = .ok (.iload 5, 2)) ?_
        obtain ⟨g1, H⟩ := H
        refine r_iald h (andI x3 (xorI (shlI 1 x4) (-1))).toNat rfl (at_2_5 hb) g1 (by decide) (by decide +kernel : decode cX3_countWays 78 = .ok (.iaload, 1)) ?_
        refine r_iadd h (by decide +kernel : decode cX3_countWays 79 = .ok (.iadd, 1)) ?_
        obtain ⟨g1, H⟩ := H
        refine r_iast h x3.toNat rfl (at_2_5 hb) g1 (by decide) (by decide +kernel : decode cX3_countWays 80 = .ok (.iastore, 1)) ?_
        have H := H _ rfl
        revert H
        generalize (upr M (b + 5) (up1 (M (b + 5)) x3.toNat ((M (b + 5) x3.toNat) + (M (b + 5) (andI x3 (xorI (shlI 1 x4) (-1))).toNat)))) = M1
        intro H
        refine r_iinc h (i := 4) (v := 1) (L' := [(4, vi (x4 + 1)), (5, vi (andI x3 (xorI (shlI 1 x4) (-1)))), (0, vr b), (1, vi x1), (2, vi x2), (3, vi x3)]) 5 rfl (by decide) rfl (by decide +kernel : decode cX3_countWays 81 = .ok (.iinc 4 1, 3)) ?_
        refine r_goto h 28 (by decide) (by decide +kernel : decode cX3_countWays 84 = .ok (.goto (-56), 3)) ?_
        refine r_drop h [2, 3, 4, 5, 0] rfl ?_
        exact H
set_option maxHeartbeats 4000000 in
set_option maxRecDepth 100000 in
theorem w_Rows_firstFree_0 {P : Int → Mm → Prop} {K : Nat → Rr → Nat → List (Nat × AV) → List AV → Mm → Prop} (h : EK shC yX3_firstFree cX3_firstFree 4 (some .int) 1 NN NN (QI RRC P) K) (b : Nat) (hb : At shC NN b (.inl 2)) (x1 : Int) (x2 : Int) (M : Mm)
    (H : K NN RRC 2 [(0, vr b), (1, vi x1), (2, vi x2), (3, vi 0)] [] M) :
    K NN RRC 0 [(0, vr b), (1, vi x1), (2, vi x2)] [] M := by
  refine r_iconst h (v := 0) (by decide +kernel : decode cX3_firstFree 0 = .ok (.iconst 0, 1)) ?_
  refine r_istoren h (q := 3) (L' := [(3, vi 0), (0, vr b), (1, vi x1), (2, vi x2)]) (by decide) rfl (by decide +kernel : decode cX3_firstFree 1 = .ok (.istore_n 3, 1)) ?_
  refine r_drop h [1, 2, 3, 0] rfl ?_
  exact H
set_option maxHeartbeats 4000000 in
set_option maxRecDepth 100000 in
theorem w_Rows_firstFree_2 {P : Int → Mm → Prop} {K : Nat → Rr → Nat → List (Nat × AV) → List AV → Mm → Prop} (h : EK shC yX3_firstFree cX3_firstFree 4 (some .int) 1 NN NN (QI RRC P) K) (b : Nat) (hb : At shC NN b (.inl 2)) (x1 : Int) (x2 : Int) (x3 : Int) (M : Mm)
    (H : (rng x3) ∧ (rng x2) ∧ (x2 ≤ x3 → (P (-1) M)) ∧ (¬ (x2 ≤ x3) → (((andI (shrI x1 x3) 1) ≠ 0 → (K NN RRC 2 [(0, vr b), (1, vi x1), (2, vi x2), (3, vi (x3 + 1))] [] M)) ∧ ((andI (shrI x1 x3) 1) = 0 → ((0 ≤ x3 ∧ x3 < 7) ∧ ((andI (M (b + 6) x3.toNat) (xorI x1 (-1))) ≠ 0 → (K NN RRC 2 [(0, vr b), (1, vi x1), (2, vi x2), (3, vi (x3 + 1))] [] M)) ∧ ((andI (M (b + 6) x3.toNat) (xorI x1 (-1))) = 0 → (P x3 M))))))) :
    K NN RRC 2 [(0, vr b), (1, vi x1), (2, vi x2), (3, vi x3)] [] M := by
  refine r_iloadn h (q := 3) 3 rfl (by decide +kernel : decode cX3_firstFree 2 = .ok (.iload_n 3, 1)) ?_
  refine r_iloadn h (q := 2) 2 rfl (by decide +kernel : decode cX3_firstFree 3 = .ok (.iload_n 2, 1)) ?_
  obtain ⟨g1, g2, H⟩ := H
  obtain ⟨H1, H2⟩ := H
  refine r_icmp_ge h 36 g1 g2 (by decide) (by decide +kernel : decode cX3_firstFree 4 = .ok (.if_icmp .ge 32, 3)) (fun hc => ?_) (fun hc => ?_)
  · have H := H1 hc
    refine r_iconst h (v := (-1)) (by decide +kernel : decode cX3_firstFree 36 = .ok (.iconst (-1), 1)) ?_
    exact r_iret h rfl (by decide +kernel : decode cX3_firstFree 37 = .ok (.ireturn, 1)) rfl ⟨rfl, _, rfl, H⟩
  · have H := H2 hc
    refine r_iloadn h (q := 1) 1 rfl (by decide +kernel : decode cX3_firstFree 7 = .ok (.iload_n 1, 1)) ?_
    refine r_iloadn h (q := 3) 3 rfl (by decide +kernel : decode cX3_firstFree 8 = .ok (.iload_n 3, 1)) ?_
    refine r_ishr h (by decide +kernel : decode cX3_firstFree 9 = .ok (.ishr, 1)) ?_
    refine r_iconst h (v := 1) (by decide +kernel : decode cX3_firstFree 10 = .ok (.iconst 1, 1)) ?_
    refine r_iand h (by decide +kernel : decode cX3_firstFree 11 = .ok (.iand, 1)) ?_
    obtain ⟨H1, H2⟩ := H
    refine r_if_ne h 30 (rng_toInt _) (by decide) (by decide +kernel : decode cX3_firstFree 12 = .ok (.ifCond .ne 18, 3)) (fun hc => ?_) (fun hc => ?_)
    · have H := H1 hc
      refine r_iinc h (i := 3) (v := 1) (L' := [(3, vi (x3 + 1)), (0, vr b), (1, vi x1), (2, vi x2)]) 3 rfl (by decide) rfl (by decide +kernel : decode cX3_firstFree 30 = .ok (.iinc 3 1, 3)) ?_
      refine r_goto h 2 (by decide) (by decide +kernel : decode cX3_firstFree 33 = .ok (.goto (-31), 3)) ?_
      refine r_drop h [1, 2, 3, 0] rfl ?_
      exact H
    · have H := H2 hc
      refine r_aloadn h (q := 0) 0 rfl (by decide +kernel : decode cX3_firstFree 15 = .ok (.aload_n 0, 1)) ?_
      refine r_getR h (r := (b + 6)) f_Rows_27 hb (rr_2_6 hb) (by omega) (by decide +kernel : decode cX3_firstFree 16 = .ok (.getfield 27, 3)) ?_
      refine r_iloadn h (q := 3) 3 rfl (by decide +kernel : decode cX3_firstFree 19 = .ok (.iload_n 3, 1)) ?_
      obtain ⟨g1, H⟩ := H
      refine r_iald h x3.toNat rfl (at_2_6 hb) g1 (by decide) (by decide +kernel : decode cX3_firstFree 20 = .ok (.iaload, 1)) ?_
      refine r_iloadn h (q := 1) 1 rfl (by decide +kernel : decode cX3_firstFree 21 = .ok (.iload_n 1, 1)) ?_
      refine r_iconst h (v := (-1)) (by decide +kernel : decode cX3_firstFree 22 = .ok (.iconst (-1), 1)) ?_
      refine r_ixor h (by decide +kernel : decode cX3_firstFree 23 = .ok (.ixor, 1)) ?_
      refine r_iand h (by decide +kernel : decode cX3_firstFree 24 = .ok (.iand, 1)) ?_
      obtain ⟨H1, H2⟩ := H
      refine r_if_ne h 30 (rng_toInt _) (by decide) (by decide +kernel : decode cX3_firstFree 25 = .ok (.ifCond .ne 5, 3)) (fun hc => ?_) (fun hc => ?_)
      · have H := H1 hc
        refine r_iinc h (i := 3) (v := 1) (L' := [(3, vi (x3 + 1)), (0, vr b), (1, vi x1), (2, vi x2)]) 3 rfl (by decide) rfl (by decide +kernel : decode cX3_firstFree 30 = .ok (.iinc 3 1, 3)) ?_
        refine r_goto h 2 (by decide) (by decide +kernel : decode cX3_firstFree 33 = .ok (.goto (-31), 3)) ?_
        refine r_drop h [1, 2, 3, 0] rfl ?_
        exact H
      · have H := H2 hc
        refine r_iloadn h (q := 3) 3 rfl (by decide +kernel : decode cX3_firstFree 28 = .ok (.iload_n 3, 1)) ?_
        exact r_iret h rfl (by decide +kernel : decode cX3_firstFree 29 = .ok (.ireturn, 1)) rfl ⟨rfl, _, rfl, H⟩
set_option maxHeartbeats 4000000 in
set_option maxRecDepth 100000 in
theorem w_Secrets_sumOf_0 {P : Int → Mm → Prop} {K : Nat → Rr → Nat → List (Nat × AV) → List AV → Mm → Prop} (h : EK shC yX4_sumOf cX4_sumOf 5 (some .int) 1 NN NN (QI RRC P) K) (b : Nat) (hb : At shC NN b (.inl 3)) (x1 : Int) (x2 : Int) (M : Mm)
    (H : K NN RRC 5 [(0, vr b), (1, vi x1), (2, vi x2), (3, vi 0), (4, vi 0)] [] M) :
    K NN RRC 0 [(0, vr b), (1, vi x1), (2, vi x2)] [] M := by
  refine r_iconst h (v := 0) (by decide +kernel : decode cX4_sumOf 0 = .ok (.iconst 0, 1)) ?_
  refine r_istoren h (q := 3) (L' := [(3, vi 0), (0, vr b), (1, vi x1), (2, vi x2)]) (by decide) rfl (by decide +kernel : decode cX4_sumOf 1 = .ok (.istore_n 3, 1)) ?_
  refine r_iconst h (v := 0) (by decide +kernel : decode cX4_sumOf 2 = .ok (.iconst 0, 1)) ?_
  refine r_istore h (L' := [(4, vi 0), (3, vi 0), (0, vr b), (1, vi x1), (2, vi x2)]) (by decide) rfl (by decide +kernel : decode cX4_sumOf 3 = .ok (.istore 4, 2)) ?_
  refine r_drop h [2, 3, 4, 1, 0] rfl ?_
  exact H
set_option maxHeartbeats 4000000 in
set_option maxRecDepth 100000 in
theorem w_Secrets_sumOf_5 {P : Int → Mm → Prop} {K : Nat → Rr → Nat → List (Nat × AV) → List AV → Mm → Prop} (h : EK shC yX4_sumOf cX4_sumOf 5 (some .int) 1 NN NN (QI RRC P) K) (b : Nat) (hb : At shC NN b (.inl 3)) (x1 : Int) (x2 : Int) (x3 : Int) (x4 : Int) (M : Mm)
    (H : (rng x4) ∧ (rng x2) ∧ (x2 ≤ x4 → (P x3 M)) ∧ (¬ (x2 ≤ x4) → (((andI (shrI x1 x4) 1) = 0 → (K NN RRC 5 [(0, vr b), (1, vi x1), (2, vi x2), (3, vi (x3 + 0)), (4, vi (x4 + 1))] [] M)) ∧ ((andI (shrI x1 x4) 1) ≠ 0 → ((0 ≤ x4 ∧ x4 < 7) ∧ K NN RRC 5 [(0, vr b), (1, vi x1), (2, vi x2), (3, vi (x3 + (M (b + 1) x4.toNat))), (4, vi (x4 + 1))] [] M))))) :
    K NN RRC 5 [(0, vr b), (1, vi x1), (2, vi x2), (3, vi x3), (4, vi x4)] [] M := by
  refine r_iload h 4 rfl (by decide +kernel : decode cX4_sumOf 5 = .ok (.iload 4, 2)) ?_
  refine r_iloadn h (q := 2) 2 rfl (by decide +kernel : decode cX4_sumOf 7 = .ok (.iload_n 2, 1)) ?_
  obtain ⟨g1, g2, H⟩ := H
  obtain ⟨H1, H2⟩ := H
  refine r_icmp_ge h 40 g1 g2 (by decide) (by decide +kernel : decode cX4_sumOf 8 = .ok (.if_icmp .ge 32, 3)) (fun hc => ?_) (fun hc => ?_)
  · have H := H1 hc
    refine r_iloadn h (q := 3) 3 rfl (by decide +kernel : decode cX4_sumOf 40 = .ok (.iload_n 3, 1)) ?_
    exact r_iret h rfl (by decide +kernel : decode cX4_sumOf 41 = .ok (.ireturn, 1)) rfl ⟨rfl, _, rfl, H⟩
  · have H := H2 hc
    refine r_iloadn h (q := 3) 3 rfl (by decide +kernel : decode cX4_sumOf 11 = .ok (.iload_n 3, 1)) ?_
    refine r_iloadn h (q := 1) 1 rfl (by decide +kernel : decode cX4_sumOf 12 = .ok (.iload_n 1, 1)) ?_
    refine r_iload h 4 rfl (by decide +kernel : decode cX4_sumOf 13 = .ok (.iload 4, 2)) ?_
    refine r_ishr h (by decide +kernel : decode cX4_sumOf 15 = .ok (.ishr, 1)) ?_
    refine r_iconst h (v := 1) (by decide +kernel : decode cX4_sumOf 16 = .ok (.iconst 1, 1)) ?_
    refine r_iand h (by decide +kernel : decode cX4_sumOf 17 = .ok (.iand, 1)) ?_
    obtain ⟨H1, H2⟩ := H
    refine r_if_eq h 31 (rng_toInt _) (by decide) (by decide +kernel : decode cX4_sumOf 18 = .ok (.ifCond .eq 13, 3)) (fun hc => ?_) (fun hc => ?_)
    · have H := H1 hc
      refine r_iconst h (v := 0) (by decide +kernel : decode cX4_sumOf 31 = .ok (.iconst 0, 1)) ?_
      refine r_iadd h (by decide +kernel : decode cX4_sumOf 32 = .ok (.iadd, 1)) ?_
      refine r_istoren h (q := 3) (L' := [(3, vi (x3 + 0)), (0, vr b), (1, vi x1), (2, vi x2), (4, vi x4)]) (by decide) rfl (by decide +kernel : decode cX4_sumOf 33 = .ok (.istore_n 3, 1)) ?_
      refine r_iinc h (i := 4) (v := 1) (L' := [(4, vi (x4 + 1)), (3, vi (x3 + 0)), (0, vr b), (1, vi x1), (2, vi x2)]) 4 rfl (by decide) rfl (by decide +kernel : decode cX4_sumOf 34 = .ok (.iinc 4 1, 3)) ?_
      refine r_goto h 5 (by decide) (by decide +kernel : decode cX4_sumOf 37 = .ok (.goto (-32), 3)) ?_
      refine r_drop h [2, 3, 4, 1, 0] rfl ?_
      exact H
    · have H := H2 hc
      refine r_aloadn h (q := 0) 0 rfl (by decide +kernel : decode cX4_sumOf 21 = .ok (.aload_n 0, 1)) ?_
      refine r_getR h (r := (b + 1)) f_Secrets_9 hb (rr_3_3 hb) (by omega) (by decide +kernel : decode cX4_sumOf 22 = .ok (.getfield 9, 3)) ?_
      refine r_iload h 4 rfl (by decide +kernel : decode cX4_sumOf 25 = .ok (.iload 4, 2)) ?_
      obtain ⟨g1, H⟩ := H
      refine r_iald h x4.toNat rfl (at_3_3 hb) g1 (by decide) (by decide +kernel : decode cX4_sumOf 27 = .ok (.iaload, 1)) ?_
      refine r_goto h 32 (by decide) (by decide +kernel : decode cX4_sumOf 28 = .ok (.goto 4, 3)) ?_
      refine r_iadd h (by decide +kernel : decode cX4_sumOf 32 = .ok (.iadd, 1)) ?_
      refine r_istoren h (q := 3) (L' := [(3, vi (x3 + (M (b + 1) x4.toNat))), (0, vr b), (1, vi x1), (2, vi x2), (4, vi x4)]) (by decide) rfl (by decide +kernel : decode cX4_sumOf 33 = .ok (.istore_n 3, 1)) ?_
      refine r_iinc h (i := 4) (v := 1) (L' := [(4, vi (x4 + 1)), (3, vi (x3 + (M (b + 1) x4.toNat))), (0, vr b), (1, vi x1), (2, vi x2)]) 4 rfl (by decide) rfl (by decide +kernel : decode cX4_sumOf 34 = .ok (.iinc 4 1, 3)) ?_
      refine r_goto h 5 (by decide) (by decide +kernel : decode cX4_sumOf 37 = .ok (.goto (-32), 3)) ?_
      refine r_drop h [2, 3, 4, 1, 0] rfl ?_
      exact H
set_option maxHeartbeats 4000000 in
set_option maxRecDepth 100000 in
theorem w_Secrets_keep_0 {P : Mm → Prop} {K : Nat → Rr → Nat → List (Nat × AV) → List AV → Mm → Prop} (h : EK shC yX4_keep cX4_keep 4 none 1 NN NN (QV RRC P) K) (b : Nat) (hb : At shC NN b (.inl 3)) (x1 : Int) (x2 : Int) (M : Mm)
    (H : ∀ M1 : Mm, M1 = (upr M b (up1 (M b) 0 ((M b 0) + 1))) → ∀ M2 : Mm, M2 = (upr M1 b (up1 (M1 b) 1 (andI (M1 b 1) x1))) → ∀ M3 : Mm, M3 = (upr M2 b (up1 (M2 b) 2 (orI (M2 b 2) x1))) → K NN RRC 32 [(0, vr b), (1, vi x1), (2, vi x2), (3, vi 0)] [] M3) :
    K NN RRC 0 [(0, vr b), (1, vi x1), (2, vi x2)] [] M := by
  refine r_aloadn h (q := 0) 0 rfl (by decide +kernel : decode cX4_keep 0 = .ok (.aload_n 0, 1)) ?_
  refine r_dup h rfl (by decide +kernel : decode cX4_keep 1 = .ok (.dup, 1)) ?_
  refine r_getI h f_Secrets_30 hb (by decide +kernel : decode cX4_keep 2 = .ok (.getfield 30, 3)) ?_
  refine r_iconst h (v := 1) (by decide +kernel : decode cX4_keep 5 = .ok (.iconst 1, 1)) ?_
  refine r_iadd h (by decide +kernel : decode cX4_keep 6 = .ok (.iadd, 1)) ?_
  refine r_putI h f_Secrets_30 hb rfl rfl (by decide +kernel : decode cX4_keep 7 = .ok (.putfield 30, 3)) ?_
  have H := H _ rfl
  revert H
  generalize (upr M b (up1 (M b) 0 ((M b 0) + 1))) = M1
  intro H
  refine r_aloadn h (q := 0) 0 rfl (by decide +kernel : decode cX4_keep 10 = .ok (.aload_n 0, 1)) ?_
  refine r_dup h rfl (by decide +kernel : decode cX4_keep 11 = .ok (.dup, 1)) ?_
  refine r_getI h f_Secrets_33 hb (by decide +kernel : decode cX4_keep 12 = .ok (.getfield 33, 3)) ?_
  refine r_iloadn h (q := 1) 1 rfl (by decide +kernel : decode cX4_keep 15 = .ok (.iload_n 1, 1)) ?_
  refine r_iand h (by decide +kernel : decode cX4_keep 16 = .ok (.iand, 1)) ?_
  refine r_putI h f_Secrets_33 hb rfl rfl (by decide +kernel : decode cX4_keep 17 = .ok (.putfield 33, 3)) ?_
  have H := H _ rfl
  revert H
  generalize (upr M1 b (up1 (M1 b) 1 (andI (M1 b 1) x1))) = M2
  intro H
  refine r_aloadn h (q := 0) 0 rfl (by decide +kernel : decode cX4_keep 20 = .ok (.aload_n 0, 1)) ?_
  refine r_dup h rfl (by decide +kernel : decode cX4_keep 21 = .ok (.dup, 1)) ?_
  refine r_getI h f_Secrets_36 hb (by decide +kernel : decode cX4_keep 22 = .ok (.getfield 36, 3)) ?_
  refine r_iloadn h (q := 1) 1 rfl (by decide +kernel : decode cX4_keep 25 = .ok (.iload_n 1, 1)) ?_
  refine r_ior h (by decide +kernel : decode cX4_keep 26 = .ok (.ior, 1)) ?_
  refine r_putI h f_Secrets_36 hb rfl rfl (by decide +kernel : decode cX4_keep 27 = .ok (.putfield 36, 3)) ?_
  have H := H _ rfl
  revert H
  generalize (upr M2 b (up1 (M2 b) 2 (orI (M2 b 2) x1))) = M3
  intro H
  refine r_iconst h (v := 0) (by decide +kernel : decode cX4_keep 30 = .ok (.iconst 0, 1)) ?_
  refine r_istoren h (q := 3) (L' := [(3, vi 0), (0, vr b), (1, vi x1), (2, vi x2)]) (by decide) rfl (by decide +kernel : decode cX4_keep 31 = .ok (.istore_n 3, 1)) ?_
  refine r_drop h [1, 2, 3, 0] rfl ?_
  exact H
set_option maxHeartbeats 4000000 in
set_option maxRecDepth 100000 in
theorem w_Secrets_keep_32 {P : Mm → Prop} {K : Nat → Rr → Nat → List (Nat × AV) → List AV → Mm → Prop} (h : EK shC yX4_keep cX4_keep 4 none 1 NN NN (QV RRC P) K) (b : Nat) (hb : At shC NN b (.inl 3)) (x1 : Int) (x2 : Int) (x3 : Int) (M : Mm)
    (H : (rng x3) ∧ (rng x2) ∧ (x2 ≤ x3 → (P M)) ∧ (¬ (x2 ≤ x3) → ((0 ≤ x3 ∧ x3 < 7) ∧ (0 ≤ x3 ∧ x3 < 7) ∧ ∀ M1 : Mm, M1 = (upr M (b + 2) (up1 (M (b + 2)) x3.toNat ((M (b + 2) x3.toNat) + (andI (shrI x1 x3) 1)))) → K NN RRC 32 [(0, vr b), (1, vi x1), (2, vi x2), (3, vi (x3 + 1))] [] M1))) :
    K NN RRC 32 [(0, vr b), (1, vi x1), (2, vi x2), (3, vi x3)] [] M := by
  refine r_iloadn h (q := 3) 3 rfl (by decide +kernel : decode cX4_keep 32 = .ok (.iload_n 3, 1)) ?_
  refine r_iloadn h (q := 2) 2 rfl (by decide +kernel : decode cX4_keep 33 = .ok (.iload_n 2, 1)) ?_
  obtain ⟨g1, g2, H⟩ := H
  obtain ⟨H1, H2⟩ := H
  refine r_icmp_ge h 57 g1 g2 (by decide) (by decide +kernel : decode cX4_keep 34 = .ok (.if_icmp .ge 23, 3)) (fun hc => ?_) (fun hc => ?_)
  · have H := H1 hc
    exact r_vret h rfl (by decide +kernel : decode cX4_keep 57 = .ok (.return_, 1)) rfl ⟨rfl, rfl, H⟩
  · have H := H2 hc
    refine r_aloadn h (q := 0) 0 rfl (by decide +kernel : decode cX4_keep 37 = .ok (.aload_n 0, 1)) ?_
    refine r_getR h (r := (b + 2)) f_Secrets_15 hb (rr_3_4 hb) (by omega) (by decide +kernel : decode cX4_keep 38 = .ok (.getfield 15, 3)) ?_
    refine r_iloadn h (q := 3) 3 rfl (by decide +kernel : decode cX4_keep 41 = .ok (.iload_n 3, 1)) ?_
    refine r_dup2 h rfl rfl (by decide +kernel : decode cX4_keep 42 = .ok (.dup2, 1)) ?_
    obtain ⟨g1, H⟩ := H
    refine r_iald h x3.toNat rfl (at_3_4 hb) g1 (by decide) (by decide +kernel : decode cX4_keep 43 = .ok (.iaload, 1)) ?_
    refine r_iloadn h (q := 1) 1 rfl (by decide +kernel : decode cX4_keep 44 = .ok (.iload_n 1, 1)) ?_
    refine r_iloadn h (q := 3) 3 rfl (by decide +kernel : decode cX4_keep 45 = .ok (.iload_n 3, 1)) ?_
    refine r_ishr h (by decide +kernel : decode cX4_keep 46 = .ok (.ishr, 1)) ?_
    refine r_iconst h (v := 1) (by decide +kernel : decode cX4_keep 47 = .ok (.iconst 1, 1)) ?_
    refine r_iand h (by decide +kernel : decode cX4_keep 48 = .ok (.iand, 1)) ?_
    refine r_iadd h (by decide +kernel : decode cX4_keep 49 = .ok (.iadd, 1)) ?_
    obtain ⟨g1, H⟩ := H
    refine r_iast h x3.toNat rfl (at_3_4 hb) g1 (by decide) (by decide +kernel : decode cX4_keep 50 = .ok (.iastore, 1)) ?_
    have H := H _ rfl
    revert H
    generalize (upr M (b + 2) (up1 (M (b + 2)) x3.toNat ((M (b + 2) x3.toNat) + (andI (shrI x1 x3) 1)))) = M1
    intro H
    refine r_iinc h (i := 3) (v := 1) (L' := [(3, vi (x3 + 1)), (0, vr b), (1, vi x1), (2, vi x2)]) 3 rfl (by decide) rfl (by decide +kernel : decode cX4_keep 51 = .ok (.iinc 3 1, 3)) ?_
    refine r_goto h 32 (by decide) (by decide +kernel : decode cX4_keep 54 = .ok (.goto (-22), 3)) ?_
    refine r_drop h [1, 2, 3, 0] rfl ?_
    exact H
set_option maxHeartbeats 4000000 in
set_option maxRecDepth 100000 in
theorem w_Standing_addSeen_0 {P : Int → Mm → Prop} {K : Nat → Rr → Nat → List (Nat × AV) → List AV → Mm → Prop} (h : EK shC yX5_addSeen cX5_addSeen 3 (some .boolean) 1 NN NN (QI RRC P) K) (b : Nat) (hb : At shC NN b (.inl 4)) (x1 : Int) (x2 : Int) (M : Mm)
    (H : (rng (M b 4)) ∧ ((M b 4) < 8 → ((0 ≤ (M b 4) ∧ (M b 4) < 8) ∧ ∀ M1 : Mm, M1 = (upr M (b + 10) (up1 (M (b + 10)) (M b 4).toNat x1)) → (0 ≤ (M1 b 4) ∧ (M1 b 4) < 8) ∧ ∀ M2 : Mm, M2 = (upr M1 (b + 11) (up1 (M1 (b + 11)) (M1 b 4).toNat x2)) → ∀ M3 : Mm, M3 = (upr M2 b (up1 (M2 b) 4 ((M2 b 4) + 1))) → P 1 M3)) ∧ (¬ ((M b 4) < 8) → (P 0 M))) :
    K NN RRC 0 [(0, vr b), (1, vi x1), (2, vi x2)] [] M := by
  refine r_aloadn h (q := 0) 0 rfl (by decide +kernel : decode cX5_addSeen 0 = .ok (.aload_n 0, 1)) ?_
  refine r_getI h f_Standing_43 hb (by decide +kernel : decode cX5_addSeen 1 = .ok (.getfield 43, 3)) ?_
  refine r_bipush h (v := 8) (by decide) (by decide +kernel : decode cX5_addSeen 4 = .ok (.bipush 8, 2)) ?_
  obtain ⟨g1, H⟩ := H
  obtain ⟨H1, H2⟩ := H
  refine r_icmp_lt h 11 g1 (by decide) (by decide) (by decide +kernel : decode cX5_addSeen 6 = .ok (.if_icmp .lt 5, 3)) (fun hc => ?_) (fun hc => ?_)
  · have H := H1 hc
    refine r_aloadn h (q := 0) 0 rfl (by decide +kernel : decode cX5_addSeen 11 = .ok (.aload_n 0, 1)) ?_
    refine r_getR h (r := (b + 10)) f_Standing_25 hb (rr_4_2 hb) (by omega) (by decide +kernel : decode cX5_addSeen 12 = .ok (.getfield 25, 3)) ?_
    refine r_aloadn h (q := 0) 0 rfl (by decide +kernel : decode cX5_addSeen 15 = .ok (.aload_n 0, 1)) ?_
    refine r_getI h f_Standing_43 hb (by decide +kernel : decode cX5_addSeen 16 = .ok (.getfield 43, 3)) ?_
    refine r_iloadn h (q := 1) 1 rfl (by decide +kernel : decode cX5_addSeen 19 = .ok (.iload_n 1, 1)) ?_
    obtain ⟨g1, H⟩ := H
    refine r_iast h (M b 4).toNat rfl (at_4_2 hb) g1 (by decide) (by decide +kernel : decode cX5_addSeen 20 = .ok (.iastore, 1)) ?_
    have H := H _ rfl
    revert H
    generalize (upr M (b + 10) (up1 (M (b + 10)) (M b 4).toNat x1)) = M1
    intro H
    refine r_aloadn h (q := 0) 0 rfl (by decide +kernel : decode cX5_addSeen 21 = .ok (.aload_n 0, 1)) ?_
    refine r_getR h (r := (b + 11)) f_Standing_29 hb (rr_4_3 hb) (by omega) (by decide +kernel : decode cX5_addSeen 22 = .ok (.getfield 29, 3)) ?_
    refine r_aloadn h (q := 0) 0 rfl (by decide +kernel : decode cX5_addSeen 25 = .ok (.aload_n 0, 1)) ?_
    refine r_getI h f_Standing_43 hb (by decide +kernel : decode cX5_addSeen 26 = .ok (.getfield 43, 3)) ?_
    refine r_iloadn h (q := 2) 2 rfl (by decide +kernel : decode cX5_addSeen 29 = .ok (.iload_n 2, 1)) ?_
    obtain ⟨g1, H⟩ := H
    refine r_iast h (M1 b 4).toNat rfl (at_4_3 hb) g1 (by decide) (by decide +kernel : decode cX5_addSeen 30 = .ok (.iastore, 1)) ?_
    have H := H _ rfl
    revert H
    generalize (upr M1 (b + 11) (up1 (M1 (b + 11)) (M1 b 4).toNat x2)) = M2
    intro H
    refine r_aloadn h (q := 0) 0 rfl (by decide +kernel : decode cX5_addSeen 31 = .ok (.aload_n 0, 1)) ?_
    refine r_dup h rfl (by decide +kernel : decode cX5_addSeen 32 = .ok (.dup, 1)) ?_
    refine r_getI h f_Standing_43 hb (by decide +kernel : decode cX5_addSeen 33 = .ok (.getfield 43, 3)) ?_
    refine r_iconst h (v := 1) (by decide +kernel : decode cX5_addSeen 36 = .ok (.iconst 1, 1)) ?_
    refine r_iadd h (by decide +kernel : decode cX5_addSeen 37 = .ok (.iadd, 1)) ?_
    refine r_putI h f_Standing_43 hb rfl rfl (by decide +kernel : decode cX5_addSeen 38 = .ok (.putfield 43, 3)) ?_
    have H := H _ rfl
    revert H
    generalize (upr M2 b (up1 (M2 b) 4 ((M2 b 4) + 1))) = M3
    intro H
    refine r_iconst h (v := 1) (by decide +kernel : decode cX5_addSeen 41 = .ok (.iconst 1, 1)) ?_
    exact r_zret h rfl (by decide) (by decide +kernel : decode cX5_addSeen 42 = .ok (.ireturn, 1)) rfl ⟨rfl, _, rfl, H⟩
  · have H := H2 hc
    refine r_iconst h (v := 0) (by decide +kernel : decode cX5_addSeen 9 = .ok (.iconst 0, 1)) ?_
    exact r_zret h rfl (by decide) (by decide +kernel : decode cX5_addSeen 10 = .ok (.ireturn, 1)) rfl ⟨rfl, _, rfl, H⟩
theorem W_Standing_addSeen (b : Nat) (hb : At shC NN b (.inl 4)) (x1 : Int) (x2 : Int) (M : Mm) {P : Int → Mm → Prop} (H : (rng (M b 4)) ∧ ((M b 4) < 8 → ((0 ≤ (M b 4) ∧ (M b 4) < 8) ∧ ∀ M1 : Mm, M1 = (upr M (b + 10) (up1 (M (b + 10)) (M b 4).toNat x1)) → (0 ≤ (M1 b 4) ∧ (M1 b 4) < 8) ∧ ∀ M2 : Mm, M2 = (upr M1 (b + 11) (up1 (M1 (b + 11)) (M1 b 4).toNat x2)) → ∀ M3 : Mm, M3 = (upr M2 b (up1 (M2 b) 4 ((M2 b 4) + 1))) → P 1 M3)) ∧ (¬ ((M b 4) < 8) → (P 0 M))) : S_Standing_addSeen b x1 x2 M P := e_Standing_addSeen b x1 x2 M (fun _ h => w_Standing_addSeen_0 h b hb x1 x2 M H)
set_option maxHeartbeats 4000000 in
set_option maxRecDepth 100000 in
theorem w_State_beginAs_0 {P : Mm → Prop} {K : Nat → Rr → Nat → List (Nat × AV) → List AV → Mm → Prop} (h : EK shC yX6_beginAs cX6_beginAs 3 none 1 NN NN (QV RRC P) K) (b : Nat) (hb : At shC NN b (.inl 5)) (b1 : Nat) (hb1 : At shC NN b1 (.inl 7)) (M : Mm)
    (H : K NN RRC 2 [(0, vr b), (1, vr b1), (2, vi 0)] [] M) :
    K NN RRC 0 [(0, vr b), (1, vr b1)] [] M := by
  refine r_iconst h (v := 0) (by decide +kernel : decode cX6_beginAs 0 = .ok (.iconst 0, 1)) ?_
  refine r_istoren h (q := 2) (L' := [(2, vi 0), (0, vr b), (1, vr b1)]) (by decide) rfl (by decide +kernel : decode cX6_beginAs 1 = .ok (.istore_n 2, 1)) ?_
  refine r_drop h [1, 2, 0] rfl ?_
  exact H
set_option maxHeartbeats 4000000 in
set_option maxRecDepth 100000 in
theorem w_State_beginAs_2 {P : Mm → Prop} {K : Nat → Rr → Nat → List (Nat × AV) → List AV → Mm → Prop} (h : EK shC yX6_beginAs cX6_beginAs 3 none 1 NN NN (QV RRC P) K) (b : Nat) (hb : At shC NN b (.inl 5)) (b1 : Nat) (hb1 : At shC NN b1 (.inl 7)) (x2 : Int) (M : Mm)
    (H : (rng x2) ∧ (7 ≤ x2 → (∀ M1 : Mm, M1 = (upr M b (up1 (M b) 4 0)) → ∀ M2 : Mm, M2 = (upr M1 b (up1 (M1 b) 5 (M1 b1 10))) → ∀ M3 : Mm, M3 = (upr M2 b (up1 (M2 b) 6 0)) → ∀ M4 : Mm, M4 = (upr M3 b (up1 (M3 b) 7 0)) → ∀ M5 : Mm, M5 = (upr M4 b (up1 (M4 b) 8 0)) → P M5)) ∧ (¬ (7 ≤ x2) → ((0 ≤ x2 ∧ x2 < 7) ∧ (0 ≤ x2 ∧ x2 < 7) ∧ ∀ M6 : Mm, M6 = (upr M (b + 1) (up1 (M (b + 1)) x2.toNat (M (b1 + 3) x2.toNat))) → (0 ≤ x2 ∧ x2 < 7) ∧ (0 ≤ x2 ∧ x2 < 7) ∧ ∀ M7 : Mm, M7 = (upr M6 (b + 2) (up1 (M6 (b + 2)) x2.toNat (M6 (b1 + 4) x2.toNat))) → (0 ≤ x2 ∧ x2 < 7) ∧ ∀ M8 : Mm, M8 = (upr M7 (b + 3) (up1 (M7 (b + 3)) x2.toNat 0)) → (0 ≤ x2 ∧ x2 < 7) ∧ ∀ M9 : Mm, M9 = (upr M8 (b + 4) (up1 (M8 (b + 4)) x2.toNat x2)) → K NN RRC 2 [(0, vr b), (1, vr b1), (2, vi (x2 + 1))] [] M9))) :
    K NN RRC 2 [(0, vr b), (1, vr b1), (2, vi x2)] [] M := by
  refine r_iloadn h (q := 2) 2 rfl (by decide +kernel : decode cX6_beginAs 2 = .ok (.iload_n 2, 1)) ?_
  refine r_bipush h (v := 7) (by decide) (by decide +kernel : decode cX6_beginAs 3 = .ok (.bipush 7, 2)) ?_
  obtain ⟨g1, H⟩ := H
  obtain ⟨H1, H2⟩ := H
  refine r_icmp_ge h 52 g1 (by decide) (by decide) (by decide +kernel : decode cX6_beginAs 5 = .ok (.if_icmp .ge 47, 3)) (fun hc => ?_) (fun hc => ?_)
  · have H := H1 hc
    refine r_aloadn h (q := 0) 0 rfl (by decide +kernel : decode cX6_beginAs 52 = .ok (.aload_n 0, 1)) ?_
    refine r_iconst h (v := 0) (by decide +kernel : decode cX6_beginAs 53 = .ok (.iconst 0, 1)) ?_
    refine r_putI h f_State_28 hb rfl rfl (by decide +kernel : decode cX6_beginAs 54 = .ok (.putfield 28, 3)) ?_
    have H := H _ rfl
    revert H
    generalize (upr M b (up1 (M b) 4 0)) = M1
    intro H
    refine r_aloadn h (q := 0) 0 rfl (by decide +kernel : decode cX6_beginAs 57 = .ok (.aload_n 0, 1)) ?_
    refine r_aloadn h (q := 1) 1 rfl (by decide +kernel : decode cX6_beginAs 58 = .ok (.aload_n 1, 1)) ?_
    refine r_getI h f_State_32 hb1 (by decide +kernel : decode cX6_beginAs 59 = .ok (.getfield 32, 3)) ?_
    refine r_putI h f_State_35 hb rfl rfl (by decide +kernel : decode cX6_beginAs 62 = .ok (.putfield 35, 3)) ?_
    have H := H _ rfl
    revert H
    generalize (upr M1 b (up1 (M1 b) 5 (M1 b1 10))) = M2
    intro H
    refine r_aloadn h (q := 0) 0 rfl (by decide +kernel : decode cX6_beginAs 65 = .ok (.aload_n 0, 1)) ?_
    refine r_iconst h (v := 0) (by decide +kernel : decode cX6_beginAs 66 = .ok (.iconst 0, 1)) ?_
    refine r_putI h f_State_36 hb rfl rfl (by decide +kernel : decode cX6_beginAs 67 = .ok (.putfield 36, 3)) ?_
    have H := H _ rfl
    revert H
    generalize (upr M2 b (up1 (M2 b) 6 0)) = M3
    intro H
    refine r_aloadn h (q := 0) 0 rfl (by decide +kernel : decode cX6_beginAs 70 = .ok (.aload_n 0, 1)) ?_
    refine r_iconst h (v := 0) (by decide +kernel : decode cX6_beginAs 71 = .ok (.iconst 0, 1)) ?_
    refine r_putI h f_State_39 hb rfl rfl (by decide +kernel : decode cX6_beginAs 72 = .ok (.putfield 39, 3)) ?_
    have H := H _ rfl
    revert H
    generalize (upr M3 b (up1 (M3 b) 7 0)) = M4
    intro H
    refine r_aloadn h (q := 0) 0 rfl (by decide +kernel : decode cX6_beginAs 75 = .ok (.aload_n 0, 1)) ?_
    refine r_iconst h (v := 0) (by decide +kernel : decode cX6_beginAs 76 = .ok (.iconst 0, 1)) ?_
    refine r_putI h f_State_42 hb rfl rfl (by decide +kernel : decode cX6_beginAs 77 = .ok (.putfield 42, 3)) ?_
    have H := H _ rfl
    revert H
    generalize (upr M4 b (up1 (M4 b) 8 0)) = M5
    intro H
    exact r_vret h rfl (by decide +kernel : decode cX6_beginAs 80 = .ok (.return_, 1)) rfl ⟨rfl, rfl, H⟩
  · have H := H2 hc
    refine r_aloadn h (q := 0) 0 rfl (by decide +kernel : decode cX6_beginAs 8 = .ok (.aload_n 0, 1)) ?_
    refine r_getR h (r := (b + 1)) f_State_9 hb (rr_5_0 hb) (by omega) (by decide +kernel : decode cX6_beginAs 9 = .ok (.getfield 9, 3)) ?_
    refine r_iloadn h (q := 2) 2 rfl (by decide +kernel : decode cX6_beginAs 12 = .ok (.iload_n 2, 1)) ?_
    refine r_aloadn h (q := 1) 1 rfl (by decide +kernel : decode cX6_beginAs 13 = .ok (.aload_n 1, 1)) ?_
    refine r_getR h (r := (b1 + 3)) f_State_24 hb1 (rr_7_2 hb1) (by omega) (by decide +kernel : decode cX6_beginAs 14 = .ok (.getfield 24, 3)) ?_
    refine r_iloadn h (q := 2) 2 rfl (by decide +kernel : decode cX6_beginAs 17 = .ok (.iload_n 2, 1)) ?_
    obtain ⟨g1, H⟩ := H
    refine r_iald h x2.toNat rfl (at_7_2 hb1) g1 (by decide) (by decide +kernel : decode cX6_beginAs 18 = .ok (.iaload, 1)) ?_
    obtain ⟨g1, H⟩ := H
    refine r_iast h x2.toNat rfl (at_5_0 hb) g1 (by decide) (by decide +kernel : decode cX6_beginAs 19 = .ok (.iastore, 1)) ?_
    have H := H _ rfl
    revert H
    generalize (upr M (b + 1) (up1 (M (b + 1)) x2.toNat (M (b1 + 3) x2.toNat))) = M6
    intro H
    refine r_aloadn h (q := 0) 0 rfl (by decide +kernel : decode cX6_beginAs 20 = .ok (.aload_n 0, 1)) ?_
    refine r_getR h (r := (b + 2)) f_State_15 hb (rr_5_1 hb) (by omega) (by decide +kernel : decode cX6_beginAs 21 = .ok (.getfield 15, 3)) ?_
    refine r_iloadn h (q := 2) 2 rfl (by decide +kernel : decode cX6_beginAs 24 = .ok (.iload_n 2, 1)) ?_
    refine r_aloadn h (q := 1) 1 rfl (by decide +kernel : decode cX6_beginAs 25 = .ok (.aload_n 1, 1)) ?_
    refine r_getR h (r := (b1 + 4)) f_State_27 hb1 (rr_7_3 hb1) (by omega) (by decide +kernel : decode cX6_beginAs 26 = .ok (.getfield 27, 3)) ?_
    refine r_iloadn h (q := 2) 2 rfl (by decide +kernel : decode cX6_beginAs 29 = .ok (.iload_n 2, 1)) ?_
    obtain ⟨g1, H⟩ := H
    refine r_iald h x2.toNat rfl (at_7_3 hb1) g1 (by decide) (by decide +kernel : decode cX6_beginAs 30 = .ok (.iaload, 1)) ?_
    obtain ⟨g1, H⟩ := H
    refine r_iast h x2.toNat rfl (at_5_1 hb) g1 (by decide) (by decide +kernel : decode cX6_beginAs 31 = .ok (.iastore, 1)) ?_
    have H := H _ rfl
    revert H
    generalize (upr M6 (b + 2) (up1 (M6 (b + 2)) x2.toNat (M6 (b1 + 4) x2.toNat))) = M7
    intro H
    refine r_aloadn h (q := 0) 0 rfl (by decide +kernel : decode cX6_beginAs 32 = .ok (.aload_n 0, 1)) ?_
    refine r_getR h (r := (b + 3)) f_State_18 hb (rr_5_2 hb) (by omega) (by decide +kernel : decode cX6_beginAs 33 = .ok (.getfield 18, 3)) ?_
    refine r_iloadn h (q := 2) 2 rfl (by decide +kernel : decode cX6_beginAs 36 = .ok (.iload_n 2, 1)) ?_
    refine r_iconst h (v := 0) (by decide +kernel : decode cX6_beginAs 37 = .ok (.iconst 0, 1)) ?_
    obtain ⟨g1, H⟩ := H
    refine r_iast h x2.toNat rfl (at_5_2 hb) g1 (by decide) (by decide +kernel : decode cX6_beginAs 38 = .ok (.iastore, 1)) ?_
    have H := H _ rfl
    revert H
    generalize (upr M7 (b + 3) (up1 (M7 (b + 3)) x2.toNat 0)) = M8
    intro H
    refine r_aloadn h (q := 0) 0 rfl (by decide +kernel : decode cX6_beginAs 39 = .ok (.aload_n 0, 1)) ?_
    refine r_getR h (r := (b + 4)) f_State_21 hb (rr_5_3 hb) (by omega) (by decide +kernel : decode cX6_beginAs 40 = .ok (.getfield 21, 3)) ?_
    refine r_iloadn h (q := 2) 2 rfl (by decide +kernel : decode cX6_beginAs 43 = .ok (.iload_n 2, 1)) ?_
    refine r_iloadn h (q := 2) 2 rfl (by decide +kernel : decode cX6_beginAs 44 = .ok (.iload_n 2, 1)) ?_
    obtain ⟨g1, H⟩ := H
    refine r_iast h x2.toNat rfl (at_5_3 hb) g1 (by decide) (by decide +kernel : decode cX6_beginAs 45 = .ok (.iastore, 1)) ?_
    have H := H _ rfl
    revert H
    generalize (upr M8 (b + 4) (up1 (M8 (b + 4)) x2.toNat x2)) = M9
    intro H
    refine r_iinc h (i := 2) (v := 1) (L' := [(2, vi (x2 + 1)), (0, vr b), (1, vr b1)]) 2 rfl (by decide) rfl (by decide +kernel : decode cX6_beginAs 46 = .ok (.iinc 2 1, 3)) ?_
    refine r_goto h 2 (by decide) (by decide +kernel : decode cX6_beginAs 49 = .ok (.goto (-47), 3)) ?_
    refine r_drop h [1, 2, 0] rfl ?_
    exact H
set_option maxHeartbeats 4000000 in
set_option maxRecDepth 100000 in
theorem w_State_copyFrom_0 {P : Mm → Prop} {K : Nat → Rr → Nat → List (Nat × AV) → List AV → Mm → Prop} (h : EK shC yX6_copyFrom cX6_copyFrom 2 none 1 NN NN (QV RRC P) K) (b : Nat) (hb : At shC NN b (.inl 5)) (b1 : Nat) (hb1 : At shC NN b1 (.inl 5)) (M : Mm)
    (H : ∀ M1 : Mm, M1 = (upr M (b + 1) (cpI (M (b1 + 1)) (M (b + 1)) 0 0 7)) → ∀ M2 : Mm, M2 = (upr M1 (b + 2) (cpI (M1 (b1 + 2)) (M1 (b + 2)) 0 0 7)) → ∀ M3 : Mm, M3 = (upr M2 (b + 3) (cpI (M2 (b1 + 3)) (M2 (b + 3)) 0 0 7)) → ∀ M4 : Mm, M4 = (upr M3 (b + 4) (cpI (M3 (b1 + 4)) (M3 (b + 4)) 0 0 7)) → ∀ M5 : Mm, M5 = (upr M4 b (up1 (M4 b) 4 (M4 b1 4))) → ∀ M6 : Mm, M6 = (upr M5 b (up1 (M5 b) 5 (M5 b1 5))) → ∀ M7 : Mm, M7 = (upr M6 b (up1 (M6 b) 6 (M6 b1 6))) → ∀ M8 : Mm, M8 = (upr M7 b (up1 (M7 b) 7 (M7 b1 7))) → ∀ M9 : Mm, M9 = (upr M8 b (up1 (M8 b) 8 (M8 b1 8))) → P M9) :
    K NN RRC 0 [(0, vr b), (1, vr b1)] [] M := by
  refine r_aloadn h (q := 1) 1 rfl (by decide +kernel : decode cX6_copyFrom 0 = .ok (.aload_n 1, 1)) ?_
  refine r_getR h (r := (b1 + 1)) f_State_9 hb1 (rr_5_0 hb1) (by omega) (by decide +kernel : decode cX6_copyFrom 1 = .ok (.getfield 9, 3)) ?_
  refine r_iconst h (v := 0) (by decide +kernel : decode cX6_copyFrom 4 = .ok (.iconst 0, 1)) ?_
  refine r_aloadn h (q := 0) 0 rfl (by decide +kernel : decode cX6_copyFrom 5 = .ok (.aload_n 0, 1)) ?_
  refine r_getR h (r := (b + 1)) f_State_9 hb (rr_5_0 hb) (by omega) (by decide +kernel : decode cX6_copyFrom 6 = .ok (.getfield 9, 3)) ?_
  refine r_iconst h (v := 0) (by decide +kernel : decode cX6_copyFrom 9 = .ok (.iconst 0, 1)) ?_
  refine r_bipush h (v := 7) (by decide) (by decide +kernel : decode cX6_copyFrom 10 = .ok (.bipush 7, 2)) ?_
  refine r_copyN h (b0 := (b1 + 1)) (b1 := (b + 1)) (w := 7) 7 (at_5_0 hb1) (at_5_0 hb) rfl (by decide) (by decide) (by decide) (by decide) (by decide) kM_copy_State (by decide) (Nat.le_of_ble_eq_true rfl) (by decide +kernel : decode cX6_copyFrom 12 = .ok (.invokestatic 45, 3)) ?_
  have H := H _ rfl
  revert H
  generalize (upr M (b + 1) (cpI (M (b1 + 1)) (M (b + 1)) 0 0 7)) = M1
  intro H
  refine r_aloadn h (q := 1) 1 rfl (by decide +kernel : decode cX6_copyFrom 15 = .ok (.aload_n 1, 1)) ?_
  refine r_getR h (r := (b1 + 2)) f_State_15 hb1 (rr_5_1 hb1) (by omega) (by decide +kernel : decode cX6_copyFrom 16 = .ok (.getfield 15, 3)) ?_
  refine r_iconst h (v := 0) (by decide +kernel : decode cX6_copyFrom 19 = .ok (.iconst 0, 1)) ?_
  refine r_aloadn h (q := 0) 0 rfl (by decide +kernel : decode cX6_copyFrom 20 = .ok (.aload_n 0, 1)) ?_
  refine r_getR h (r := (b + 2)) f_State_15 hb (rr_5_1 hb) (by omega) (by decide +kernel : decode cX6_copyFrom 21 = .ok (.getfield 15, 3)) ?_
  refine r_iconst h (v := 0) (by decide +kernel : decode cX6_copyFrom 24 = .ok (.iconst 0, 1)) ?_
  refine r_bipush h (v := 7) (by decide) (by decide +kernel : decode cX6_copyFrom 25 = .ok (.bipush 7, 2)) ?_
  refine r_copyN h (b0 := (b1 + 2)) (b1 := (b + 2)) (w := 7) 7 (at_5_1 hb1) (at_5_1 hb) rfl (by decide) (by decide) (by decide) (by decide) (by decide) kM_copy_State (by decide) (Nat.le_of_ble_eq_true rfl) (by decide +kernel : decode cX6_copyFrom 27 = .ok (.invokestatic 45, 3)) ?_
  have H := H _ rfl
  revert H
  generalize (upr M1 (b + 2) (cpI (M1 (b1 + 2)) (M1 (b + 2)) 0 0 7)) = M2
  intro H
  refine r_aloadn h (q := 1) 1 rfl (by decide +kernel : decode cX6_copyFrom 30 = .ok (.aload_n 1, 1)) ?_
  refine r_getR h (r := (b1 + 3)) f_State_18 hb1 (rr_5_2 hb1) (by omega) (by decide +kernel : decode cX6_copyFrom 31 = .ok (.getfield 18, 3)) ?_
  refine r_iconst h (v := 0) (by decide +kernel : decode cX6_copyFrom 34 = .ok (.iconst 0, 1)) ?_
  refine r_aloadn h (q := 0) 0 rfl (by decide +kernel : decode cX6_copyFrom 35 = .ok (.aload_n 0, 1)) ?_
  refine r_getR h (r := (b + 3)) f_State_18 hb (rr_5_2 hb) (by omega) (by decide +kernel : decode cX6_copyFrom 36 = .ok (.getfield 18, 3)) ?_
  refine r_iconst h (v := 0) (by decide +kernel : decode cX6_copyFrom 39 = .ok (.iconst 0, 1)) ?_
  refine r_bipush h (v := 7) (by decide) (by decide +kernel : decode cX6_copyFrom 40 = .ok (.bipush 7, 2)) ?_
  refine r_copyN h (b0 := (b1 + 3)) (b1 := (b + 3)) (w := 7) 7 (at_5_2 hb1) (at_5_2 hb) rfl (by decide) (by decide) (by decide) (by decide) (by decide) kM_copy_State (by decide) (Nat.le_of_ble_eq_true rfl) (by decide +kernel : decode cX6_copyFrom 42 = .ok (.invokestatic 45, 3)) ?_
  have H := H _ rfl
  revert H
  generalize (upr M2 (b + 3) (cpI (M2 (b1 + 3)) (M2 (b + 3)) 0 0 7)) = M3
  intro H
  refine r_aloadn h (q := 1) 1 rfl (by decide +kernel : decode cX6_copyFrom 45 = .ok (.aload_n 1, 1)) ?_
  refine r_getR h (r := (b1 + 4)) f_State_21 hb1 (rr_5_3 hb1) (by omega) (by decide +kernel : decode cX6_copyFrom 46 = .ok (.getfield 21, 3)) ?_
  refine r_iconst h (v := 0) (by decide +kernel : decode cX6_copyFrom 49 = .ok (.iconst 0, 1)) ?_
  refine r_aloadn h (q := 0) 0 rfl (by decide +kernel : decode cX6_copyFrom 50 = .ok (.aload_n 0, 1)) ?_
  refine r_getR h (r := (b + 4)) f_State_21 hb (rr_5_3 hb) (by omega) (by decide +kernel : decode cX6_copyFrom 51 = .ok (.getfield 21, 3)) ?_
  refine r_iconst h (v := 0) (by decide +kernel : decode cX6_copyFrom 54 = .ok (.iconst 0, 1)) ?_
  refine r_bipush h (v := 7) (by decide) (by decide +kernel : decode cX6_copyFrom 55 = .ok (.bipush 7, 2)) ?_
  refine r_copyN h (b0 := (b1 + 4)) (b1 := (b + 4)) (w := 7) 7 (at_5_3 hb1) (at_5_3 hb) rfl (by decide) (by decide) (by decide) (by decide) (by decide) kM_copy_State (by decide) (Nat.le_of_ble_eq_true rfl) (by decide +kernel : decode cX6_copyFrom 57 = .ok (.invokestatic 45, 3)) ?_
  have H := H _ rfl
  revert H
  generalize (upr M3 (b + 4) (cpI (M3 (b1 + 4)) (M3 (b + 4)) 0 0 7)) = M4
  intro H
  refine r_aloadn h (q := 0) 0 rfl (by decide +kernel : decode cX6_copyFrom 60 = .ok (.aload_n 0, 1)) ?_
  refine r_aloadn h (q := 1) 1 rfl (by decide +kernel : decode cX6_copyFrom 61 = .ok (.aload_n 1, 1)) ?_
  refine r_getI h f_State_28 hb1 (by decide +kernel : decode cX6_copyFrom 62 = .ok (.getfield 28, 3)) ?_
  refine r_putI h f_State_28 hb rfl rfl (by decide +kernel : decode cX6_copyFrom 65 = .ok (.putfield 28, 3)) ?_
  have H := H _ rfl
  revert H
  generalize (upr M4 b (up1 (M4 b) 4 (M4 b1 4))) = M5
  intro H
  refine r_aloadn h (q := 0) 0 rfl (by decide +kernel : decode cX6_copyFrom 68 = .ok (.aload_n 0, 1)) ?_
  refine r_aloadn h (q := 1) 1 rfl (by decide +kernel : decode cX6_copyFrom 69 = .ok (.aload_n 1, 1)) ?_
  refine r_getI h f_State_35 hb1 (by decide +kernel : decode cX6_copyFrom 70 = .ok (.getfield 35, 3)) ?_
  refine r_putI h f_State_35 hb rfl rfl (by decide +kernel : decode cX6_copyFrom 73 = .ok (.putfield 35, 3)) ?_
  have H := H _ rfl
  revert H
  generalize (upr M5 b (up1 (M5 b) 5 (M5 b1 5))) = M6
  intro H
  refine r_aloadn h (q := 0) 0 rfl (by decide +kernel : decode cX6_copyFrom 76 = .ok (.aload_n 0, 1)) ?_
  refine r_aloadn h (q := 1) 1 rfl (by decide +kernel : decode cX6_copyFrom 77 = .ok (.aload_n 1, 1)) ?_
  refine r_getI h f_State_36 hb1 (by decide +kernel : decode cX6_copyFrom 78 = .ok (.getfield 36, 3)) ?_
  refine r_putI h f_State_36 hb rfl rfl (by decide +kernel : decode cX6_copyFrom 81 = .ok (.putfield 36, 3)) ?_
  have H := H _ rfl
  revert H
  generalize (upr M6 b (up1 (M6 b) 6 (M6 b1 6))) = M7
  intro H
  refine r_aloadn h (q := 0) 0 rfl (by decide +kernel : decode cX6_copyFrom 84 = .ok (.aload_n 0, 1)) ?_
  refine r_aloadn h (q := 1) 1 rfl (by decide +kernel : decode cX6_copyFrom 85 = .ok (.aload_n 1, 1)) ?_
  refine r_getI h f_State_39 hb1 (by decide +kernel : decode cX6_copyFrom 86 = .ok (.getfield 39, 3)) ?_
  refine r_putI h f_State_39 hb rfl rfl (by decide +kernel : decode cX6_copyFrom 89 = .ok (.putfield 39, 3)) ?_
  have H := H _ rfl
  revert H
  generalize (upr M7 b (up1 (M7 b) 7 (M7 b1 7))) = M8
  intro H
  refine r_aloadn h (q := 0) 0 rfl (by decide +kernel : decode cX6_copyFrom 92 = .ok (.aload_n 0, 1)) ?_
  refine r_aloadn h (q := 1) 1 rfl (by decide +kernel : decode cX6_copyFrom 93 = .ok (.aload_n 1, 1)) ?_
  refine r_getI h f_State_42 hb1 (by decide +kernel : decode cX6_copyFrom 94 = .ok (.getfield 42, 3)) ?_
  refine r_putI h f_State_42 hb rfl rfl (by decide +kernel : decode cX6_copyFrom 97 = .ok (.putfield 42, 3)) ?_
  have H := H _ rfl
  revert H
  generalize (upr M8 b (up1 (M8 b) 8 (M8 b1 8))) = M9
  intro H
  exact r_vret h rfl (by decide +kernel : decode cX6_copyFrom 100 = .ok (.return_, 1)) rfl ⟨rfl, rfl, H⟩
theorem W_State_copyFrom (b : Nat) (hb : At shC NN b (.inl 5)) (b1 : Nat) (hb1 : At shC NN b1 (.inl 5)) (M : Mm) {P : Mm → Prop} (H : ∀ M1 : Mm, M1 = (upr M (b + 1) (cpI (M (b1 + 1)) (M (b + 1)) 0 0 7)) → ∀ M2 : Mm, M2 = (upr M1 (b + 2) (cpI (M1 (b1 + 2)) (M1 (b + 2)) 0 0 7)) → ∀ M3 : Mm, M3 = (upr M2 (b + 3) (cpI (M2 (b1 + 3)) (M2 (b + 3)) 0 0 7)) → ∀ M4 : Mm, M4 = (upr M3 (b + 4) (cpI (M3 (b1 + 4)) (M3 (b + 4)) 0 0 7)) → ∀ M5 : Mm, M5 = (upr M4 b (up1 (M4 b) 4 (M4 b1 4))) → ∀ M6 : Mm, M6 = (upr M5 b (up1 (M5 b) 5 (M5 b1 5))) → ∀ M7 : Mm, M7 = (upr M6 b (up1 (M6 b) 6 (M6 b1 6))) → ∀ M8 : Mm, M8 = (upr M7 b (up1 (M7 b) 7 (M7 b1 7))) → ∀ M9 : Mm, M9 = (upr M8 b (up1 (M8 b) 8 (M8 b1 8))) → P M9) : S_State_copyFrom b b1 M P := e_State_copyFrom b b1 M (fun _ h => w_State_copyFrom_0 h b hb b1 hb1 M H)
set_option maxHeartbeats 4000000 in
set_option maxRecDepth 100000 in
theorem w_State_goes_0 {P : Int → Mm → Prop} {K : Nat → Rr → Nat → List (Nat × AV) → List AV → Mm → Prop} (h : EK shC yX6_goes cX6_goes 2 (some .boolean) 1 NN NN (QI RRC P) K) (b : Nat) (hb : At shC NN b (.inl 5)) (x1 : Int) (M : Mm)
    (H : ((andI (shrI (M b 4) x1) 1) ≠ 0 → (P 0 M)) ∧ ((andI (shrI (M b 4) x1) 1) = 0 → (P 1 M))) :
    K NN RRC 0 [(0, vr b), (1, vi x1)] [] M := by
  refine r_aloadn h (q := 0) 0 rfl (by decide +kernel : decode cX6_goes 0 = .ok (.aload_n 0, 1)) ?_
  refine r_getI h f_State_28 hb (by decide +kernel : decode cX6_goes 1 = .ok (.getfield 28, 3)) ?_
  refine r_iloadn h (q := 1) 1 rfl (by decide +kernel : decode cX6_goes 4 = .ok (.iload_n 1, 1)) ?_
  refine r_ishr h (by decide +kernel : decode cX6_goes 5 = .ok (.ishr, 1)) ?_
  refine r_iconst h (v := 1) (by decide +kernel : decode cX6_goes 6 = .ok (.iconst 1, 1)) ?_
  refine r_iand h (by decide +kernel : decode cX6_goes 7 = .ok (.iand, 1)) ?_
  obtain ⟨H1, H2⟩ := H
  refine r_if_ne h 15 (rng_toInt _) (by decide) (by decide +kernel : decode cX6_goes 8 = .ok (.ifCond .ne 7, 3)) (fun hc => ?_) (fun hc => ?_)
  · have H := H1 hc
    refine r_iconst h (v := 0) (by decide +kernel : decode cX6_goes 15 = .ok (.iconst 0, 1)) ?_
    exact r_zret h rfl (by decide) (by decide +kernel : decode cX6_goes 16 = .ok (.ireturn, 1)) rfl ⟨rfl, _, rfl, H⟩
  · have H := H2 hc
    refine r_iconst h (v := 1) (by decide +kernel : decode cX6_goes 11 = .ok (.iconst 1, 1)) ?_
    refine r_goto h 16 (by decide) (by decide +kernel : decode cX6_goes 12 = .ok (.goto 4, 3)) ?_
    exact r_zret h rfl (by decide) (by decide +kernel : decode cX6_goes 16 = .ok (.ireturn, 1)) rfl ⟨rfl, _, rfl, H⟩
theorem W_State_goes (b : Nat) (hb : At shC NN b (.inl 5)) (x1 : Int) (M : Mm) {P : Int → Mm → Prop} (H : ((andI (shrI (M b 4) x1) 1) ≠ 0 → (P 0 M)) ∧ ((andI (shrI (M b 4) x1) 1) = 0 → (P 1 M))) : S_State_goes b x1 M P := e_State_goes b x1 M (fun _ h => w_State_goes_0 h b hb x1 M H)
set_option maxHeartbeats 4000000 in
set_option maxRecDepth 100000 in
theorem w_State_goingSet_0 {P : Int → Mm → Prop} {K : Nat → Rr → Nat → List (Nat × AV) → List AV → Mm → Prop} (h : EK shC yX6_goingSet cX6_goingSet 2 (some .int) 1 NN NN (QI RRC P) K) (b : Nat) (hb : At shC NN b (.inl 5)) (x1 : Int) (M : Mm)
    (H : P (andI ((shlI 1 x1) - 1) (xorI (M b 4) (-1))) M) :
    K NN RRC 0 [(0, vr b), (1, vi x1)] [] M := by
  refine r_iconst h (v := 1) (by decide +kernel : decode cX6_goingSet 0 = .ok (.iconst 1, 1)) ?_
  refine r_iloadn h (q := 1) 1 rfl (by decide +kernel : decode cX6_goingSet 1 = .ok (.iload_n 1, 1)) ?_
  refine r_ishl h (by decide +kernel : decode cX6_goingSet 2 = .ok (.ishl, 1)) ?_
  refine r_iconst h (v := 1) (by decide +kernel : decode cX6_goingSet 3 = .ok (.iconst 1, 1)) ?_
  refine r_isub h (by decide +kernel : decode cX6_goingSet 4 = .ok (.isub, 1)) ?_
  refine r_aloadn h (q := 0) 0 rfl (by decide +kernel : decode cX6_goingSet 5 = .ok (.aload_n 0, 1)) ?_
  refine r_getI h f_State_28 hb (by decide +kernel : decode cX6_goingSet 6 = .ok (.getfield 28, 3)) ?_
  refine r_iconst h (v := (-1)) (by decide +kernel : decode cX6_goingSet 9 = .ok (.iconst (-1), 1)) ?_
  refine r_ixor h (by decide +kernel : decode cX6_goingSet 10 = .ok (.ixor, 1)) ?_
  refine r_iand h (by decide +kernel : decode cX6_goingSet 11 = .ok (.iand, 1)) ?_
  exact r_iret h rfl (by decide +kernel : decode cX6_goingSet 12 = .ok (.ireturn, 1)) rfl ⟨rfl, _, rfl, H⟩
theorem W_State_goingSet (b : Nat) (hb : At shC NN b (.inl 5)) (x1 : Int) (M : Mm) {P : Int → Mm → Prop} (H : P (andI ((shlI 1 x1) - 1) (xorI (M b 4) (-1))) M) : S_State_goingSet b x1 M P := e_State_goingSet b x1 M (fun _ h => w_State_goingSet_0 h b hb x1 M H)
set_option maxHeartbeats 4000000 in
set_option maxRecDepth 100000 in
theorem w_State_placeOf_0 {P : Int → Mm → Prop} {K : Nat → Rr → Nat → List (Nat × AV) → List AV → Mm → Prop} (h : EK shC yX6_placeOf cX6_placeOf 4 (some .int) 1 NN NN (QI RRC P) K) (b : Nat) (hb : At shC NN b (.inl 5)) (x1 : Int) (x2 : Int) (M : Mm)
    (H : K NN RRC 2 [(0, vr b), (1, vi x1), (2, vi x2), (3, vi 0)] [] M) :
    K NN RRC 0 [(0, vr b), (1, vi x1), (2, vi x2)] [] M := by
  refine r_iconst h (v := 0) (by decide +kernel : decode cX6_placeOf 0 = .ok (.iconst 0, 1)) ?_
  refine r_istoren h (q := 3) (L' := [(3, vi 0), (0, vr b), (1, vi x1), (2, vi x2)]) (by decide) rfl (by decide +kernel : decode cX6_placeOf 1 = .ok (.istore_n 3, 1)) ?_
  refine r_drop h [1, 2, 3, 0] rfl ?_
  exact H
set_option maxHeartbeats 4000000 in
set_option maxRecDepth 100000 in
theorem w_State_placeOf_2 {P : Int → Mm → Prop} {K : Nat → Rr → Nat → List (Nat × AV) → List AV → Mm → Prop} (h : EK shC yX6_placeOf cX6_placeOf 4 (some .int) 1 NN NN (QI RRC P) K) (b : Nat) (hb : At shC NN b (.inl 5)) (x1 : Int) (x2 : Int) (x3 : Int) (M : Mm)
    (H : (rng x3) ∧ (rng x2) ∧ (x2 ≤ x3 → (P (-1) M)) ∧ (¬ (x2 ≤ x3) → ((0 ≤ x3 ∧ x3 < 7) ∧ (rng (M (b + 4) x3.toNat)) ∧ (rng x1) ∧ ((M (b + 4) x3.toNat) ≠ x1 → (K NN RRC 2 [(0, vr b), (1, vi x1), (2, vi x2), (3, vi (x3 + 1))] [] M)) ∧ ((M (b + 4) x3.toNat) = x1 → (P x3 M))))) :
    K NN RRC 2 [(0, vr b), (1, vi x1), (2, vi x2), (3, vi x3)] [] M := by
  refine r_iloadn h (q := 3) 3 rfl (by decide +kernel : decode cX6_placeOf 2 = .ok (.iload_n 3, 1)) ?_
  refine r_iloadn h (q := 2) 2 rfl (by decide +kernel : decode cX6_placeOf 3 = .ok (.iload_n 2, 1)) ?_
  obtain ⟨g1, g2, H⟩ := H
  obtain ⟨H1, H2⟩ := H
  refine r_icmp_ge h 25 g1 g2 (by decide) (by decide +kernel : decode cX6_placeOf 4 = .ok (.if_icmp .ge 21, 3)) (fun hc => ?_) (fun hc => ?_)
  · have H := H1 hc
    refine r_iconst h (v := (-1)) (by decide +kernel : decode cX6_placeOf 25 = .ok (.iconst (-1), 1)) ?_
    exact r_iret h rfl (by decide +kernel : decode cX6_placeOf 26 = .ok (.ireturn, 1)) rfl ⟨rfl, _, rfl, H⟩
  · have H := H2 hc
    refine r_aloadn h (q := 0) 0 rfl (by decide +kernel : decode cX6_placeOf 7 = .ok (.aload_n 0, 1)) ?_
    refine r_getR h (r := (b + 4)) f_State_21 hb (rr_5_3 hb) (by omega) (by decide +kernel : decode cX6_placeOf 8 = .ok (.getfield 21, 3)) ?_
    refine r_iloadn h (q := 3) 3 rfl (by decide +kernel : decode cX6_placeOf 11 = .ok (.iload_n 3, 1)) ?_
    obtain ⟨g1, H⟩ := H
    refine r_iald h x3.toNat rfl (at_5_3 hb) g1 (by decide) (by decide +kernel : decode cX6_placeOf 12 = .ok (.iaload, 1)) ?_
    refine r_iloadn h (q := 1) 1 rfl (by decide +kernel : decode cX6_placeOf 13 = .ok (.iload_n 1, 1)) ?_
    obtain ⟨g1, g2, H⟩ := H
    obtain ⟨H1, H2⟩ := H
    refine r_icmp_ne h 19 g1 g2 (by decide) (by decide +kernel : decode cX6_placeOf 14 = .ok (.if_icmp .ne 5, 3)) (fun hc => ?_) (fun hc => ?_)
    · have H := H1 hc
      refine r_iinc h (i := 3) (v := 1) (L' := [(3, vi (x3 + 1)), (0, vr b), (1, vi x1), (2, vi x2)]) 3 rfl (by decide) rfl (by decide +kernel : decode cX6_placeOf 19 = .ok (.iinc 3 1, 3)) ?_
      refine r_goto h 2 (by decide) (by decide +kernel : decode cX6_placeOf 22 = .ok (.goto (-20), 3)) ?_
      refine r_drop h [1, 2, 3, 0] rfl ?_
      exact H
    · have H := H2 hc
      refine r_iloadn h (q := 3) 3 rfl (by decide +kernel : decode cX6_placeOf 17 = .ok (.iload_n 3, 1)) ?_
      exact r_iret h rfl (by decide +kernel : decode cX6_placeOf 18 = .ok (.ireturn, 1)) rfl ⟨rfl, _, rfl, H⟩
set_option maxHeartbeats 4000000 in
set_option maxRecDepth 100000 in
theorem w_State_turnRoad_0 {P : Mm → Prop} {K : Nat → Rr → Nat → List (Nat × AV) → List AV → Mm → Prop} (h : EK shC yX6_turnRoad cX6_turnRoad 2 none 1 NN NN (QV RRC P) K) (b : Nat) (hb : At shC NN b (.inl 5)) (x1 : Int) (M : Mm)
    (H : ∀ M1 : Mm, M1 = (upr M b (up1 (M b) 4 (xorI (M b 4) (shlI 1 x1)))) → P M1) :
    K NN RRC 0 [(0, vr b), (1, vi x1)] [] M := by
  refine r_aloadn h (q := 0) 0 rfl (by decide +kernel : decode cX6_turnRoad 0 = .ok (.aload_n 0, 1)) ?_
  refine r_dup h rfl (by decide +kernel : decode cX6_turnRoad 1 = .ok (.dup, 1)) ?_
  refine r_getI h f_State_28 hb (by decide +kernel : decode cX6_turnRoad 2 = .ok (.getfield 28, 3)) ?_
  refine r_iconst h (v := 1) (by decide +kernel : decode cX6_turnRoad 5 = .ok (.iconst 1, 1)) ?_
  refine r_iloadn h (q := 1) 1 rfl (by decide +kernel : decode cX6_turnRoad 6 = .ok (.iload_n 1, 1)) ?_
  refine r_ishl h (by decide +kernel : decode cX6_turnRoad 7 = .ok (.ishl, 1)) ?_
  refine r_ixor h (by decide +kernel : decode cX6_turnRoad 8 = .ok (.ixor, 1)) ?_
  refine r_putI h f_State_28 hb rfl rfl (by decide +kernel : decode cX6_turnRoad 9 = .ok (.putfield 28, 3)) ?_
  have H := H _ rfl
  revert H
  generalize (upr M b (up1 (M b) 4 (xorI (M b 4) (shlI 1 x1)))) = M1
  intro H
  exact r_vret h rfl (by decide +kernel : decode cX6_turnRoad 12 = .ok (.return_, 1)) rfl ⟨rfl, rfl, H⟩
theorem W_State_turnRoad (b : Nat) (hb : At shC NN b (.inl 5)) (x1 : Int) (M : Mm) {P : Mm → Prop} (H : ∀ M1 : Mm, M1 = (upr M b (up1 (M b) 4 (xorI (M b 4) (shlI 1 x1)))) → P M1) : S_State_turnRoad b x1 M P := e_State_turnRoad b x1 M (fun _ h => w_State_turnRoad_0 h b hb x1 M H)
set_option maxHeartbeats 4000000 in
set_option maxRecDepth 100000 in
theorem w_State_sellPints_0 {P : Int → Mm → Prop} {K : Nat → Rr → Nat → List (Nat × AV) → List AV → Mm → Prop} (h : EK shC yX6_sellPints cX6_sellPints 3 (some .boolean) 1 NN NN (QI RRC P) K) (b : Nat) (hb : At shC NN b (.inl 5)) (x1 : Int) (x2 : Int) (M : Mm)
    (H : (rng x1) ∧ (rng (M b 7)) ∧ (x1 ≤ (M b 7) → (∀ M1 : Mm, M1 = (upr M b (up1 (M b) 7 ((M b 7) - x1))) → ∀ M2 : Mm, M2 = (upr M1 b (up1 (M1 b) 8 ((M1 b 8) + (x1 * x2)))) → P 1 M2)) ∧ (¬ (x1 ≤ (M b 7)) → (P 0 M))) :
    K NN RRC 0 [(0, vr b), (1, vi x1), (2, vi x2)] [] M := by
  refine r_iloadn h (q := 1) 1 rfl (by decide +kernel : decode cX6_sellPints 0 = .ok (.iload_n 1, 1)) ?_
  refine r_aloadn h (q := 0) 0 rfl (by decide +kernel : decode cX6_sellPints 1 = .ok (.aload_n 0, 1)) ?_
  refine r_getI h f_State_39 hb (by decide +kernel : decode cX6_sellPints 2 = .ok (.getfield 39, 3)) ?_
  obtain ⟨g1, g2, H⟩ := H
  obtain ⟨H1, H2⟩ := H
  refine r_icmp_le h 10 g1 g2 (by decide) (by decide +kernel : decode cX6_sellPints 5 = .ok (.if_icmp .le 5, 3)) (fun hc => ?_) (fun hc => ?_)
  · have H := H1 hc
    refine r_aloadn h (q := 0) 0 rfl (by decide +kernel : decode cX6_sellPints 10 = .ok (.aload_n 0, 1)) ?_
    refine r_dup h rfl (by decide +kernel : decode cX6_sellPints 11 = .ok (.dup, 1)) ?_
    refine r_getI h f_State_39 hb (by decide +kernel : decode cX6_sellPints 12 = .ok (.getfield 39, 3)) ?_
    refine r_iloadn h (q := 1) 1 rfl (by decide +kernel : decode cX6_sellPints 15 = .ok (.iload_n 1, 1)) ?_
    refine r_isub h (by decide +kernel : decode cX6_sellPints 16 = .ok (.isub, 1)) ?_
    refine r_putI h f_State_39 hb rfl rfl (by decide +kernel : decode cX6_sellPints 17 = .ok (.putfield 39, 3)) ?_
    have H := H _ rfl
    revert H
    generalize (upr M b (up1 (M b) 7 ((M b 7) - x1))) = M1
    intro H
    refine r_aloadn h (q := 0) 0 rfl (by decide +kernel : decode cX6_sellPints 20 = .ok (.aload_n 0, 1)) ?_
    refine r_dup h rfl (by decide +kernel : decode cX6_sellPints 21 = .ok (.dup, 1)) ?_
    refine r_getI h f_State_42 hb (by decide +kernel : decode cX6_sellPints 22 = .ok (.getfield 42, 3)) ?_
    refine r_iloadn h (q := 1) 1 rfl (by decide +kernel : decode cX6_sellPints 25 = .ok (.iload_n 1, 1)) ?_
    refine r_iloadn h (q := 2) 2 rfl (by decide +kernel : decode cX6_sellPints 26 = .ok (.iload_n 2, 1)) ?_
    refine r_imul h (by decide +kernel : decode cX6_sellPints 27 = .ok (.imul, 1)) ?_
    refine r_iadd h (by decide +kernel : decode cX6_sellPints 28 = .ok (.iadd, 1)) ?_
    refine r_putI h f_State_42 hb rfl rfl (by decide +kernel : decode cX6_sellPints 29 = .ok (.putfield 42, 3)) ?_
    have H := H _ rfl
    revert H
    generalize (upr M1 b (up1 (M1 b) 8 ((M1 b 8) + (x1 * x2)))) = M2
    intro H
    refine r_iconst h (v := 1) (by decide +kernel : decode cX6_sellPints 32 = .ok (.iconst 1, 1)) ?_
    exact r_zret h rfl (by decide) (by decide +kernel : decode cX6_sellPints 33 = .ok (.ireturn, 1)) rfl ⟨rfl, _, rfl, H⟩
  · have H := H2 hc
    refine r_iconst h (v := 0) (by decide +kernel : decode cX6_sellPints 8 = .ok (.iconst 0, 1)) ?_
    exact r_zret h rfl (by decide) (by decide +kernel : decode cX6_sellPints 9 = .ok (.ireturn, 1)) rfl ⟨rfl, _, rfl, H⟩
theorem W_State_sellPints (b : Nat) (hb : At shC NN b (.inl 5)) (x1 : Int) (x2 : Int) (M : Mm) {P : Int → Mm → Prop} (H : (rng x1) ∧ (rng (M b 7)) ∧ (x1 ≤ (M b 7) → (∀ M1 : Mm, M1 = (upr M b (up1 (M b) 7 ((M b 7) - x1))) → ∀ M2 : Mm, M2 = (upr M1 b (up1 (M1 b) 8 ((M1 b 8) + (x1 * x2)))) → P 1 M2)) ∧ (¬ (x1 ≤ (M b 7)) → (P 0 M))) : S_State_sellPints b x1 x2 M P := e_State_sellPints b x1 x2 M (fun _ h => w_State_sellPints_0 h b hb x1 x2 M H)
set_option maxHeartbeats 4000000 in
set_option maxRecDepth 100000 in
theorem w_State_allWet_0 {P : Int → Mm → Prop} {K : Nat → Rr → Nat → List (Nat × AV) → List AV → Mm → Prop} (h : EK shC yX6_allWet cX6_allWet 4 (some .int) 1 NN NN (QI RRC P) K) (b : Nat) (hb : At shC NN b (.inl 5)) (x1 : Int) (M : Mm)
    (H : K NN RRC 4 [(0, vr b), (1, vi x1), (2, vi 0), (3, vi 0)] [] M) :
    K NN RRC 0 [(0, vr b), (1, vi x1)] [] M := by
  refine r_iconst h (v := 0) (by decide +kernel : decode cX6_allWet 0 = .ok (.iconst 0, 1)) ?_
  refine r_istoren h (q := 2) (L' := [(2, vi 0), (0, vr b), (1, vi x1)]) (by decide) rfl (by decide +kernel : decode cX6_allWet 1 = .ok (.istore_n 2, 1)) ?_
  refine r_iconst h (v := 0) (by decide +kernel : decode cX6_allWet 2 = .ok (.iconst 0, 1)) ?_
  refine r_istoren h (q := 3) (L' := [(3, vi 0), (2, vi 0), (0, vr b), (1, vi x1)]) (by decide) rfl (by decide +kernel : decode cX6_allWet 3 = .ok (.istore_n 3, 1)) ?_
  refine r_drop h [2, 3, 1, 0] rfl ?_
  exact H
set_option maxHeartbeats 4000000 in
set_option maxRecDepth 100000 in
theorem w_State_allWet_4 {P : Int → Mm → Prop} {K : Nat → Rr → Nat → List (Nat × AV) → List AV → Mm → Prop} (h : EK shC yX6_allWet cX6_allWet 4 (some .int) 1 NN NN (QI RRC P) K) (b : Nat) (hb : At shC NN b (.inl 5)) (x1 : Int) (x2 : Int) (x3 : Int) (M : Mm)
    (H : (rng x3) ∧ (rng x1) ∧ (x1 ≤ x3 → (P x2 M)) ∧ (¬ (x1 ≤ x3) → ((0 ≤ x3 ∧ x3 < 7) ∧ K NN RRC 4 [(0, vr b), (1, vi x1), (2, vi (x2 + (M (b + 2) x3.toNat))), (3, vi (x3 + 1))] [] M))) :
    K NN RRC 4 [(0, vr b), (1, vi x1), (2, vi x2), (3, vi x3)] [] M := by
  refine r_iloadn h (q := 3) 3 rfl (by decide +kernel : decode cX6_allWet 4 = .ok (.iload_n 3, 1)) ?_
  refine r_iloadn h (q := 1) 1 rfl (by decide +kernel : decode cX6_allWet 5 = .ok (.iload_n 1, 1)) ?_
  obtain ⟨g1, g2, H⟩ := H
  obtain ⟨H1, H2⟩ := H
  refine r_icmp_ge h 24 g1 g2 (by decide) (by decide +kernel : decode cX6_allWet 6 = .ok (.if_icmp .ge 18, 3)) (fun hc => ?_) (fun hc => ?_)
  · have H := H1 hc
    refine r_iloadn h (q := 2) 2 rfl (by decide +kernel : decode cX6_allWet 24 = .ok (.iload_n 2, 1)) ?_
    exact r_iret h rfl (by decide +kernel : decode cX6_allWet 25 = .ok (.ireturn, 1)) rfl ⟨rfl, _, rfl, H⟩
  · have H := H2 hc
    refine r_iloadn h (q := 2) 2 rfl (by decide +kernel : decode cX6_allWet 9 = .ok (.iload_n 2, 1)) ?_
    refine r_aloadn h (q := 0) 0 rfl (by decide +kernel : decode cX6_allWet 10 = .ok (.aload_n 0, 1)) ?_
    refine r_getR h (r := (b + 2)) f_State_15 hb (rr_5_1 hb) (by omega) (by decide +kernel : decode cX6_allWet 11 = .ok (.getfield 15, 3)) ?_
    refine r_iloadn h (q := 3) 3 rfl (by decide +kernel : decode cX6_allWet 14 = .ok (.iload_n 3, 1)) ?_
    obtain ⟨g1, H⟩ := H
    refine r_iald h x3.toNat rfl (at_5_1 hb) g1 (by decide) (by decide +kernel : decode cX6_allWet 15 = .ok (.iaload, 1)) ?_
    refine r_iadd h (by decide +kernel : decode cX6_allWet 16 = .ok (.iadd, 1)) ?_
    refine r_istoren h (q := 2) (L' := [(2, vi (x2 + (M (b + 2) x3.toNat))), (0, vr b), (1, vi x1), (3, vi x3)]) (by decide) rfl (by decide +kernel : decode cX6_allWet 17 = .ok (.istore_n 2, 1)) ?_
    refine r_iinc h (i := 3) (v := 1) (L' := [(3, vi (x3 + 1)), (2, vi (x2 + (M (b + 2) x3.toNat))), (0, vr b), (1, vi x1)]) 3 rfl (by decide) rfl (by decide +kernel : decode cX6_allWet 18 = .ok (.iinc 3 1, 3)) ?_
    refine r_goto h 4 (by decide) (by decide +kernel : decode cX6_allWet 21 = .ok (.goto (-17), 3)) ?_
    refine r_drop h [2, 3, 1, 0] rfl ?_
    exact H
set_option maxHeartbeats 4000000 in
set_option maxRecDepth 100000 in
theorem w_State_allPrinted_0 {P : Int → Mm → Prop} {K : Nat → Rr → Nat → List (Nat × AV) → List AV → Mm → Prop} (h : EK shC yX6_allPrinted cX6_allPrinted 4 (some .int) 1 NN NN (QI RRC P) K) (b : Nat) (hb : At shC NN b (.inl 5)) (x1 : Int) (M : Mm)
    (H : K NN RRC 4 [(0, vr b), (1, vi x1), (2, vi 0), (3, vi 0)] [] M) :
    K NN RRC 0 [(0, vr b), (1, vi x1)] [] M := by
  refine r_iconst h (v := 0) (by decide +kernel : decode cX6_allPrinted 0 = .ok (.iconst 0, 1)) ?_
  refine r_istoren h (q := 2) (L' := [(2, vi 0), (0, vr b), (1, vi x1)]) (by decide) rfl (by decide +kernel : decode cX6_allPrinted 1 = .ok (.istore_n 2, 1)) ?_
  refine r_iconst h (v := 0) (by decide +kernel : decode cX6_allPrinted 2 = .ok (.iconst 0, 1)) ?_
  refine r_istoren h (q := 3) (L' := [(3, vi 0), (2, vi 0), (0, vr b), (1, vi x1)]) (by decide) rfl (by decide +kernel : decode cX6_allPrinted 3 = .ok (.istore_n 3, 1)) ?_
  refine r_drop h [2, 3, 1, 0] rfl ?_
  exact H
set_option maxHeartbeats 4000000 in
set_option maxRecDepth 100000 in
theorem w_State_allPrinted_4 {P : Int → Mm → Prop} {K : Nat → Rr → Nat → List (Nat × AV) → List AV → Mm → Prop} (h : EK shC yX6_allPrinted cX6_allPrinted 4 (some .int) 1 NN NN (QI RRC P) K) (b : Nat) (hb : At shC NN b (.inl 5)) (x1 : Int) (x2 : Int) (x3 : Int) (M : Mm)
    (H : (rng x3) ∧ (rng x1) ∧ (x1 ≤ x3 → (P x2 M)) ∧ (¬ (x1 ≤ x3) → ((0 ≤ x3 ∧ x3 < 7) ∧ K NN RRC 4 [(0, vr b), (1, vi x1), (2, vi (x2 + (M (b + 3) x3.toNat))), (3, vi (x3 + 1))] [] M))) :
    K NN RRC 4 [(0, vr b), (1, vi x1), (2, vi x2), (3, vi x3)] [] M := by
  refine r_iloadn h (q := 3) 3 rfl (by decide +kernel : decode cX6_allPrinted 4 = .ok (.iload_n 3, 1)) ?_
  refine r_iloadn h (q := 1) 1 rfl (by decide +kernel : decode cX6_allPrinted 5 = .ok (.iload_n 1, 1)) ?_
  obtain ⟨g1, g2, H⟩ := H
  obtain ⟨H1, H2⟩ := H
  refine r_icmp_ge h 24 g1 g2 (by decide) (by decide +kernel : decode cX6_allPrinted 6 = .ok (.if_icmp .ge 18, 3)) (fun hc => ?_) (fun hc => ?_)
  · have H := H1 hc
    refine r_iloadn h (q := 2) 2 rfl (by decide +kernel : decode cX6_allPrinted 24 = .ok (.iload_n 2, 1)) ?_
    exact r_iret h rfl (by decide +kernel : decode cX6_allPrinted 25 = .ok (.ireturn, 1)) rfl ⟨rfl, _, rfl, H⟩
  · have H := H2 hc
    refine r_iloadn h (q := 2) 2 rfl (by decide +kernel : decode cX6_allPrinted 9 = .ok (.iload_n 2, 1)) ?_
    refine r_aloadn h (q := 0) 0 rfl (by decide +kernel : decode cX6_allPrinted 10 = .ok (.aload_n 0, 1)) ?_
    refine r_getR h (r := (b + 3)) f_State_18 hb (rr_5_2 hb) (by omega) (by decide +kernel : decode cX6_allPrinted 11 = .ok (.getfield 18, 3)) ?_
    refine r_iloadn h (q := 3) 3 rfl (by decide +kernel : decode cX6_allPrinted 14 = .ok (.iload_n 3, 1)) ?_
    obtain ⟨g1, H⟩ := H
    refine r_iald h x3.toNat rfl (at_5_2 hb) g1 (by decide) (by decide +kernel : decode cX6_allPrinted 15 = .ok (.iaload, 1)) ?_
    refine r_iadd h (by decide +kernel : decode cX6_allPrinted 16 = .ok (.iadd, 1)) ?_
    refine r_istoren h (q := 2) (L' := [(2, vi (x2 + (M (b + 3) x3.toNat))), (0, vr b), (1, vi x1), (3, vi x3)]) (by decide) rfl (by decide +kernel : decode cX6_allPrinted 17 = .ok (.istore_n 2, 1)) ?_
    refine r_iinc h (i := 3) (v := 1) (L' := [(3, vi (x3 + 1)), (2, vi (x2 + (M (b + 3) x3.toNat))), (0, vr b), (1, vi x1)]) 3 rfl (by decide) rfl (by decide +kernel : decode cX6_allPrinted 18 = .ok (.iinc 3 1, 3)) ?_
    refine r_goto h 4 (by decide) (by decide +kernel : decode cX6_allPrinted 21 = .ok (.goto (-17), 3)) ?_
    refine r_drop h [2, 3, 1, 0] rfl ?_
    exact H
set_option maxHeartbeats 4000000 in
set_option maxRecDepth 100000 in
theorem w_Rows_shunsLast_0 {P : Int → Mm → Prop} {K : Nat → Rr → Nat → List (Nat × AV) → List AV → Mm → Prop} (h : EK shC yX3_shunsLast cX3_shunsLast 3 (some .boolean) 2 NN NN (QI RRC P) K) (b0 : Nat) (hb0 : At shC NN b0 (.inl 7)) (x1 : Int) (x2 : Int) (M : Mm)
    (H : (rng x2) ∧ (x2 = 7 → (P 0 M)) ∧ (x2 ≠ 7 → (∃ P1 : Int → Mm → Prop, S_Town_doesShun b0 x1 x2 M P1 ∧ ∀ (r1 : Int) (M1 : Mm), P1 r1 M1 → (rng r1) ∧ (r1 = 0 → (P 0 M1)) ∧ (r1 ≠ 0 → (P 1 M1))))) :
    K NN RRC 0 [(0, vr b0), (1, vi x1), (2, vi x2)] [] M := by
  refine r_iloadn h (q := 2) 2 rfl (by decide +kernel : decode cX3_shunsLast 0 = .ok (.iload_n 2, 1)) ?_
  refine r_bipush h (v := 7) (by decide) (by decide +kernel : decode cX3_shunsLast 1 = .ok (.bipush 7, 2)) ?_
  obtain ⟨g1, H⟩ := H
  obtain ⟨H1, H2⟩ := H
  refine r_icmp_eq h 19 g1 (by decide) (by decide) (by decide +kernel : decode cX3_shunsLast 3 = .ok (.if_icmp .eq 16, 3)) (fun hc => ?_) (fun hc => ?_)
  · have H := H1 hc
    refine r_iconst h (v := 0) (by decide +kernel : decode cX3_shunsLast 19 = .ok (.iconst 0, 1)) ?_
    exact r_zret h rfl (by decide) (by decide +kernel : decode cX3_shunsLast 20 = .ok (.ireturn, 1)) rfl ⟨rfl, _, rfl, H⟩
  · have H := H2 hc
    refine r_aloadn h (q := 0) 0 rfl (by decide +kernel : decode cX3_shunsLast 6 = .ok (.aload_n 0, 1)) ?_
    refine r_iloadn h (q := 1) 1 rfl (by decide +kernel : decode cX3_shunsLast 7 = .ok (.iload_n 1, 1)) ?_
    refine r_iloadn h (q := 2) 2 rfl (by decide +kernel : decode cX3_shunsLast 8 = .ok (.iload_n 2, 1)) ?_
    obtain ⟨P1, hSP1, H⟩ := H
    refine r_callV h (as := [vi x1, vi x2]) (S := []) (b := b0) m_Rows_63 hSP1 (by decide) (Nat.le_refl _) rfl hb0 rfl (Nat.le_of_ble_eq_true rfl) (by decide +kernel : decode cX3_shunsLast 9 = .ok (.invokevirtual 63, 3)) ?_
    rintro _ _ M1 ⟨rfl, r1, rfl, hP⟩
    have H := H r1 M1 hP
    show K NN RRC _ _ [vi r1] _
    obtain ⟨g1, H⟩ := H
    obtain ⟨H1, H2⟩ := H
    refine r_if_eq h 19 g1 (by decide) (by decide +kernel : decode cX3_shunsLast 12 = .ok (.ifCond .eq 7, 3)) (fun hc => ?_) (fun hc => ?_)
    · have H := H1 hc
      refine r_iconst h (v := 0) (by decide +kernel : decode cX3_shunsLast 19 = .ok (.iconst 0, 1)) ?_
      exact r_zret h rfl (by decide) (by decide +kernel : decode cX3_shunsLast 20 = .ok (.ireturn, 1)) rfl ⟨rfl, _, rfl, H⟩
    · have H := H2 hc
      refine r_iconst h (v := 1) (by decide +kernel : decode cX3_shunsLast 15 = .ok (.iconst 1, 1)) ?_
      refine r_goto h 20 (by decide) (by decide +kernel : decode cX3_shunsLast 16 = .ok (.goto 4, 3)) ?_
      exact r_zret h rfl (by decide) (by decide +kernel : decode cX3_shunsLast 20 = .ok (.ireturn, 1)) rfl ⟨rfl, _, rfl, H⟩
theorem W_Rows_shunsLast (b0 : Nat) (hb0 : At shC NN b0 (.inl 7)) (x1 : Int) (x2 : Int) (M : Mm) {P : Int → Mm → Prop} (H : (rng x2) ∧ (x2 = 7 → (P 0 M)) ∧ (x2 ≠ 7 → (∃ P1 : Int → Mm → Prop, S_Town_doesShun b0 x1 x2 M P1 ∧ ∀ (r1 : Int) (M1 : Mm), P1 r1 M1 → (rng r1) ∧ (r1 = 0 → (P 0 M1)) ∧ (r1 ≠ 0 → (P 1 M1))))) : S_Rows_shunsLast b0 x1 x2 M P := e_Rows_shunsLast b0 x1 x2 M (fun _ h => w_Rows_shunsLast_0 h b0 hb0 x1 x2 M H)
set_option maxHeartbeats 4000000 in
set_option maxRecDepth 100000 in
theorem w_Rows_countOrders_0 {P : Int → Mm → Prop} {K : Nat → Rr → Nat → List (Nat × AV) → List AV → Mm → Prop} (h : EK shC yX3_countOrders cX3_countOrders 4 (some .int) 2 NN NN (QI RRC P) K) (b : Nat) (hb : At shC NN b (.inl 2)) (b1 : Nat) (hb1 : At shC NN b1 (.inl 4)) (x2 : Int) (M : Mm)
    (H : K NN RRC 2 [(0, vr b), (1, vr b1), (2, vi x2), (3, vi 0)] [] M) :
    K NN RRC 0 [(0, vr b), (1, vr b1), (2, vi x2)] [] M := by
  refine r_iconst h (v := 0) (by decide +kernel : decode cX3_countOrders 0 = .ok (.iconst 0, 1)) ?_
  refine r_istoren h (q := 3) (L' := [(3, vi 0), (0, vr b), (1, vr b1), (2, vi x2)]) (by decide) rfl (by decide +kernel : decode cX3_countOrders 1 = .ok (.istore_n 3, 1)) ?_
  refine r_drop h [1, 2, 3, 0] rfl ?_
  exact H
set_option maxHeartbeats 4000000 in
set_option maxRecDepth 100000 in
theorem w_Rows_countOrders_2 {P : Int → Mm → Prop} {K : Nat → Rr → Nat → List (Nat × AV) → List AV → Mm → Prop} (h : EK shC yX3_countOrders cX3_countOrders 4 (some .int) 2 NN NN (QI RRC P) K) (b : Nat) (hb : At shC NN b (.inl 2)) (b1 : Nat) (hb1 : At shC NN b1 (.inl 4)) (x2 : Int) (x3 : Int) (M : Mm)
    (H : (rng x3) ∧ (rng x2) ∧ (x2 ≤ x3 → (K NN RRC 22 [(0, vr b), (1, vr b1), (2, vi x2), (3, vi 0)] [] M)) ∧ (¬ (x2 ≤ x3) → ((0 ≤ x3 ∧ x3 < 7) ∧ ∀ M1 : Mm, M1 = (upr M (b + 6) (up1 (M (b + 6)) x3.toNat 0)) → K NN RRC 2 [(0, vr b), (1, vr b1), (2, vi x2), (3, vi (x3 + 1))] [] M1))) :
    K NN RRC 2 [(0, vr b), (1, vr b1), (2, vi x2), (3, vi x3)] [] M := by
  refine r_iloadn h (q := 3) 3 rfl (by decide +kernel : decode cX3_countOrders 2 = .ok (.iload_n 3, 1)) ?_
  refine r_iloadn h (q := 2) 2 rfl (by decide +kernel : decode cX3_countOrders 3 = .ok (.iload_n 2, 1)) ?_
  obtain ⟨g1, g2, H⟩ := H
  obtain ⟨H1, H2⟩ := H
  refine r_icmp_ge h 20 g1 g2 (by decide) (by decide +kernel : decode cX3_countOrders 4 = .ok (.if_icmp .ge 16, 3)) (fun hc => ?_) (fun hc => ?_)
  · have H := H1 hc
    refine r_iconst h (v := 0) (by decide +kernel : decode cX3_countOrders 20 = .ok (.iconst 0, 1)) ?_
    refine r_istoren h (q := 3) (L' := [(3, vi 0), (0, vr b), (1, vr b1), (2, vi x2)]) (by decide) rfl (by decide +kernel : decode cX3_countOrders 21 = .ok (.istore_n 3, 1)) ?_
    refine r_drop h [1, 2, 3, 0] rfl ?_
    exact H
  · have H := H2 hc
    refine r_aloadn h (q := 0) 0 rfl (by decide +kernel : decode cX3_countOrders 7 = .ok (.aload_n 0, 1)) ?_
    refine r_getR h (r := (b + 6)) f_Rows_27 hb (rr_2_6 hb) (by omega) (by decide +kernel : decode cX3_countOrders 8 = .ok (.getfield 27, 3)) ?_
    refine r_iloadn h (q := 3) 3 rfl (by decide +kernel : decode cX3_countOrders 11 = .ok (.iload_n 3, 1)) ?_
    refine r_iconst h (v := 0) (by decide +kernel : decode cX3_countOrders 12 = .ok (.iconst 0, 1)) ?_
    obtain ⟨g1, H⟩ := H
    refine r_iast h x3.toNat rfl (at_2_6 hb) g1 (by decide) (by decide +kernel : decode cX3_countOrders 13 = .ok (.iastore, 1)) ?_
    have H := H _ rfl
    revert H
    generalize (upr M (b + 6) (up1 (M (b + 6)) x3.toNat 0)) = M1
    intro H
    refine r_iinc h (i := 3) (v := 1) (L' := [(3, vi (x3 + 1)), (0, vr b), (1, vr b1), (2, vi x2)]) 3 rfl (by decide) rfl (by decide +kernel : decode cX3_countOrders 14 = .ok (.iinc 3 1, 3)) ?_
    refine r_goto h 2 (by decide) (by decide +kernel : decode cX3_countOrders 17 = .ok (.goto (-15), 3)) ?_
    refine r_drop h [1, 2, 3, 0] rfl ?_
    exact H
set_option maxHeartbeats 4000000 in
set_option maxRecDepth 100000 in
theorem w_Rows_countOrders_22 {P : Int → Mm → Prop} {K : Nat → Rr → Nat → List (Nat × AV) → List AV → Mm → Prop} (h : EK shC yX3_countOrders cX3_countOrders 4 (some .int) 2 NN NN (QI RRC P) K) (b : Nat) (hb : At shC NN b (.inl 2)) (b1 : Nat) (hb1 : At shC NN b1 (.inl 4)) (x2 : Int) (x3 : Int) (M : Mm)
    (H : (rng x3) ∧ (rng (M b1 4)) ∧ ((M b1 4) ≤ x3 → (∃ P1 : Int → Mm → Prop, S_Rows_countWays b x2 M P1 ∧ ∀ (r1 : Int) (M1 : Mm), P1 r1 M1 → P r1 M1)) ∧ (¬ ((M b1 4) ≤ x3) → ((0 ≤ x3 ∧ x3 < 8) ∧ (0 ≤ (M (b1 + 11) x3.toNat) ∧ (M (b1 + 11) x3.toNat) < 7) ∧ (0 ≤ x3 ∧ x3 < 8) ∧ (0 ≤ (M (b1 + 11) x3.toNat) ∧ (M (b1 + 11) x3.toNat) < 7) ∧ ∀ M2 : Mm, M2 = (upr M (b + 6) (up1 (M (b + 6)) (M (b1 + 11) x3.toNat).toNat (orI (M (b + 6) (M (b1 + 11) x3.toNat).toNat) (shlI 1 (M (b1 + 10) x3.toNat))))) → K NN RRC 22 [(0, vr b), (1, vr b1), (2, vi x2), (3, vi (x3 + 1))] [] M2))) :
    K NN RRC 22 [(0, vr b), (1, vr b1), (2, vi x2), (3, vi x3)] [] M := by
  refine r_iloadn h (q := 3) 3 rfl (by decide +kernel : decode cX3_countOrders 22 = .ok (.iload_n 3, 1)) ?_
  refine r_aloadn h (q := 1) 1 rfl (by decide +kernel : decode cX3_countOrders 23 = .ok (.aload_n 1, 1)) ?_
  refine r_getI h f_Rows_99 hb1 (by decide +kernel : decode cX3_countOrders 24 = .ok (.getfield 99, 3)) ?_
  obtain ⟨g1, g2, H⟩ := H
  obtain ⟨H1, H2⟩ := H
  refine r_icmp_ge h 58 g1 g2 (by decide) (by decide +kernel : decode cX3_countOrders 27 = .ok (.if_icmp .ge 31, 3)) (fun hc => ?_) (fun hc => ?_)
  · have H := H1 hc
    refine r_aloadn h (q := 0) 0 rfl (by decide +kernel : decode cX3_countOrders 58 = .ok (.aload_n 0, 1)) ?_
    refine r_iloadn h (q := 2) 2 rfl (by decide +kernel : decode cX3_countOrders 59 = .ok (.iload_n 2, 1)) ?_
    obtain ⟨P1, hSP1, H⟩ := H
    refine r_callV h (as := [vi x2]) (S := []) (b := b) m_Rows_110 hSP1 (by decide) (Nat.le_refl _) rfl hb rfl (Nat.le_of_ble_eq_true rfl) (by decide +kernel : decode cX3_countOrders 60 = .ok (.invokevirtual 110, 3)) ?_
    rintro _ _ M1 ⟨rfl, r1, rfl, hP⟩
    have H := H r1 M1 hP
    show K NN RRC _ _ [vi r1] _
    exact r_iret h rfl (by decide +kernel : decode cX3_countOrders 63 = .ok (.ireturn, 1)) rfl ⟨rfl, _, rfl, H⟩
  · have H := H2 hc
    refine r_aloadn h (q := 0) 0 rfl (by decide +kernel : decode cX3_countOrders 30 = .ok (.aload_n 0, 1)) ?_
    refine r_getR h (r := (b + 6)) f_Rows_27 hb (rr_2_6 hb) (by omega) (by decide +kernel : decode cX3_countOrders 31 = .ok (.getfield 27, 3)) ?_
    refine r_aloadn h (q := 1) 1 rfl (by decide +kernel : decode cX3_countOrders 34 = .ok (.aload_n 1, 1)) ?_
    refine r_getR h (r := (b1 + 11)) f_Rows_104 hb1 (rr_4_3 hb1) (by omega) (by decide +kernel : decode cX3_countOrders 35 = .ok (.getfield 104, 3)) ?_
    refine r_iloadn h (q := 3) 3 rfl (by decide +kernel : decode cX3_countOrders 38 = .ok (.iload_n 3, 1)) ?_
    obtain ⟨g1, H⟩ := H
    refine r_iald h x3.toNat rfl (at_4_3 hb1) g1 (by decide) (by decide +kernel : decode cX3_countOrders 39 = .ok (.iaload, 1)) ?_
    refine r_dup2 h rfl rfl (by decide +kernel : decode cX3_countOrders 40 = .ok (.dup2, 1)) ?_
    obtain ⟨g1, H⟩ := H
    refine r_iald h (M (b1 + 11) x3.toNat).toNat rfl (at_2_6 hb) g1 (by decide) (by decide +kernel : decode cX3_countOrders 41 = .ok (.iaload, 1)) ?_
    refine r_iconst h (v := 1) (by decide +kernel : decode cX3_countOrders 42 = .ok (.iconst 1, 1)) ?_
    refine r_aloadn h (q := 1) 1 rfl (by decide +kernel : decode cX3_countOrders 43 = .ok (.aload_n 1, 1)) ?_
    refine r_getR h (r := (b1 + 10)) f_Rows_107 hb1 (rr_4_2 hb1) (by omega) (by decide +kernel : decode cX3_countOrders 44 = .ok (.getfield 107, 3)) ?_
    refine r_iloadn h (q := 3) 3 rfl (by decide +kernel : decode cX3_countOrders 47 = .ok (.iload_n 3, 1)) ?_
    obtain ⟨g1, H⟩ := H
    refine r_iald h x3.toNat rfl (at_4_2 hb1) g1 (by decide) (by decide +kernel : decode cX3_countOrders 48 = .ok (.iaload, 1)) ?_
    refine r_ishl h (by decide +kernel : decode cX3_countOrders 49 = .ok (.ishl, 1)) ?_
    refine r_ior h (by decide +kernel : decode cX3_countOrders 50 = .ok (.ior, 1)) ?_
    obtain ⟨g1, H⟩ := H
    refine r_iast h (M (b1 + 11) x3.toNat).toNat rfl (at_2_6 hb) g1 (by decide) (by decide +kernel : decode cX3_countOrders 51 = .ok (.iastore, 1)) ?_
    have H := H _ rfl
    revert H
    generalize (upr M (b + 6) (up1 (M (b + 6)) (M (b1 + 11) x3.toNat).toNat (orI (M (b + 6) (M (b1 + 11) x3.toNat).toNat) (shlI 1 (M (b1 + 10) x3.toNat))))) = M2
    intro H
    refine r_iinc h (i := 3) (v := 1) (L' := [(3, vi (x3 + 1)), (0, vr b), (1, vr b1), (2, vi x2)]) 3 rfl (by decide) rfl (by decide +kernel : decode cX3_countOrders 52 = .ok (.iinc 3 1, 3)) ?_
    refine r_goto h 22 (by decide) (by decide +kernel : decode cX3_countOrders 55 = .ok (.goto (-33), 3)) ?_
    refine r_drop h [1, 2, 3, 0] rfl ?_
    exact H
set_option maxHeartbeats 4000000 in
set_option maxRecDepth 100000 in
theorem w_Rows_firstOrderAt_0 {P : Int → Mm → Prop} {K : Nat → Rr → Nat → List (Nat × AV) → List AV → Mm → Prop} (h : EK shC yX3_firstOrderAt cX3_firstOrderAt 6 (some .int) 2 NN NN (QI RRC P) K) (b : Nat) (hb : At shC NN b (.inl 2)) (x1 : Int) (x2 : Int) (M : Mm)
    (H : K NN RRC 8 [(0, vr b), (1, vi x1), (2, vi x2), (3, vi 0), (4, vi (-1)), (5, vi 0)] [] M) :
    K NN RRC 0 [(0, vr b), (1, vi x1), (2, vi x2)] [] M := by
  refine r_iconst h (v := 0) (by decide +kernel : decode cX3_firstOrderAt 0 = .ok (.iconst 0, 1)) ?_
  refine r_istoren h (q := 3) (L' := [(3, vi 0), (0, vr b), (1, vi x1), (2, vi x2)]) (by decide) rfl (by decide +kernel : decode cX3_firstOrderAt 1 = .ok (.istore_n 3, 1)) ?_
  refine r_iconst h (v := (-1)) (by decide +kernel : decode cX3_firstOrderAt 2 = .ok (.iconst (-1), 1)) ?_
  refine r_istore h (L' := [(4, vi (-1)), (3, vi 0), (0, vr b), (1, vi x1), (2, vi x2)]) (by decide) rfl (by decide +kernel : decode cX3_firstOrderAt 3 = .ok (.istore 4, 2)) ?_
  refine r_iconst h (v := 0) (by decide +kernel : decode cX3_firstOrderAt 5 = .ok (.iconst 0, 1)) ?_
  refine r_istore h (L' := [(5, vi 0), (4, vi (-1)), (3, vi 0), (0, vr b), (1, vi x1), (2, vi x2)]) (by decide) rfl (by decide +kernel : decode cX3_firstOrderAt 6 = .ok (.istore 5, 2)) ?_
  refine r_drop h [3, 4, 5, 2, 1, 0] rfl ?_
  exact H
set_option maxHeartbeats 4000000 in
set_option maxRecDepth 100000 in
theorem w_Rows_firstOrderAt_8 {P : Int → Mm → Prop} {K : Nat → Rr → Nat → List (Nat × AV) → List AV → Mm → Prop} (h : EK shC yX3_firstOrderAt cX3_firstOrderAt 6 (some .int) 2 NN NN (QI RRC P) K) (b : Nat) (hb : At shC NN b (.inl 2)) (x1 : Int) (x2 : Int) (x3 : Int) (x4 : Int) (x5 : Int) (M : Mm)
    (H : (rng x5) ∧ (rng x1) ∧ (x1 < x5 → (P x4 M)) ∧ (¬ (x1 < x5) → (∃ P1 : Int → Mm → Prop, S_Rows_firstFree b x3 x2 M P1 ∧ ∀ (r1 : Int) (M1 : Mm), P1 r1 M1 → (rng r1) ∧ (r1 ≠ (-1) → (K NN RRC 8 [(0, vr b), (1, vi x1), (2, vi x2), (3, vi (orI x3 (shlI 1 r1))), (4, vi r1), (5, vi (x5 + 1))] [] M1)) ∧ (r1 = (-1) → (K NN RRC 8 [(0, vr b), (1, vi x1), (2, vi x2), (3, vi (orI x3 0)), (4, vi r1), (5, vi (x5 + 1))] [] M1))))) :
    K NN RRC 8 [(0, vr b), (1, vi x1), (2, vi x2), (3, vi x3), (4, vi x4), (5, vi x5)] [] M := by
  refine r_iload h 5 rfl (by decide +kernel : decode cX3_firstOrderAt 8 = .ok (.iload 5, 2)) ?_
  refine r_iloadn h (q := 1) 1 rfl (by decide +kernel : decode cX3_firstOrderAt 10 = .ok (.iload_n 1, 1)) ?_
  obtain ⟨g1, g2, H⟩ := H
  obtain ⟨H1, H2⟩ := H
  refine r_icmp_gt h 45 g1 g2 (by decide) (by decide +kernel : decode cX3_firstOrderAt 11 = .ok (.if_icmp .gt 34, 3)) (fun hc => ?_) (fun hc => ?_)
  · have H := H1 hc
    refine r_iload h 4 rfl (by decide +kernel : decode cX3_firstOrderAt 45 = .ok (.iload 4, 2)) ?_
    exact r_iret h rfl (by decide +kernel : decode cX3_firstOrderAt 47 = .ok (.ireturn, 1)) rfl ⟨rfl, _, rfl, H⟩
  · have H := H2 hc
    refine r_aloadn h (q := 0) 0 rfl (by decide +kernel : decode cX3_firstOrderAt 14 = .ok (.aload_n 0, 1)) ?_
    refine r_iloadn h (q := 3) 3 rfl (by decide +kernel : decode cX3_firstOrderAt 15 = .ok (.iload_n 3, 1)) ?_
    refine r_iloadn h (q := 2) 2 rfl (by decide +kernel : decode cX3_firstOrderAt 16 = .ok (.iload_n 2, 1)) ?_
    obtain ⟨P1, hSP1, H⟩ := H
    refine r_callV h (as := [vi x3, vi x2]) (S := []) (b := b) m_Rows_113 hSP1 (by decide) (Nat.le_refl _) rfl hb rfl (Nat.le_of_ble_eq_true rfl) (by decide +kernel : decode cX3_firstOrderAt 17 = .ok (.invokevirtual 113, 3)) ?_
    rintro _ _ M1 ⟨rfl, r1, rfl, hP⟩
    have H := H r1 M1 hP
    show K NN RRC _ _ [vi r1] _
    refine r_istore h (L' := [(4, vi r1), (0, vr b), (1, vi x1), (2, vi x2), (3, vi x3), (5, vi x5)]) (by decide) rfl (by decide +kernel : decode cX3_firstOrderAt 20 = .ok (.istore 4, 2)) ?_
    refine r_iloadn h (q := 3) 4 rfl (by decide +kernel : decode cX3_firstOrderAt 22 = .ok (.iload_n 3, 1)) ?_
    refine r_iload h 0 rfl (by decide +kernel : decode cX3_firstOrderAt 23 = .ok (.iload 4, 2)) ?_
    refine r_iconst h (v := (-1)) (by decide +kernel : decode cX3_firstOrderAt 25 = .ok (.iconst (-1), 1)) ?_
    obtain ⟨g1, H⟩ := H
    obtain ⟨H1, H2⟩ := H
    refine r_icmp_ne h 33 g1 (by decide) (by decide) (by decide +kernel : decode cX3_firstOrderAt 26 = .ok (.if_icmp .ne 7, 3)) (fun hc => ?_) (fun hc => ?_)
    · have H := H1 hc
      refine r_iconst h (v := 1) (by decide +kernel : decode cX3_firstOrderAt 33 = .ok (.iconst 1, 1)) ?_
      refine r_iload h 0 rfl (by decide +kernel : decode cX3_firstOrderAt 34 = .ok (.iload 4, 2)) ?_
      refine r_ishl h (by decide +kernel : decode cX3_firstOrderAt 36 = .ok (.ishl, 1)) ?_
      refine r_ior h (by decide +kernel : decode cX3_firstOrderAt 37 = .ok (.ior, 1)) ?_
      refine r_istoren h (q := 3) (L' := [(3, vi (orI x3 (shlI 1 r1))), (4, vi r1), (0, vr b), (1, vi x1), (2, vi x2), (5, vi x5)]) (by decide) rfl (by decide +kernel : decode cX3_firstOrderAt 38 = .ok (.istore_n 3, 1)) ?_
      refine r_iinc h (i := 5) (v := 1) (L' := [(5, vi (x5 + 1)), (3, vi (orI x3 (shlI 1 r1))), (4, vi r1), (0, vr b), (1, vi x1), (2, vi x2)]) 5 rfl (by decide) rfl (by decide +kernel : decode cX3_firstOrderAt 39 = .ok (.iinc 5 1, 3)) ?_
      refine r_goto h 8 (by decide) (by decide +kernel : decode cX3_firstOrderAt 42 = .ok (.goto (-34), 3)) ?_
      refine r_drop h [3, 4, 5, 1, 2, 0] rfl ?_
      exact H
    · have H := H2 hc
      refine r_iconst h (v := 0) (by decide +kernel : decode cX3_firstOrderAt 29 = .ok (.iconst 0, 1)) ?_
      refine r_goto h 37 (by decide) (by decide +kernel : decode cX3_firstOrderAt 30 = .ok (.goto 7, 3)) ?_
      refine r_ior h (by decide +kernel : decode cX3_firstOrderAt 37 = .ok (.ior, 1)) ?_
      refine r_istoren h (q := 3) (L' := [(3, vi (orI x3 0)), (4, vi r1), (0, vr b), (1, vi x1), (2, vi x2), (5, vi x5)]) (by decide) rfl (by decide +kernel : decode cX3_firstOrderAt 38 = .ok (.istore_n 3, 1)) ?_
      refine r_iinc h (i := 5) (v := 1) (L' := [(5, vi (x5 + 1)), (3, vi (orI x3 0)), (4, vi r1), (0, vr b), (1, vi x1), (2, vi x2)]) 5 rfl (by decide) rfl (by decide +kernel : decode cX3_firstOrderAt 39 = .ok (.iinc 5 1, 3)) ?_
      refine r_goto h 8 (by decide) (by decide +kernel : decode cX3_firstOrderAt 42 = .ok (.goto (-34), 3)) ?_
      refine r_drop h [3, 4, 5, 1, 2, 0] rfl ?_
      exact H
set_option maxHeartbeats 4000000 in
set_option maxRecDepth 100000 in
theorem w_Rows_greaterPart_0 {P : Int → Mm → Prop} {K : Nat → Rr → Nat → List (Nat × AV) → List AV → Mm → Prop} (h : EK shC yX3_greaterPart cX3_greaterPart 7 (some .int) 2 NN NN (QI RRC P) K) (b : Nat) (hb : At shC NN b (.inl 2)) (x1 : Int) (x2 : Int) (x3 : Int) (x4 : Int) (M : Mm)
    (H : (0 ≤ x2 ∧ x2 < 7) ∧ (0 ≤ x2 ∧ x2 < 7) ∧ (0 ≤ x2 ∧ x2 < 7) ∧ ∀ M1 : Mm, M1 = (upr M (b + 6) (up1 (M (b + 6)) x2.toNat (orI (M (b + 6) x2.toNat) (shlI 1 x1)))) → ∃ P2 : Int → Mm → Prop, S_Rows_countWays b x4 M1 P2 ∧ ∀ (r1 : Int) (M2 : Mm), P2 r1 M2 → (0 ≤ x2 ∧ x2 < 7) ∧ ∀ M3 : Mm, M3 = (upr M2 (b + 6) (up1 (M2 (b + 6)) x2.toNat (M (b + 6) x2.toNat))) → (rng r1) ∧ (rng (x3 - r1)) ∧ P (max r1 (x3 - r1)) M3) :
    K NN RRC 0 [(0, vr b), (1, vi x1), (2, vi x2), (3, vi x3), (4, vi x4)] [] M := by
  refine r_aloadn h (q := 0) 0 rfl (by decide +kernel : decode cX3_greaterPart 0 = .ok (.aload_n 0, 1)) ?_
  refine r_getR h (r := (b + 6)) f_Rows_27 hb (rr_2_6 hb) (by omega) (by decide +kernel : decode cX3_greaterPart 1 = .ok (.getfield 27, 3)) ?_
  refine r_iloadn h (q := 2) 2 rfl (by decide +kernel : decode cX3_greaterPart 4 = .ok (.iload_n 2, 1)) ?_
  obtain ⟨g1, H⟩ := H
  refine r_iald h x2.toNat rfl (at_2_6 hb) g1 (by decide) (by decide +kernel : decode cX3_greaterPart 5 = .ok (.iaload, 1)) ?_
  refine r_istore h (L' := [(5, vi (M (b + 6) x2.toNat)), (0, vr b), (1, vi x1), (2, vi x2), (3, vi x3), (4, vi x4)]) (by decide) rfl (by decide +kernel : decode cX3_greaterPart 6 = .ok (.istore 5, 2)) ?_
  refine r_aloadn h (q := 0) 1 rfl (by decide +kernel : decode cX3_greaterPart 8 = .ok (.aload_n 0, 1)) ?_
  refine r_getR h (r := (b + 6)) f_Rows_27 hb (rr_2_6 hb) (by omega) (by decide +kernel : decode cX3_greaterPart 9 = .ok (.getfield 27, 3)) ?_
  refine r_iloadn h (q := 2) 3 rfl (by decide +kernel : decode cX3_greaterPart 12 = .ok (.iload_n 2, 1)) ?_
  refine r_dup2 h rfl rfl (by decide +kernel : decode cX3_greaterPart 13 = .ok (.dup2, 1)) ?_
  obtain ⟨g1, H⟩ := H
  refine r_iald h x2.toNat rfl (at_2_6 hb) g1 (by decide) (by decide +kernel : decode cX3_greaterPart 14 = .ok (.iaload, 1)) ?_
  refine r_iconst h (v := 1) (by decide +kernel : decode cX3_greaterPart 15 = .ok (.iconst 1, 1)) ?_
  refine r_iloadn h (q := 1) 2 rfl (by decide +kernel : decode cX3_greaterPart 16 = .ok (.iload_n 1, 1)) ?_
  refine r_ishl h (by decide +kernel : decode cX3_greaterPart 17 = .ok (.ishl, 1)) ?_
  refine r_ior h (by decide +kernel : decode cX3_greaterPart 18 = .ok (.ior, 1)) ?_
  obtain ⟨g1, H⟩ := H
  refine r_iast h x2.toNat rfl (at_2_6 hb) g1 (by decide) (by decide +kernel : decode cX3_greaterPart 19 = .ok (.iastore, 1)) ?_
  have H := H _ rfl
  revert H
  generalize (upr M (b + 6) (up1 (M (b + 6)) x2.toNat (orI (M (b + 6) x2.toNat) (shlI 1 x1)))) = M1
  intro H
  refine r_aloadn h (q := 0) 1 rfl (by decide +kernel : decode cX3_greaterPart 20 = .ok (.aload_n 0, 1)) ?_
  refine r_iload h 5 rfl (by decide +kernel : decode cX3_greaterPart 21 = .ok (.iload 4, 2)) ?_
  obtain ⟨P2, hSP2, H⟩ := H
  refine r_callV h (as := [vi x4]) (S := []) (b := b) m_Rows_110 hSP2 (by decide) (Nat.le_refl _) rfl hb rfl (Nat.le_of_ble_eq_true rfl) (by decide +kernel : decode cX3_greaterPart 23 = .ok (.invokevirtual 110, 3)) ?_
  rintro _ _ M2 ⟨rfl, r1, rfl, hP⟩
  have H := H r1 M2 hP
  show K NN RRC _ _ [vi r1] _
  refine r_istore h (L' := [(6, vi r1), (5, vi (M (b + 6) x2.toNat)), (0, vr b), (1, vi x1), (2, vi x2), (3, vi x3), (4, vi x4)]) (by decide) rfl (by decide +kernel : decode cX3_greaterPart 26 = .ok (.istore 6, 2)) ?_
  refine r_aloadn h (q := 0) 2 rfl (by decide +kernel : decode cX3_greaterPart 28 = .ok (.aload_n 0, 1)) ?_
  refine r_getR h (r := (b + 6)) f_Rows_27 hb (rr_2_6 hb) (by omega) (by decide +kernel : decode cX3_greaterPart 29 = .ok (.getfield 27, 3)) ?_
  refine r_iloadn h (q := 2) 4 rfl (by decide +kernel : decode cX3_greaterPart 32 = .ok (.iload_n 2, 1)) ?_
  refine r_iload h 1 rfl (by decide +kernel : decode cX3_greaterPart 33 = .ok (.iload 5, 2)) ?_
  obtain ⟨g1, H⟩ := H
  refine r_iast h x2.toNat rfl (at_2_6 hb) g1 (by decide) (by decide +kernel : decode cX3_greaterPart 35 = .ok (.iastore, 1)) ?_
  have H := H _ rfl
  revert H
  generalize (upr M2 (b + 6) (up1 (M2 (b + 6)) x2.toNat (M (b + 6) x2.toNat))) = M3
  intro H
  refine r_iload h 0 rfl (by decide +kernel : decode cX3_greaterPart 36 = .ok (.iload 6, 2)) ?_
  refine r_iloadn h (q := 3) 5 rfl (by decide +kernel : decode cX3_greaterPart 38 = .ok (.iload_n 3, 1)) ?_
  refine r_iload h 0 rfl (by decide +kernel : decode cX3_greaterPart 39 = .ok (.iload 6, 2)) ?_
  refine r_isub h (by decide +kernel : decode cX3_greaterPart 41 = .ok (.isub, 1)) ?_
  obtain ⟨g1, g2, H⟩ := H
  refine r_max h g1 g2 kM_max_Rows (by decide) (Nat.le_refl _) (Nat.le_of_ble_eq_true rfl) (by decide +kernel : decode cX3_greaterPart 42 = .ok (.invokestatic 124, 3)) ?_
  rw [max_if]
  have gm1 : rng (max r1 (x3 - r1)) := max_rng g1 g2
  exact r_iret h rfl (by decide +kernel : decode cX3_greaterPart 45 = .ok (.ireturn, 1)) rfl ⟨rfl, _, rfl, H⟩
theorem W_Rows_greaterPart (b : Nat) (hb : At shC NN b (.inl 2)) (x1 : Int) (x2 : Int) (x3 : Int) (x4 : Int) (M : Mm) {P : Int → Mm → Prop} (H : (0 ≤ x2 ∧ x2 < 7) ∧ (0 ≤ x2 ∧ x2 < 7) ∧ (0 ≤ x2 ∧ x2 < 7) ∧ ∀ M1 : Mm, M1 = (upr M (b + 6) (up1 (M (b + 6)) x2.toNat (orI (M (b + 6) x2.toNat) (shlI 1 x1)))) → ∃ P2 : Int → Mm → Prop, S_Rows_countWays b x4 M1 P2 ∧ ∀ (r1 : Int) (M2 : Mm), P2 r1 M2 → (0 ≤ x2 ∧ x2 < 7) ∧ ∀ M3 : Mm, M3 = (upr M2 (b + 6) (up1 (M2 (b + 6)) x2.toNat (M (b + 6) x2.toNat))) → (rng r1) ∧ (rng (x3 - r1)) ∧ P (max r1 (x3 - r1)) M3) : S_Rows_greaterPart b x1 x2 x3 x4 M P := e_Rows_greaterPart b x1 x2 x3 x4 M (fun _ h => w_Rows_greaterPart_0 h b hb x1 x2 x3 x4 M H)
set_option maxHeartbeats 4000000 in
set_option maxRecDepth 100000 in
theorem w_Secrets_bestParting_0 {P : Int → Mm → Prop} {K : Nat → Rr → Nat → List (Nat × AV) → List AV → Mm → Prop} (h : EK shC yX4_bestParting cX4_bestParting 6 (some .int) 2 NN NN (QI RRC P) K) (b : Nat) (hb : At shC NN b (.inl 3)) (x1 : Int) (M : Mm)
    (H : K NN RRC 10 [(0, vr b), (1, vi x1), (2, vi (M b 0)), (3, vi (-1)), (4, vi 0)] [] M) :
    K NN RRC 0 [(0, vr b), (1, vi x1)] [] M := by
  refine r_aloadn h (q := 0) 0 rfl (by decide +kernel : decode cX4_bestParting 0 = .ok (.aload_n 0, 1)) ?_
  refine r_getI h f_Secrets_30 hb (by decide +kernel : decode cX4_bestParting 1 = .ok (.getfield 30, 3)) ?_
  refine r_istoren h (q := 2) (L' := [(2, vi (M b 0)), (0, vr b), (1, vi x1)]) (by decide) rfl (by decide +kernel : decode cX4_bestParting 4 = .ok (.istore_n 2, 1)) ?_
  refine r_iconst h (v := (-1)) (by decide +kernel : decode cX4_bestParting 5 = .ok (.iconst (-1), 1)) ?_
  refine r_istoren h (q := 3) (L' := [(3, vi (-1)), (2, vi (M b 0)), (0, vr b), (1, vi x1)]) (by decide) rfl (by decide +kernel : decode cX4_bestParting 6 = .ok (.istore_n 3, 1)) ?_
  refine r_iconst h (v := 0) (by decide +kernel : decode cX4_bestParting 7 = .ok (.iconst 0, 1)) ?_
  refine r_istore h (L' := [(4, vi 0), (3, vi (-1)), (2, vi (M b 0)), (0, vr b), (1, vi x1)]) (by decide) rfl (by decide +kernel : decode cX4_bestParting 8 = .ok (.istore 4, 2)) ?_
  refine r_drop h [3, 4, 2, 1, 0] rfl ?_
  exact H
set_option maxHeartbeats 4000000 in
set_option maxRecDepth 100000 in
theorem w_Secrets_bestParting_10 {P : Int → Mm → Prop} {K : Nat → Rr → Nat → List (Nat × AV) → List AV → Mm → Prop} (h : EK shC yX4_bestParting cX4_bestParting 6 (some .int) 2 NN NN (QI RRC P) K) (b : Nat) (hb : At shC NN b (.inl 3)) (x1 : Int) (x2 : Int) (x3 : Int) (x4 : Int) (M : Mm)
    (H : (rng x4) ∧ (rng x1) ∧ (x1 ≤ x4 → (P x3 M)) ∧ (¬ (x1 ≤ x4) → ((0 ≤ x4 ∧ x4 < 7) ∧ (0 ≤ x4 ∧ x4 < 7) ∧ (rng (M (b + 2) x4.toNat)) ∧ (rng ((M b 0) - (M (b + 2) x4.toNat))) ∧ (rng x2) ∧ (x2 ≤ (max (M (b + 2) x4.toNat) ((M b 0) - (M (b + 2) x4.toNat))) → (K NN RRC 10 [(0, vr b), (1, vi x1), (2, vi x2), (3, vi x3), (4, vi (x4 + 1))] [] M)) ∧ (¬ (x2 ≤ (max (M (b + 2) x4.toNat) ((M b 0) - (M (b + 2) x4.toNat)))) → (K NN RRC 10 [(0, vr b), (1, vi x1), (2, vi (max (M (b + 2) x4.toNat) ((M b 0) - (M (b + 2) x4.toNat)))), (3, vi x4), (4, vi (x4 + 1))] [] M))))) :
    K NN RRC 10 [(0, vr b), (1, vi x1), (2, vi x2), (3, vi x3), (4, vi x4)] [] M := by
  refine r_iload h 4 rfl (by decide +kernel : decode cX4_bestParting 10 = .ok (.iload 4, 2)) ?_
  refine r_iloadn h (q := 1) 1 rfl (by decide +kernel : decode cX4_bestParting 12 = .ok (.iload_n 1, 1)) ?_
  obtain ⟨g1, g2, H⟩ := H
  obtain ⟨H1, H2⟩ := H
  refine r_icmp_ge h 58 g1 g2 (by decide) (by decide +kernel : decode cX4_bestParting 13 = .ok (.if_icmp .ge 45, 3)) (fun hc => ?_) (fun hc => ?_)
  · have H := H1 hc
    refine r_iloadn h (q := 3) 3 rfl (by decide +kernel : decode cX4_bestParting 58 = .ok (.iload_n 3, 1)) ?_
    exact r_iret h rfl (by decide +kernel : decode cX4_bestParting 59 = .ok (.ireturn, 1)) rfl ⟨rfl, _, rfl, H⟩
  · have H := H2 hc
    refine r_aloadn h (q := 0) 0 rfl (by decide +kernel : decode cX4_bestParting 16 = .ok (.aload_n 0, 1)) ?_
    refine r_getR h (r := (b + 2)) f_Secrets_15 hb (rr_3_4 hb) (by omega) (by decide +kernel : decode cX4_bestParting 17 = .ok (.getfield 15, 3)) ?_
    refine r_iload h 4 rfl (by decide +kernel : decode cX4_bestParting 20 = .ok (.iload 4, 2)) ?_
    obtain ⟨g1, H⟩ := H
    refine r_iald h x4.toNat rfl (at_3_4 hb) g1 (by decide) (by decide +kernel : decode cX4_bestParting 22 = .ok (.iaload, 1)) ?_
    refine r_aloadn h (q := 0) 0 rfl (by decide +kernel : decode cX4_bestParting 23 = .ok (.aload_n 0, 1)) ?_
    refine r_getI h f_Secrets_30 hb (by decide +kernel : decode cX4_bestParting 24 = .ok (.getfield 30, 3)) ?_
    refine r_aloadn h (q := 0) 0 rfl (by decide +kernel : decode cX4_bestParting 27 = .ok (.aload_n 0, 1)) ?_
    refine r_getR h (r := (b + 2)) f_Secrets_15 hb (rr_3_4 hb) (by omega) (by decide +kernel : decode cX4_bestParting 28 = .ok (.getfield 15, 3)) ?_
    refine r_iload h 4 rfl (by decide +kernel : decode cX4_bestParting 31 = .ok (.iload 4, 2)) ?_
    obtain ⟨g1, H⟩ := H
    refine r_iald h x4.toNat rfl (at_3_4 hb) g1 (by decide) (by decide +kernel : decode cX4_bestParting 33 = .ok (.iaload, 1)) ?_
    refine r_isub h (by decide +kernel : decode cX4_bestParting 34 = .ok (.isub, 1)) ?_
    obtain ⟨g1, g2, H⟩ := H
    refine r_max h g1 g2 kM_max_Secrets (by decide) (Nat.le_refl _) (Nat.le_of_ble_eq_true rfl) (by decide +kernel : decode cX4_bestParting 35 = .ok (.invokestatic 51, 3)) ?_
    rw [max_if]
    have gm1 : rng (max (M (b + 2) x4.toNat) ((M b 0) - (M (b + 2) x4.toNat))) := max_rng g1 g2
    refine r_istore h (L' := [(5, vi (max (M (b + 2) x4.toNat) ((M b 0) - (M (b + 2) x4.toNat)))), (0, vr b), (1, vi x1), (2, vi x2), (3, vi x3), (4, vi x4)]) (by decide) rfl (by decide +kernel : decode cX4_bestParting 38 = .ok (.istore 5, 2)) ?_
    refine r_iload h 0 rfl (by decide +kernel : decode cX4_bestParting 40 = .ok (.iload 5, 2)) ?_
    refine r_iloadn h (q := 2) 3 rfl (by decide +kernel : decode cX4_bestParting 42 = .ok (.iload_n 2, 1)) ?_
    obtain ⟨g1, H⟩ := H
    obtain ⟨H1, H2⟩ := H
    refine r_icmp_ge h 52 gm1 g1 (by decide) (by decide +kernel : decode cX4_bestParting 43 = .ok (.if_icmp .ge 9, 3)) (fun hc => ?_) (fun hc => ?_)
    · have H := H1 hc
      refine r_iinc h (i := 4) (v := 1) (L' := [(4, vi (x4 + 1)), (5, vi (max (M (b + 2) x4.toNat) ((M b 0) - (M (b + 2) x4.toNat)))), (0, vr b), (1, vi x1), (2, vi x2), (3, vi x3)]) 5 rfl (by decide) rfl (by decide +kernel : decode cX4_bestParting 52 = .ok (.iinc 4 1, 3)) ?_
      refine r_goto h 10 (by decide) (by decide +kernel : decode cX4_bestParting 55 = .ok (.goto (-45), 3)) ?_
      refine r_drop h [2, 3, 4, 5, 0] rfl ?_
      exact H
    · have H := H2 hc
      refine r_iload h 0 rfl (by decide +kernel : decode cX4_bestParting 46 = .ok (.iload 5, 2)) ?_
      refine r_istoren h (q := 2) (L' := [(2, vi (max (M (b + 2) x4.toNat) ((M b 0) - (M (b + 2) x4.toNat)))), (5, vi (max (M (b + 2) x4.toNat) ((M b 0) - (M (b + 2) x4.toNat)))), (0, vr b), (1, vi x1), (3, vi x3), (4, vi x4)]) (by decide) rfl (by decide +kernel : decode cX4_bestParting 48 = .ok (.istore_n 2, 1)) ?_
      refine r_iload h 5 rfl (by decide +kernel : decode cX4_bestParting 49 = .ok (.iload 4, 2)) ?_
      refine r_istoren h (q := 3) (L' := [(3, vi x4), (2, vi (max (M (b + 2) x4.toNat) ((M b 0) - (M (b + 2) x4.toNat)))), (5, vi (max (M (b + 2) x4.toNat) ((M b 0) - (M (b + 2) x4.toNat)))), (0, vr b), (1, vi x1), (4, vi x4)]) (by decide) rfl (by decide +kernel : decode cX4_bestParting 51 = .ok (.istore_n 3, 1)) ?_
      refine r_iinc h (i := 4) (v := 1) (L' := [(4, vi (x4 + 1)), (3, vi x4), (2, vi (max (M (b + 2) x4.toNat) ((M b 0) - (M (b + 2) x4.toNat)))), (5, vi (max (M (b + 2) x4.toNat) ((M b 0) - (M (b + 2) x4.toNat)))), (0, vr b), (1, vi x1)]) 5 rfl (by decide) rfl (by decide +kernel : decode cX4_bestParting 52 = .ok (.iinc 4 1, 3)) ?_
      refine r_goto h 10 (by decide) (by decide +kernel : decode cX4_bestParting 55 = .ok (.goto (-45), 3)) ?_
      refine r_drop h [4, 5, 2, 1, 0] rfl ?_
      exact H
set_option maxHeartbeats 4000000 in
set_option maxRecDepth 100000 in
theorem w_Standing_beginAs_0 {P : Mm → Prop} {K : Nat → Rr → Nat → List (Nat × AV) → List AV → Mm → Prop} (h : EK shC yX5_beginAs cX5_beginAs 2 none 2 NN NN (QV RRC P) K) (b : Nat) (hb : At shC NN b (.inl 4)) (b1 : Nat) (hb1 : At shC NN b1 (.inl 5)) (M : Mm)
    (H : ∃ P1 : Mm → Prop, S_State_copyFrom (b + 1) b1 M P1 ∧ ∀ M1 : Mm, P1 M1 → ∀ M2 : Mm, M2 = (upr M1 (b + 6) (up1 (M1 (b + 6)) 3 0)) → ∀ M3 : Mm, M3 = (upr M2 b (up1 (M2 b) 4 0)) → ∀ M4 : Mm, M4 = (upr M3 b (up1 (M3 b) 5 (-1))) → P M4) :
    K NN RRC 0 [(0, vr b), (1, vr b1)] [] M := by
  refine r_aloadn h (q := 0) 0 rfl (by decide +kernel : decode cX5_beginAs 0 = .ok (.aload_n 0, 1)) ?_
  refine r_getR h (r := (b + 1)) f_Standing_12 hb (rr_4_0 hb) (by omega) (by decide +kernel : decode cX5_beginAs 1 = .ok (.getfield 12, 3)) ?_
  refine r_aloadn h (q := 1) 1 rfl (by decide +kernel : decode cX5_beginAs 4 = .ok (.aload_n 1, 1)) ?_
  obtain ⟨P1, hSP1, H⟩ := H
  refine r_callV h (as := [vr b1]) (S := []) (b := (b + 1)) m_Standing_36 hSP1 (by decide) (Nat.le_refl _) rfl (at_4_0 hb) rfl (Nat.le_of_ble_eq_true rfl) (by decide +kernel : decode cX5_beginAs 5 = .ok (.invokevirtual 36, 3)) ?_
  rintro _ _ M1 ⟨rfl, rfl, hP⟩
  have H := H M1 hP
  show K NN RRC _ _ [] _
  refine r_aloadn h (q := 0) 0 rfl (by decide +kernel : decode cX5_beginAs 8 = .ok (.aload_n 0, 1)) ?_
  refine r_getR h (r := (b + 6)) f_Standing_21 hb (rr_4_1 hb) (by omega) (by decide +kernel : decode cX5_beginAs 9 = .ok (.getfield 21, 3)) ?_
  refine r_iconst h (v := 0) (by decide +kernel : decode cX5_beginAs 12 = .ok (.iconst 0, 1)) ?_
  refine r_putI h f_Standing_40 (at_4_1 hb) rfl rfl (by decide +kernel : decode cX5_beginAs 13 = .ok (.putfield 40, 3)) ?_
  have H := H _ rfl
  revert H
  generalize (upr M1 (b + 6) (up1 (M1 (b + 6)) 3 0)) = M2
  intro H
  refine r_aloadn h (q := 0) 0 rfl (by decide +kernel : decode cX5_beginAs 16 = .ok (.aload_n 0, 1)) ?_
  refine r_iconst h (v := 0) (by decide +kernel : decode cX5_beginAs 17 = .ok (.iconst 0, 1)) ?_
  refine r_putI h f_Standing_43 hb rfl rfl (by decide +kernel : decode cX5_beginAs 18 = .ok (.putfield 43, 3)) ?_
  have H := H _ rfl
  revert H
  generalize (upr M2 b (up1 (M2 b) 4 0)) = M3
  intro H
  refine r_aloadn h (q := 0) 0 rfl (by decide +kernel : decode cX5_beginAs 21 = .ok (.aload_n 0, 1)) ?_
  refine r_iconst h (v := (-1)) (by decide +kernel : decode cX5_beginAs 22 = .ok (.iconst (-1), 1)) ?_
  refine r_putI h f_Standing_32 hb rfl rfl (by decide +kernel : decode cX5_beginAs 23 = .ok (.putfield 32, 3)) ?_
  have H := H _ rfl
  revert H
  generalize (upr M3 b (up1 (M3 b) 5 (-1))) = M4
  intro H
  exact r_vret h rfl (by decide +kernel : decode cX5_beginAs 26 = .ok (.return_, 1)) rfl ⟨rfl, rfl, H⟩
theorem W_Standing_beginAs (b : Nat) (hb : At shC NN b (.inl 4)) (b1 : Nat) (hb1 : At shC NN b1 (.inl 5)) (M : Mm) {P : Mm → Prop} (H : ∃ P1 : Mm → Prop, S_State_copyFrom (b + 1) b1 M P1 ∧ ∀ M1 : Mm, P1 M1 → ∀ M2 : Mm, M2 = (upr M1 (b + 6) (up1 (M1 (b + 6)) 3 0)) → ∀ M3 : Mm, M3 = (upr M2 b (up1 (M2 b) 4 0)) → ∀ M4 : Mm, M4 = (upr M3 b (up1 (M3 b) 5 (-1))) → P M4) : S_Standing_beginAs b b1 M P := e_Standing_beginAs b b1 M (fun _ h => w_Standing_beginAs_0 h b hb b1 hb1 M H)
set_option maxHeartbeats 4000000 in
set_option maxRecDepth 100000 in
theorem w_Standing_copyFrom_0 {P : Mm → Prop} {K : Nat → Rr → Nat → List (Nat × AV) → List AV → Mm → Prop} (h : EK shC yX5_copyFrom cX5_copyFrom 2 none 2 NN NN (QV RRC P) K) (b : Nat) (hb : At shC NN b (.inl 4)) (b1 : Nat) (hb1 : At shC NN b1 (.inl 4)) (M : Mm)
    (H : ∃ P1 : Mm → Prop, S_State_copyFrom (b + 1) (b1 + 1) M P1 ∧ ∀ M1 : Mm, P1 M1 → ∃ P2 : Mm → Prop, S_Years_copyFrom (b + 6) (b1 + 6) M1 P2 ∧ ∀ M2 : Mm, P2 M2 → ∀ M3 : Mm, M3 = (upr M2 (b + 10) (cpI (M2 (b1 + 10)) (M2 (b + 10)) 0 0 8)) → ∀ M4 : Mm, M4 = (upr M3 (b + 11) (cpI (M3 (b1 + 11)) (M3 (b + 11)) 0 0 8)) → ∀ M5 : Mm, M5 = (upr M4 b (up1 (M4 b) 4 (M4 b1 4))) → ∀ M6 : Mm, M6 = (upr M5 b (up1 (M5 b) 5 (M5 b1 5))) → P M6) :
    K NN RRC 0 [(0, vr b), (1, vr b1)] [] M := by
  refine r_aloadn h (q := 0) 0 rfl (by decide +kernel : decode cX5_copyFrom 0 = .ok (.aload_n 0, 1)) ?_
  refine r_getR h (r := (b + 1)) f_Standing_12 hb (rr_4_0 hb) (by omega) (by decide +kernel : decode cX5_copyFrom 1 = .ok (.getfield 12, 3)) ?_
  refine r_aloadn h (q := 1) 1 rfl (by decide +kernel : decode cX5_copyFrom 4 = .ok (.aload_n 1, 1)) ?_
  refine r_getR h (r := (b1 + 1)) f_Standing_12 hb1 (rr_4_0 hb1) (by omega) (by decide +kernel : decode cX5_copyFrom 5 = .ok (.getfield 12, 3)) ?_
  obtain ⟨P1, hSP1, H⟩ := H
  refine r_callV h (as := [vr (b1 + 1)]) (S := []) (b := (b + 1)) m_Standing_36 hSP1 (by decide) (Nat.le_refl _) rfl (at_4_0 hb) rfl (Nat.le_of_ble_eq_true rfl) (by decide +kernel : decode cX5_copyFrom 8 = .ok (.invokevirtual 36, 3)) ?_
  rintro _ _ M1 ⟨rfl, rfl, hP⟩
  have H := H M1 hP
  show K NN RRC _ _ [] _
  refine r_aloadn h (q := 0) 0 rfl (by decide +kernel : decode cX5_copyFrom 11 = .ok (.aload_n 0, 1)) ?_
  refine r_getR h (r := (b + 6)) f_Standing_21 hb (rr_4_1 hb) (by omega) (by decide +kernel : decode cX5_copyFrom 12 = .ok (.getfield 21, 3)) ?_
  refine r_aloadn h (q := 1) 1 rfl (by decide +kernel : decode cX5_copyFrom 15 = .ok (.aload_n 1, 1)) ?_
  refine r_getR h (r := (b1 + 6)) f_Standing_21 hb1 (rr_4_1 hb1) (by omega) (by decide +kernel : decode cX5_copyFrom 16 = .ok (.getfield 21, 3)) ?_
  obtain ⟨P2, hSP2, H⟩ := H
  refine r_callV h (as := [vr (b1 + 6)]) (S := []) (b := (b + 6)) m_Standing_46 hSP2 (by decide) (Nat.le_refl _) rfl (at_4_1 hb) rfl (Nat.le_of_ble_eq_true rfl) (by decide +kernel : decode cX5_copyFrom 19 = .ok (.invokevirtual 46, 3)) ?_
  rintro _ _ M2 ⟨rfl, rfl, hP⟩
  have H := H M2 hP
  show K NN RRC _ _ [] _
  refine r_aloadn h (q := 1) 1 rfl (by decide +kernel : decode cX5_copyFrom 22 = .ok (.aload_n 1, 1)) ?_
  refine r_getR h (r := (b1 + 10)) f_Standing_25 hb1 (rr_4_2 hb1) (by omega) (by decide +kernel : decode cX5_copyFrom 23 = .ok (.getfield 25, 3)) ?_
  refine r_iconst h (v := 0) (by decide +kernel : decode cX5_copyFrom 26 = .ok (.iconst 0, 1)) ?_
  refine r_aloadn h (q := 0) 0 rfl (by decide +kernel : decode cX5_copyFrom 27 = .ok (.aload_n 0, 1)) ?_
  refine r_getR h (r := (b + 10)) f_Standing_25 hb (rr_4_2 hb) (by omega) (by decide +kernel : decode cX5_copyFrom 28 = .ok (.getfield 25, 3)) ?_
  refine r_iconst h (v := 0) (by decide +kernel : decode cX5_copyFrom 31 = .ok (.iconst 0, 1)) ?_
  refine r_bipush h (v := 8) (by decide) (by decide +kernel : decode cX5_copyFrom 32 = .ok (.bipush 8, 2)) ?_
  refine r_copyN h (b0 := (b1 + 10)) (b1 := (b + 10)) (w := 8) 8 (at_4_2 hb1) (at_4_2 hb) rfl (by decide) (by decide) (by decide) (by decide) (by decide) kM_copy_Standing (by decide) (Nat.le_of_ble_eq_true rfl) (by decide +kernel : decode cX5_copyFrom 34 = .ok (.invokestatic 49, 3)) ?_
  have H := H _ rfl
  revert H
  generalize (upr M2 (b + 10) (cpI (M2 (b1 + 10)) (M2 (b + 10)) 0 0 8)) = M3
  intro H
  refine r_aloadn h (q := 1) 1 rfl (by decide +kernel : decode cX5_copyFrom 37 = .ok (.aload_n 1, 1)) ?_
  refine r_getR h (r := (b1 + 11)) f_Standing_29 hb1 (rr_4_3 hb1) (by omega) (by decide +kernel : decode cX5_copyFrom 38 = .ok (.getfield 29, 3)) ?_
  refine r_iconst h (v := 0) (by decide +kernel : decode cX5_copyFrom 41 = .ok (.iconst 0, 1)) ?_
  refine r_aloadn h (q := 0) 0 rfl (by decide +kernel : decode cX5_copyFrom 42 = .ok (.aload_n 0, 1)) ?_
  refine r_getR h (r := (b + 11)) f_Standing_29 hb (rr_4_3 hb) (by omega) (by decide +kernel : decode cX5_copyFrom 43 = .ok (.getfield 29, 3)) ?_
  refine r_iconst h (v := 0) (by decide +kernel : decode cX5_copyFrom 46 = .ok (.iconst 0, 1)) ?_
  refine r_bipush h (v := 8) (by decide) (by decide +kernel : decode cX5_copyFrom 47 = .ok (.bipush 8, 2)) ?_
  refine r_copyN h (b0 := (b1 + 11)) (b1 := (b + 11)) (w := 8) 8 (at_4_3 hb1) (at_4_3 hb) rfl (by decide) (by decide) (by decide) (by decide) (by decide) kM_copy_Standing (by decide) (Nat.le_of_ble_eq_true rfl) (by decide +kernel : decode cX5_copyFrom 49 = .ok (.invokestatic 49, 3)) ?_
  have H := H _ rfl
  revert H
  generalize (upr M3 (b + 11) (cpI (M3 (b1 + 11)) (M3 (b + 11)) 0 0 8)) = M4
  intro H
  refine r_aloadn h (q := 0) 0 rfl (by decide +kernel : decode cX5_copyFrom 52 = .ok (.aload_n 0, 1)) ?_
  refine r_aloadn h (q := 1) 1 rfl (by decide +kernel : decode cX5_copyFrom 53 = .ok (.aload_n 1, 1)) ?_
  refine r_getI h f_Standing_43 hb1 (by decide +kernel : decode cX5_copyFrom 54 = .ok (.getfield 43, 3)) ?_
  refine r_putI h f_Standing_43 hb rfl rfl (by decide +kernel : decode cX5_copyFrom 57 = .ok (.putfield 43, 3)) ?_
  have H := H _ rfl
  revert H
  generalize (upr M4 b (up1 (M4 b) 4 (M4 b1 4))) = M5
  intro H
  refine r_aloadn h (q := 0) 0 rfl (by decide +kernel : decode cX5_copyFrom 60 = .ok (.aload_n 0, 1)) ?_
  refine r_aloadn h (q := 1) 1 rfl (by decide +kernel : decode cX5_copyFrom 61 = .ok (.aload_n 1, 1)) ?_
  refine r_getI h f_Standing_32 hb1 (by decide +kernel : decode cX5_copyFrom 62 = .ok (.getfield 32, 3)) ?_
  refine r_putI h f_Standing_32 hb rfl rfl (by decide +kernel : decode cX5_copyFrom 65 = .ok (.putfield 32, 3)) ?_
  have H := H _ rfl
  revert H
  generalize (upr M5 b (up1 (M5 b) 5 (M5 b1 5))) = M6
  intro H
  exact r_vret h rfl (by decide +kernel : decode cX5_copyFrom 68 = .ok (.return_, 1)) rfl ⟨rfl, rfl, H⟩
theorem W_Standing_copyFrom (b : Nat) (hb : At shC NN b (.inl 4)) (b1 : Nat) (hb1 : At shC NN b1 (.inl 4)) (M : Mm) {P : Mm → Prop} (H : ∃ P1 : Mm → Prop, S_State_copyFrom (b + 1) (b1 + 1) M P1 ∧ ∀ M1 : Mm, P1 M1 → ∃ P2 : Mm → Prop, S_Years_copyFrom (b + 6) (b1 + 6) M1 P2 ∧ ∀ M2 : Mm, P2 M2 → ∀ M3 : Mm, M3 = (upr M2 (b + 10) (cpI (M2 (b1 + 10)) (M2 (b + 10)) 0 0 8)) → ∀ M4 : Mm, M4 = (upr M3 (b + 11) (cpI (M3 (b1 + 11)) (M3 (b + 11)) 0 0 8)) → ∀ M5 : Mm, M5 = (upr M4 b (up1 (M4 b) 4 (M4 b1 4))) → ∀ M6 : Mm, M6 = (upr M5 b (up1 (M5 b) 5 (M5 b1 5))) → P M6) : S_Standing_copyFrom b b1 M P := e_Standing_copyFrom b b1 M (fun _ h => w_Standing_copyFrom_0 h b hb b1 hb1 M H)
set_option maxHeartbeats 4000000 in
set_option maxRecDepth 100000 in
theorem w_State_nextAhead_0 {P : Int → Mm → Prop} {K : Nat → Rr → Nat → List (Nat × AV) → List AV → Mm → Prop} (h : EK shC yX6_nextAhead cX6_nextAhead 5 (some .int) 2 NN NN (QI RRC P) K) (b : Nat) (hb : At shC NN b (.inl 5)) (b1 : Nat) (hb1 : At shC NN b1 (.inl 7)) (x2 : Int) (M : Mm)
    (H : K NN RRC 5 [(0, vr b), (1, vr b1), (2, vi x2), (3, vi (-1)), (4, vi 0)] [] M) :
    K NN RRC 0 [(0, vr b), (1, vr b1), (2, vi x2)] [] M := by
  refine r_iconst h (v := (-1)) (by decide +kernel : decode cX6_nextAhead 0 = .ok (.iconst (-1), 1)) ?_
  refine r_istoren h (q := 3) (L' := [(3, vi (-1)), (0, vr b), (1, vr b1), (2, vi x2)]) (by decide) rfl (by decide +kernel : decode cX6_nextAhead 1 = .ok (.istore_n 3, 1)) ?_
  refine r_iconst h (v := 0) (by decide +kernel : decode cX6_nextAhead 2 = .ok (.iconst 0, 1)) ?_
  refine r_istore h (L' := [(4, vi 0), (3, vi (-1)), (0, vr b), (1, vr b1), (2, vi x2)]) (by decide) rfl (by decide +kernel : decode cX6_nextAhead 3 = .ok (.istore 4, 2)) ?_
  refine r_drop h [2, 3, 4, 1, 0] rfl ?_
  exact H
set_option maxHeartbeats 4000000 in
set_option maxRecDepth 100000 in
theorem w_State_nextAhead_5 {P : Int → Mm → Prop} {K : Nat → Rr → Nat → List (Nat × AV) → List AV → Mm → Prop} (h : EK shC yX6_nextAhead cX6_nextAhead 5 (some .int) 2 NN NN (QI RRC P) K) (b : Nat) (hb : At shC NN b (.inl 5)) (b1 : Nat) (hb1 : At shC NN b1 (.inl 7)) (x2 : Int) (x3 : Int) (x4 : Int) (M : Mm)
    (H : (rng x4) ∧ (rng (M b1 9)) ∧ ((M b1 9) ≤ x4 → (P x3 M)) ∧ (¬ ((M b1 9) ≤ x4) → ((0 ≤ x4 ∧ x4 < 7) ∧ (rng (M (b + 4) x4.toNat)) ∧ (rng x2) ∧ ((M (b + 4) x4.toNat) = x2 → (P x3 M)) ∧ ((M (b + 4) x4.toNat) ≠ x2 → ((0 ≤ x4 ∧ x4 < 7) ∧ ∃ P1 : Int → Mm → Prop, S_State_goes b (M (b + 4) x4.toNat) M P1 ∧ ∀ (r1 : Int) (M1 : Mm), P1 r1 M1 → (rng r1) ∧ (r1 = 0 → (K NN RRC 5 [(0, vr b), (1, vr b1), (2, vi x2), (3, vi x3), (4, vi (x4 + 1))] [] M1)) ∧ (r1 ≠ 0 → ((0 ≤ x4 ∧ x4 < 7) ∧ ∃ P2 : Int → Mm → Prop, S_Town_isCat b1 (M1 (b + 4) x4.toNat) M1 P2 ∧ ∀ (r2 : Int) (M2 : Mm), P2 r2 M2 → (rng r2) ∧ (r2 ≠ 0 → (K NN RRC 5 [(0, vr b), (1, vr b1), (2, vi x2), (3, vi x3), (4, vi (x4 + 1))] [] M2)) ∧ (r2 = 0 → ((0 ≤ x4 ∧ x4 < 7) ∧ K NN RRC 5 [(0, vr b), (1, vr b1), (2, vi x2), (3, vi (M2 (b + 4) x4.toNat)), (4, vi (x4 + 1))] [] M2))))))))) :
    K NN RRC 5 [(0, vr b), (1, vr b1), (2, vi x2), (3, vi x3), (4, vi x4)] [] M := by
  refine r_iload h 4 rfl (by decide +kernel : decode cX6_nextAhead 5 = .ok (.iload 4, 2)) ?_
  refine r_aloadn h (q := 1) 1 rfl (by decide +kernel : decode cX6_nextAhead 7 = .ok (.aload_n 1, 1)) ?_
  refine r_getI h f_State_51 hb1 (by decide +kernel : decode cX6_nextAhead 8 = .ok (.getfield 51, 3)) ?_
  obtain ⟨g1, g2, H⟩ := H
  obtain ⟨H1, H2⟩ := H
  refine r_icmp_ge h 67 g1 g2 (by decide) (by decide +kernel : decode cX6_nextAhead 11 = .ok (.if_icmp .ge 56, 3)) (fun hc => ?_) (fun hc => ?_)
  · have H := H1 hc
    refine r_iloadn h (q := 3) 3 rfl (by decide +kernel : decode cX6_nextAhead 67 = .ok (.iload_n 3, 1)) ?_
    exact r_iret h rfl (by decide +kernel : decode cX6_nextAhead 68 = .ok (.ireturn, 1)) rfl ⟨rfl, _, rfl, H⟩
  · have H := H2 hc
    refine r_aloadn h (q := 0) 0 rfl (by decide +kernel : decode cX6_nextAhead 14 = .ok (.aload_n 0, 1)) ?_
    refine r_getR h (r := (b + 4)) f_State_21 hb (rr_5_3 hb) (by omega) (by decide +kernel : decode cX6_nextAhead 15 = .ok (.getfield 21, 3)) ?_
    refine r_iload h 4 rfl (by decide +kernel : decode cX6_nextAhead 18 = .ok (.iload 4, 2)) ?_
    obtain ⟨g1, H⟩ := H
    refine r_iald h x4.toNat rfl (at_5_3 hb) g1 (by decide) (by decide +kernel : decode cX6_nextAhead 20 = .ok (.iaload, 1)) ?_
    refine r_iloadn h (q := 2) 2 rfl (by decide +kernel : decode cX6_nextAhead 21 = .ok (.iload_n 2, 1)) ?_
    obtain ⟨g1, g2, H⟩ := H
    obtain ⟨H1, H2⟩ := H
    refine r_icmp_eq h 67 g1 g2 (by decide) (by decide +kernel : decode cX6_nextAhead 22 = .ok (.if_icmp .eq 45, 3)) (fun hc => ?_) (fun hc => ?_)
    · have H := H1 hc
      refine r_iloadn h (q := 3) 3 rfl (by decide +kernel : decode cX6_nextAhead 67 = .ok (.iload_n 3, 1)) ?_
      exact r_iret h rfl (by decide +kernel : decode cX6_nextAhead 68 = .ok (.ireturn, 1)) rfl ⟨rfl, _, rfl, H⟩
    · have H := H2 hc
      refine r_aloadn h (q := 0) 0 rfl (by decide +kernel : decode cX6_nextAhead 25 = .ok (.aload_n 0, 1)) ?_
      refine r_aloadn h (q := 0) 0 rfl (by decide +kernel : decode cX6_nextAhead 26 = .ok (.aload_n 0, 1)) ?_
      refine r_getR h (r := (b + 4)) f_State_21 hb (rr_5_3 hb) (by omega) (by decide +kernel : decode cX6_nextAhead 27 = .ok (.getfield 21, 3)) ?_
      refine r_iload h 4 rfl (by decide +kernel : decode cX6_nextAhead 30 = .ok (.iload 4, 2)) ?_
      obtain ⟨g1, H⟩ := H
      refine r_iald h x4.toNat rfl (at_5_3 hb) g1 (by decide) (by decide +kernel : decode cX6_nextAhead 32 = .ok (.iaload, 1)) ?_
      obtain ⟨P1, hSP1, H⟩ := H
      refine r_callV h (as := [vi (M (b + 4) x4.toNat)]) (S := []) (b := b) m_State_54 hSP1 (by decide) (Nat.le_refl _) rfl hb rfl (Nat.le_of_ble_eq_true rfl) (by decide +kernel : decode cX6_nextAhead 33 = .ok (.invokevirtual 54, 3)) ?_
      rintro _ _ M1 ⟨rfl, r1, rfl, hP⟩
      have H := H r1 M1 hP
      show K NN RRC _ _ [vi r1] _
      obtain ⟨g1, H⟩ := H
      obtain ⟨H1, H2⟩ := H
      refine r_if_eq h 61 g1 (by decide) (by decide +kernel : decode cX6_nextAhead 36 = .ok (.ifCond .eq 25, 3)) (fun hc => ?_) (fun hc => ?_)
      · have H := H1 hc
        refine r_iinc h (i := 4) (v := 1) (L' := [(4, vi (x4 + 1)), (0, vr b), (1, vr b1), (2, vi x2), (3, vi x3)]) 4 rfl (by decide) rfl (by decide +kernel : decode cX6_nextAhead 61 = .ok (.iinc 4 1, 3)) ?_
        refine r_goto h 5 (by decide) (by decide +kernel : decode cX6_nextAhead 64 = .ok (.goto (-59), 3)) ?_
        refine r_drop h [1, 2, 3, 4, 0] rfl ?_
        exact H
      · have H := H2 hc
        refine r_aloadn h (q := 1) 1 rfl (by decide +kernel : decode cX6_nextAhead 39 = .ok (.aload_n 1, 1)) ?_
        refine r_aloadn h (q := 0) 0 rfl (by decide +kernel : decode cX6_nextAhead 40 = .ok (.aload_n 0, 1)) ?_
        refine r_getR h (r := (b + 4)) f_State_21 hb (rr_5_3 hb) (by omega) (by decide +kernel : decode cX6_nextAhead 41 = .ok (.getfield 21, 3)) ?_
        refine r_iload h 4 rfl (by decide +kernel : decode cX6_nextAhead 44 = .ok (.iload 4, 2)) ?_
        obtain ⟨g1, H⟩ := H
        refine r_iald h x4.toNat rfl (at_5_3 hb) g1 (by decide) (by decide +kernel : decode cX6_nextAhead 46 = .ok (.iaload, 1)) ?_
        obtain ⟨P2, hSP2, H⟩ := H
        refine r_callV h (as := [vi (M1 (b + 4) x4.toNat)]) (S := []) (b := b1) m_State_58 hSP2 (by decide) (Nat.le_refl _) rfl hb1 rfl (Nat.le_of_ble_eq_true rfl) (by decide +kernel : decode cX6_nextAhead 47 = .ok (.invokevirtual 58, 3)) ?_
        rintro _ _ M2 ⟨rfl, r2, rfl, hP⟩
        have H := H r2 M2 hP
        show K NN RRC _ _ [vi r2] _
        obtain ⟨g1, H⟩ := H
        obtain ⟨H1, H2⟩ := H
        refine r_if_ne h 61 g1 (by decide) (by decide +kernel : decode cX6_nextAhead 50 = .ok (.ifCond .ne 11, 3)) (fun hc => ?_) (fun hc => ?_)
        · have H := H1 hc
          refine r_iinc h (i := 4) (v := 1) (L' := [(4, vi (x4 + 1)), (0, vr b), (1, vr b1), (2, vi x2), (3, vi x3)]) 4 rfl (by decide) rfl (by decide +kernel : decode cX6_nextAhead 61 = .ok (.iinc 4 1, 3)) ?_
          refine r_goto h 5 (by decide) (by decide +kernel : decode cX6_nextAhead 64 = .ok (.goto (-59), 3)) ?_
          refine r_drop h [1, 2, 3, 4, 0] rfl ?_
          exact H
        · have H := H2 hc
          refine r_aloadn h (q := 0) 0 rfl (by decide +kernel : decode cX6_nextAhead 53 = .ok (.aload_n 0, 1)) ?_
          refine r_getR h (r := (b + 4)) f_State_21 hb (rr_5_3 hb) (by omega) (by decide +kernel : decode cX6_nextAhead 54 = .ok (.getfield 21, 3)) ?_
          refine r_iload h 4 rfl (by decide +kernel : decode cX6_nextAhead 57 = .ok (.iload 4, 2)) ?_
          obtain ⟨g1, H⟩ := H
          refine r_iald h x4.toNat rfl (at_5_3 hb) g1 (by decide) (by decide +kernel : decode cX6_nextAhead 59 = .ok (.iaload, 1)) ?_
          refine r_istoren h (q := 3) (L' := [(3, vi (M2 (b + 4) x4.toNat)), (0, vr b), (1, vr b1), (2, vi x2), (4, vi x4)]) (by decide) rfl (by decide +kernel : decode cX6_nextAhead 60 = .ok (.istore_n 3, 1)) ?_
          refine r_iinc h (i := 4) (v := 1) (L' := [(4, vi (x4 + 1)), (3, vi (M2 (b + 4) x4.toNat)), (0, vr b), (1, vr b1), (2, vi x2)]) 4 rfl (by decide) rfl (by decide +kernel : decode cX6_nextAhead 61 = .ok (.iinc 4 1, 3)) ?_
          refine r_goto h 5 (by decide) (by decide +kernel : decode cX6_nextAhead 64 = .ok (.goto (-59), 3)) ?_
          refine r_drop h [2, 3, 4, 1, 0] rfl ?_
          exact H
set_option maxHeartbeats 4000000 in
set_option maxRecDepth 100000 in
theorem w_State_shunnedBy_0 {P : Int → Mm → Prop} {K : Nat → Rr → Nat → List (Nat × AV) → List AV → Mm → Prop} (h : EK shC yX6_shunnedBy cX6_shunnedBy 6 (some .int) 2 NN NN (QI RRC P) K) (b : Nat) (hb : At shC NN b (.inl 5)) (b1 : Nat) (hb1 : At shC NN b1 (.inl 7)) (M : Mm)
    (H : K NN RRC 7 [(0, vr b), (1, vr b1), (2, vi 0), (3, vi (-1)), (4, vi 0)] [] M) :
    K NN RRC 0 [(0, vr b), (1, vr b1)] [] M := by
  refine r_iconst h (v := 0) (by decide +kernel : decode cX6_shunnedBy 0 = .ok (.iconst 0, 1)) ?_
  refine r_istoren h (q := 2) (L' := [(2, vi 0), (0, vr b), (1, vr b1)]) (by decide) rfl (by decide +kernel : decode cX6_shunnedBy 1 = .ok (.istore_n 2, 1)) ?_
  refine r_iconst h (v := (-1)) (by decide +kernel : decode cX6_shunnedBy 2 = .ok (.iconst (-1), 1)) ?_
  refine r_istoren h (q := 3) (L' := [(3, vi (-1)), (2, vi 0), (0, vr b), (1, vr b1)]) (by decide) rfl (by decide +kernel : decode cX6_shunnedBy 3 = .ok (.istore_n 3, 1)) ?_
  refine r_iconst h (v := 0) (by decide +kernel : decode cX6_shunnedBy 4 = .ok (.iconst 0, 1)) ?_
  refine r_istore h (L' := [(4, vi 0), (3, vi (-1)), (2, vi 0), (0, vr b), (1, vr b1)]) (by decide) rfl (by decide +kernel : decode cX6_shunnedBy 5 = .ok (.istore 4, 2)) ?_
  refine r_drop h [3, 4, 2, 1, 0] rfl ?_
  exact H
set_option maxHeartbeats 4000000 in
set_option maxRecDepth 100000 in
theorem w_State_shunnedBy_7 {P : Int → Mm → Prop} {K : Nat → Rr → Nat → List (Nat × AV) → List AV → Mm → Prop} (h : EK shC yX6_shunnedBy cX6_shunnedBy 6 (some .int) 2 NN NN (QI RRC P) K) (b : Nat) (hb : At shC NN b (.inl 5)) (b1 : Nat) (hb1 : At shC NN b1 (.inl 7)) (x2 : Int) (x3 : Int) (x4 : Int) (M : Mm)
    (H : (rng x4) ∧ (rng (M b1 9)) ∧ ((M b1 9) ≤ x4 → (P x2 M)) ∧ (¬ ((M b1 9) ≤ x4) → ((0 ≤ x4 ∧ x4 < 7) ∧ ∃ P1 : Int → Mm → Prop, S_State_goes b (M (b + 4) x4.toNat) M P1 ∧ ∀ (r1 : Int) (M1 : Mm), P1 r1 M1 → (rng r1) ∧ (r1 = 0 → (K NN RRC 7 [(0, vr b), (1, vr b1), (2, vi x2), (3, vi x3), (4, vi (x4 + 1))] [] M1)) ∧ (r1 ≠ 0 → ((rng x3) ∧ (x3 = (-1) → (K NN RRC 55 [(0, vr b), (1, vr b1), (3, vi x3), (4, vi x4), (5, vi (M (b + 4) x4.toNat))] [vi 0, vi x2] M1)) ∧ (x3 ≠ (-1) → (∃ P2 : Int → Mm → Prop, S_Town_doesShun b1 (M (b + 4) x4.toNat) x3 M1 P2 ∧ ∀ (r2 : Int) (M2 : Mm), P2 r2 M2 → (rng r2) ∧ (r2 = 0 → (K NN RRC 55 [(0, vr b), (1, vr b1), (3, vi x3), (4, vi x4), (5, vi (M (b + 4) x4.toNat))] [vi 0, vi x2] M2)) ∧ (r2 ≠ 0 → (K NN RRC 55 [(0, vr b), (1, vr b1), (3, vi x3), (4, vi x4), (5, vi (M (b + 4) x4.toNat))] [vi 1, vi x2] M2))))))))) :
    K NN RRC 7 [(0, vr b), (1, vr b1), (2, vi x2), (3, vi x3), (4, vi x4)] [] M := by
  refine r_iload h 4 rfl (by decide +kernel : decode cX6_shunnedBy 7 = .ok (.iload 4, 2)) ?_
  refine r_aloadn h (q := 1) 1 rfl (by decide +kernel : decode cX6_shunnedBy 9 = .ok (.aload_n 1, 1)) ?_
  refine r_getI h f_State_51 hb1 (by decide +kernel : decode cX6_shunnedBy 10 = .ok (.getfield 51, 3)) ?_
  obtain ⟨g1, g2, H⟩ := H
  obtain ⟨H1, H2⟩ := H
  refine r_icmp_ge h 79 g1 g2 (by decide) (by decide +kernel : decode cX6_shunnedBy 13 = .ok (.if_icmp .ge 66, 3)) (fun hc => ?_) (fun hc => ?_)
  · have H := H1 hc
    refine r_iloadn h (q := 2) 2 rfl (by decide +kernel : decode cX6_shunnedBy 79 = .ok (.iload_n 2, 1)) ?_
    exact r_iret h rfl (by decide +kernel : decode cX6_shunnedBy 80 = .ok (.ireturn, 1)) rfl ⟨rfl, _, rfl, H⟩
  · have H := H2 hc
    refine r_aloadn h (q := 0) 0 rfl (by decide +kernel : decode cX6_shunnedBy 16 = .ok (.aload_n 0, 1)) ?_
    refine r_getR h (r := (b + 4)) f_State_21 hb (rr_5_3 hb) (by omega) (by decide +kernel : decode cX6_shunnedBy 17 = .ok (.getfield 21, 3)) ?_
    refine r_iload h 4 rfl (by decide +kernel : decode cX6_shunnedBy 20 = .ok (.iload 4, 2)) ?_
    obtain ⟨g1, H⟩ := H
    refine r_iald h x4.toNat rfl (at_5_3 hb) g1 (by decide) (by decide +kernel : decode cX6_shunnedBy 22 = .ok (.iaload, 1)) ?_
    refine r_istore h (L' := [(5, vi (M (b + 4) x4.toNat)), (0, vr b), (1, vr b1), (2, vi x2), (3, vi x3), (4, vi x4)]) (by decide) rfl (by decide +kernel : decode cX6_shunnedBy 23 = .ok (.istore 5, 2)) ?_
    refine r_aloadn h (q := 0) 1 rfl (by decide +kernel : decode cX6_shunnedBy 25 = .ok (.aload_n 0, 1)) ?_
    refine r_iload h 0 rfl (by decide +kernel : decode cX6_shunnedBy 26 = .ok (.iload 5, 2)) ?_
    obtain ⟨P1, hSP1, H⟩ := H
    refine r_callV h (as := [vi (M (b + 4) x4.toNat)]) (S := []) (b := b) m_State_54 hSP1 (by decide) (Nat.le_refl _) rfl hb rfl (Nat.le_of_ble_eq_true rfl) (by decide +kernel : decode cX6_shunnedBy 28 = .ok (.invokevirtual 54, 3)) ?_
    rintro _ _ M1 ⟨rfl, r1, rfl, hP⟩
    have H := H r1 M1 hP
    show K NN RRC _ _ [vi r1] _
    obtain ⟨g1, H⟩ := H
    obtain ⟨H1, H2⟩ := H
    refine r_if_eq h 73 g1 (by decide) (by decide +kernel : decode cX6_shunnedBy 31 = .ok (.ifCond .eq 42, 3)) (fun hc => ?_) (fun hc => ?_)
    · have H := H1 hc
      refine r_iinc h (i := 4) (v := 1) (L' := [(4, vi (x4 + 1)), (5, vi (M (b + 4) x4.toNat)), (0, vr b), (1, vr b1), (2, vi x2), (3, vi x3)]) 5 rfl (by decide) rfl (by decide +kernel : decode cX6_shunnedBy 73 = .ok (.iinc 4 1, 3)) ?_
      refine r_goto h 7 (by decide) (by decide +kernel : decode cX6_shunnedBy 76 = .ok (.goto (-69), 3)) ?_
      refine r_drop h [2, 3, 4, 5, 0] rfl ?_
      exact H
    · have H := H2 hc
      refine r_iloadn h (q := 2) 3 rfl (by decide +kernel : decode cX6_shunnedBy 34 = .ok (.iload_n 2, 1)) ?_
      refine r_iloadn h (q := 3) 4 rfl (by decide +kernel : decode cX6_shunnedBy 35 = .ok (.iload_n 3, 1)) ?_
      refine r_iconst h (v := (-1)) (by decide +kernel : decode cX6_shunnedBy 36 = .ok (.iconst (-1), 1)) ?_
      obtain ⟨g1, H⟩ := H
      obtain ⟨H1, H2⟩ := H
      refine r_icmp_eq h 54 g1 (by decide) (by decide) (by decide +kernel : decode cX6_shunnedBy 37 = .ok (.if_icmp .eq 17, 3)) (fun hc => ?_) (fun hc => ?_)
      · have H := H1 hc
        refine r_iconst h (v := 0) (by decide +kernel : decode cX6_shunnedBy 54 = .ok (.iconst 0, 1)) ?_
        refine r_drop h [1, 2, 4, 5, 0] rfl ?_
        exact H
      · have H := H2 hc
        refine r_aloadn h (q := 1) 2 rfl (by decide +kernel : decode cX6_shunnedBy 40 = .ok (.aload_n 1, 1)) ?_
        refine r_iload h 0 rfl (by decide +kernel : decode cX6_shunnedBy 41 = .ok (.iload 5, 2)) ?_
        refine r_iloadn h (q := 3) 4 rfl (by decide +kernel : decode cX6_shunnedBy 43 = .ok (.iload_n 3, 1)) ?_
        obtain ⟨P2, hSP2, H⟩ := H
        refine r_callV h (as := [vi (M (b + 4) x4.toNat), vi x3]) (S := [vi x2]) (b := b1) m_State_61 hSP2 (by decide) (Nat.le_refl _) rfl hb1 rfl (Nat.le_of_ble_eq_true rfl) (by decide +kernel : decode cX6_shunnedBy 44 = .ok (.invokevirtual 61, 3)) ?_
        rintro _ _ M2 ⟨rfl, r2, rfl, hP⟩
        have H := H r2 M2 hP
        show K NN RRC _ _ [vi r2, vi x2] _
        obtain ⟨g1, H⟩ := H
        obtain ⟨H1, H2⟩ := H
        refine r_if_eq h 54 g1 (by decide) (by decide +kernel : decode cX6_shunnedBy 47 = .ok (.ifCond .eq 7, 3)) (fun hc => ?_) (fun hc => ?_)
        · have H := H1 hc
          refine r_iconst h (v := 0) (by decide +kernel : decode cX6_shunnedBy 54 = .ok (.iconst 0, 1)) ?_
          refine r_drop h [1, 2, 4, 5, 0] rfl ?_
          exact H
        · have H := H2 hc
          refine r_iconst h (v := 1) (by decide +kernel : decode cX6_shunnedBy 50 = .ok (.iconst 1, 1)) ?_
          refine r_goto h 55 (by decide) (by decide +kernel : decode cX6_shunnedBy 51 = .ok (.goto 4, 3)) ?_
          refine r_drop h [1, 2, 4, 5, 0] rfl ?_
          exact H
set_option maxHeartbeats 4000000 in
set_option maxRecDepth 100000 in
theorem w_State_shunnedBy_55 {P : Int → Mm → Prop} {K : Nat → Rr → Nat → List (Nat × AV) → List AV → Mm → Prop} (h : EK shC yX6_shunnedBy cX6_shunnedBy 6 (some .int) 2 NN NN (QI RRC P) K) (b : Nat) (hb : At shC NN b (.inl 5)) (b1 : Nat) (hb1 : At shC NN b1 (.inl 7)) (x3 : Int) (x4 : Int) (x5 : Int) (s0 : Int) (s1 : Int) (M : Mm)
    (H : ∃ P1 : Int → Mm → Prop, S_Town_isCat b1 x5 M P1 ∧ ∀ (r1 : Int) (M1 : Mm), P1 r1 M1 → (rng r1) ∧ (r1 = 0 → (K NN RRC 7 [(0, vr b), (1, vr b1), (2, vi (s1 + s0)), (3, vi x5), (4, vi (x4 + 1))] [] M1)) ∧ (r1 ≠ 0 → (K NN RRC 7 [(0, vr b), (1, vr b1), (2, vi (s1 + s0)), (3, vi x3), (4, vi (x4 + 1))] [] M1))) :
    K NN RRC 55 [(0, vr b), (1, vr b1), (3, vi x3), (4, vi x4), (5, vi x5)] [vi s0, vi s1] M := by
  refine r_iadd h (by decide +kernel : decode cX6_shunnedBy 55 = .ok (.iadd, 1)) ?_
  refine r_istoren h (q := 2) (L' := [(2, vi (s1 + s0)), (0, vr b), (1, vr b1), (3, vi x3), (4, vi x4), (5, vi x5)]) (by decide) rfl (by decide +kernel : decode cX6_shunnedBy 56 = .ok (.istore_n 2, 1)) ?_
  refine r_aloadn h (q := 1) 2 rfl (by decide +kernel : decode cX6_shunnedBy 57 = .ok (.aload_n 1, 1)) ?_
  refine r_iload h 5 rfl (by decide +kernel : decode cX6_shunnedBy 58 = .ok (.iload 5, 2)) ?_
  obtain ⟨P1, hSP1, H⟩ := H
  refine r_callV h (as := [vi x5]) (S := []) (b := b1) m_State_58 hSP1 (by decide) (Nat.le_refl _) rfl hb1 rfl (Nat.le_of_ble_eq_true rfl) (by decide +kernel : decode cX6_shunnedBy 60 = .ok (.invokevirtual 58, 3)) ?_
  rintro _ _ M1 ⟨rfl, r1, rfl, hP⟩
  have H := H r1 M1 hP
  show K NN RRC _ _ [vi r1] _
  obtain ⟨g1, H⟩ := H
  obtain ⟨H1, H2⟩ := H
  refine r_if_eq h 70 g1 (by decide) (by decide +kernel : decode cX6_shunnedBy 63 = .ok (.ifCond .eq 7, 3)) (fun hc => ?_) (fun hc => ?_)
  · have H := H1 hc
    refine r_iload h 5 rfl (by decide +kernel : decode cX6_shunnedBy 70 = .ok (.iload 5, 2)) ?_
    refine r_istoren h (q := 3) (L' := [(3, vi x5), (2, vi (s1 + s0)), (0, vr b), (1, vr b1), (4, vi x4), (5, vi x5)]) (by decide) rfl (by decide +kernel : decode cX6_shunnedBy 72 = .ok (.istore_n 3, 1)) ?_
    refine r_iinc h (i := 4) (v := 1) (L' := [(4, vi (x4 + 1)), (3, vi x5), (2, vi (s1 + s0)), (0, vr b), (1, vr b1), (5, vi x5)]) 4 rfl (by decide) rfl (by decide +kernel : decode cX6_shunnedBy 73 = .ok (.iinc 4 1, 3)) ?_
    refine r_goto h 7 (by decide) (by decide +kernel : decode cX6_shunnedBy 76 = .ok (.goto (-69), 3)) ?_
    refine r_drop h [3, 4, 2, 1, 0] rfl ?_
    exact H
  · have H := H2 hc
    refine r_iloadn h (q := 3) 3 rfl (by decide +kernel : decode cX6_shunnedBy 66 = .ok (.iload_n 3, 1)) ?_
    refine r_goto h 72 (by decide) (by decide +kernel : decode cX6_shunnedBy 67 = .ok (.goto 5, 3)) ?_
    refine r_istoren h (q := 3) (L' := [(3, vi x3), (2, vi (s1 + s0)), (0, vr b), (1, vr b1), (4, vi x4), (5, vi x5)]) (by decide) rfl (by decide +kernel : decode cX6_shunnedBy 72 = .ok (.istore_n 3, 1)) ?_
    refine r_iinc h (i := 4) (v := 1) (L' := [(4, vi (x4 + 1)), (3, vi x3), (2, vi (s1 + s0)), (0, vr b), (1, vr b1), (5, vi x5)]) 4 rfl (by decide) rfl (by decide +kernel : decode cX6_shunnedBy 73 = .ok (.iinc 4 1, 3)) ?_
    refine r_goto h 7 (by decide) (by decide +kernel : decode cX6_shunnedBy 76 = .ok (.goto (-69), 3)) ?_
    refine r_drop h [3, 4, 2, 1, 0] rfl ?_
    exact H
set_option maxHeartbeats 4000000 in
set_option maxRecDepth 100000 in
theorem w_State_moveTo_0 {P : Int → Mm → Prop} {K : Nat → Rr → Nat → List (Nat × AV) → List AV → Mm → Prop} (h : EK shC yX6_moveTo cX6_moveTo 6 (some .boolean) 2 NN NN (QI RRC P) K) (b : Nat) (hb : At shC NN b (.inl 5)) (x1 : Int) (x2 : Int) (x3 : Int) (M : Mm)
    (H : ∃ P1 : Int → Mm → Prop, S_State_placeOf b x1 x3 M P1 ∧ ∀ (r1 : Int) (M1 : Mm), P1 r1 M1 → (rng r1) ∧ (r1 = (-1) → (P 0 M1)) ∧ (r1 ≠ (-1) → ((rng x2) ∧ (x2 < 0 → (P 0 M1)) ∧ (¬ (x2 < 0) → ((rng x2) ∧ (rng x3) ∧ (x2 < x3 → (K NN RRC 29 [(0, vr b), (1, vi x1), (2, vi x2), (4, vi r1), (5, vi r1)] [] M1)) ∧ (¬ (x2 < x3) → (P 0 M1))))))) :
    K NN RRC 0 [(0, vr b), (1, vi x1), (2, vi x2), (3, vi x3)] [] M := by
  refine r_aloadn h (q := 0) 0 rfl (by decide +kernel : decode cX6_moveTo 0 = .ok (.aload_n 0, 1)) ?_
  refine r_iloadn h (q := 1) 1 rfl (by decide +kernel : decode cX6_moveTo 1 = .ok (.iload_n 1, 1)) ?_
  refine r_iloadn h (q := 3) 3 rfl (by decide +kernel : decode cX6_moveTo 2 = .ok (.iload_n 3, 1)) ?_
  obtain ⟨P1, hSP1, H⟩ := H
  refine r_callV h (as := [vi x1, vi x3]) (S := []) (b := b) m_State_65 hSP1 (by decide) (Nat.le_refl _) rfl hb rfl (Nat.le_of_ble_eq_true rfl) (by decide +kernel : decode cX6_moveTo 3 = .ok (.invokevirtual 65, 3)) ?_
  rintro _ _ M1 ⟨rfl, r1, rfl, hP⟩
  have H := H r1 M1 hP
  show K NN RRC _ _ [vi r1] _
  refine r_istore h (L' := [(4, vi r1), (0, vr b), (1, vi x1), (2, vi x2), (3, vi x3)]) (by decide) rfl (by decide +kernel : decode cX6_moveTo 6 = .ok (.istore 4, 2)) ?_
  refine r_iload h 0 rfl (by decide +kernel : decode cX6_moveTo 8 = .ok (.iload 4, 2)) ?_
  refine r_iconst h (v := (-1)) (by decide +kernel : decode cX6_moveTo 10 = .ok (.iconst (-1), 1)) ?_
  obtain ⟨g1, H⟩ := H
  obtain ⟨H1, H2⟩ := H
  refine r_icmp_eq h 23 g1 (by decide) (by decide) (by decide +kernel : decode cX6_moveTo 11 = .ok (.if_icmp .eq 12, 3)) (fun hc => ?_) (fun hc => ?_)
  · have H := H1 hc
    refine r_iconst h (v := 0) (by decide +kernel : decode cX6_moveTo 23 = .ok (.iconst 0, 1)) ?_
    exact r_zret h rfl (by decide) (by decide +kernel : decode cX6_moveTo 24 = .ok (.ireturn, 1)) rfl ⟨rfl, _, rfl, H⟩
  · have H := H2 hc
    refine r_iloadn h (q := 2) 3 rfl (by decide +kernel : decode cX6_moveTo 14 = .ok (.iload_n 2, 1)) ?_
    obtain ⟨g1, H⟩ := H
    obtain ⟨H1, H2⟩ := H
    refine r_if_lt h 23 g1 (by decide) (by decide +kernel : decode cX6_moveTo 15 = .ok (.ifCond .lt 8, 3)) (fun hc => ?_) (fun hc => ?_)
    · have H := H1 hc
      refine r_iconst h (v := 0) (by decide +kernel : decode cX6_moveTo 23 = .ok (.iconst 0, 1)) ?_
      exact r_zret h rfl (by decide) (by decide +kernel : decode cX6_moveTo 24 = .ok (.ireturn, 1)) rfl ⟨rfl, _, rfl, H⟩
    · have H := H2 hc
      refine r_iloadn h (q := 2) 3 rfl (by decide +kernel : decode cX6_moveTo 18 = .ok (.iload_n 2, 1)) ?_
      refine r_iloadn h (q := 3) 4 rfl (by decide +kernel : decode cX6_moveTo 19 = .ok (.iload_n 3, 1)) ?_
      obtain ⟨g1, g2, H⟩ := H
      obtain ⟨H1, H2⟩ := H
      refine r_icmp_lt h 25 g1 g2 (by decide) (by decide +kernel : decode cX6_moveTo 20 = .ok (.if_icmp .lt 5, 3)) (fun hc => ?_) (fun hc => ?_)
      · have H := H1 hc
        refine r_iload h 0 rfl (by decide +kernel : decode cX6_moveTo 25 = .ok (.iload 4, 2)) ?_
        refine r_istore h (L' := [(5, vi r1), (4, vi r1), (0, vr b), (1, vi x1), (2, vi x2), (3, vi x3)]) (by decide) rfl (by decide +kernel : decode cX6_moveTo 27 = .ok (.istore 5, 2)) ?_
        refine r_drop h [2, 3, 4, 1, 0] rfl ?_
        exact H
      · have H := H2 hc
        refine r_iconst h (v := 0) (by decide +kernel : decode cX6_moveTo 23 = .ok (.iconst 0, 1)) ?_
        exact r_zret h rfl (by decide) (by decide +kernel : decode cX6_moveTo 24 = .ok (.ireturn, 1)) rfl ⟨rfl, _, rfl, H⟩
set_option maxHeartbeats 4000000 in
set_option maxRecDepth 100000 in
theorem w_State_moveTo_29 {P : Int → Mm → Prop} {K : Nat → Rr → Nat → List (Nat × AV) → List AV → Mm → Prop} (h : EK shC yX6_moveTo cX6_moveTo 6 (some .boolean) 2 NN NN (QI RRC P) K) (b : Nat) (hb : At shC NN b (.inl 5)) (x1 : Int) (x2 : Int) (x4 : Int) (x5 : Int) (M : Mm)
    (H : (rng x5) ∧ (rng x2) ∧ (x2 ≤ x5 → (K NN RRC 61 [(0, vr b), (1, vi x1), (2, vi x2), (5, vi x4)] [] M)) ∧ (¬ (x2 ≤ x5) → ((0 ≤ (x5 + 1) ∧ (x5 + 1) < 7) ∧ (0 ≤ x5 ∧ x5 < 7) ∧ ∀ M1 : Mm, M1 = (upr M (b + 4) (up1 (M (b + 4)) x5.toNat (M (b + 4) (x5 + 1).toNat))) → K NN RRC 29 [(0, vr b), (1, vi x1), (2, vi x2), (4, vi x4), (5, vi (x5 + 1))] [] M1))) :
    K NN RRC 29 [(0, vr b), (1, vi x1), (2, vi x2), (4, vi x4), (5, vi x5)] [] M := by
  refine r_iload h 4 rfl (by decide +kernel : decode cX6_moveTo 29 = .ok (.iload 5, 2)) ?_
  refine r_iloadn h (q := 2) 2 rfl (by decide +kernel : decode cX6_moveTo 31 = .ok (.iload_n 2, 1)) ?_
  obtain ⟨g1, g2, H⟩ := H
  obtain ⟨H1, H2⟩ := H
  refine r_icmp_ge h 57 g1 g2 (by decide) (by decide +kernel : decode cX6_moveTo 32 = .ok (.if_icmp .ge 25, 3)) (fun hc => ?_) (fun hc => ?_)
  · have H := H1 hc
    refine r_iload h 3 rfl (by decide +kernel : decode cX6_moveTo 57 = .ok (.iload 4, 2)) ?_
    refine r_istore h (L' := [(5, vi x4), (0, vr b), (1, vi x1), (2, vi x2), (4, vi x4)]) (by decide) rfl (by decide +kernel : decode cX6_moveTo 59 = .ok (.istore 5, 2)) ?_
    refine r_drop h [1, 2, 3, 0] rfl ?_
    exact H
  · have H := H2 hc
    refine r_aloadn h (q := 0) 0 rfl (by decide +kernel : decode cX6_moveTo 35 = .ok (.aload_n 0, 1)) ?_
    refine r_getR h (r := (b + 4)) f_State_21 hb (rr_5_3 hb) (by omega) (by decide +kernel : decode cX6_moveTo 36 = .ok (.getfield 21, 3)) ?_
    refine r_iload h 4 rfl (by decide +kernel : decode cX6_moveTo 39 = .ok (.iload 5, 2)) ?_
    refine r_aloadn h (q := 0) 0 rfl (by decide +kernel : decode cX6_moveTo 41 = .ok (.aload_n 0, 1)) ?_
    refine r_getR h (r := (b + 4)) f_State_21 hb (rr_5_3 hb) (by omega) (by decide +kernel : decode cX6_moveTo 42 = .ok (.getfield 21, 3)) ?_
    refine r_iload h 4 rfl (by decide +kernel : decode cX6_moveTo 45 = .ok (.iload 5, 2)) ?_
    refine r_iconst h (v := 1) (by decide +kernel : decode cX6_moveTo 47 = .ok (.iconst 1, 1)) ?_
    refine r_iadd h (by decide +kernel : decode cX6_moveTo 48 = .ok (.iadd, 1)) ?_
    obtain ⟨g1, H⟩ := H
    refine r_iald h (x5 + 1).toNat rfl (at_5_3 hb) g1 (by decide) (by decide +kernel : decode cX6_moveTo 49 = .ok (.iaload, 1)) ?_
    obtain ⟨g1, H⟩ := H
    refine r_iast h x5.toNat rfl (at_5_3 hb) g1 (by decide) (by decide +kernel : decode cX6_moveTo 50 = .ok (.iastore, 1)) ?_
    have H := H _ rfl
    revert H
    generalize (upr M (b + 4) (up1 (M (b + 4)) x5.toNat (M (b + 4) (x5 + 1).toNat))) = M1
    intro H
    refine r_iinc h (i := 5) (v := 1) (L' := [(5, vi (x5 + 1)), (0, vr b), (1, vi x1), (2, vi x2), (4, vi x4)]) 4 rfl (by decide) rfl (by decide +kernel : decode cX6_moveTo 51 = .ok (.iinc 5 1, 3)) ?_
    refine r_goto h 29 (by decide) (by decide +kernel : decode cX6_moveTo 54 = .ok (.goto (-25), 3)) ?_
    refine r_drop h [1, 2, 3, 4, 0] rfl ?_
    exact H
set_option maxHeartbeats 4000000 in
set_option maxRecDepth 100000 in
theorem w_State_moveTo_61 {P : Int → Mm → Prop} {K : Nat → Rr → Nat → List (Nat × AV) → List AV → Mm → Prop} (h : EK shC yX6_moveTo cX6_moveTo 6 (some .boolean) 2 NN NN (QI RRC P) K) (b : Nat) (hb : At shC NN b (.inl 5)) (x1 : Int) (x2 : Int) (x5 : Int) (M : Mm)
    (H : (rng x5) ∧ (rng x2) ∧ (x5 ≤ x2 → ((0 ≤ x2 ∧ x2 < 7) ∧ ∀ M1 : Mm, M1 = (upr M (b + 4) (up1 (M (b + 4)) x2.toNat x1)) → P 1 M1)) ∧ (¬ (x5 ≤ x2) → ((0 ≤ (x5 - 1) ∧ (x5 - 1) < 7) ∧ (0 ≤ x5 ∧ x5 < 7) ∧ ∀ M2 : Mm, M2 = (upr M (b + 4) (up1 (M (b + 4)) x5.toNat (M (b + 4) (x5 - 1).toNat))) → K NN RRC 61 [(0, vr b), (1, vi x1), (2, vi x2), (5, vi (x5 + (-1)))] [] M2))) :
    K NN RRC 61 [(0, vr b), (1, vi x1), (2, vi x2), (5, vi x5)] [] M := by
  refine r_iload h 3 rfl (by decide +kernel : decode cX6_moveTo 61 = .ok (.iload 5, 2)) ?_
  refine r_iloadn h (q := 2) 2 rfl (by decide +kernel : decode cX6_moveTo 63 = .ok (.iload_n 2, 1)) ?_
  obtain ⟨g1, g2, H⟩ := H
  obtain ⟨H1, H2⟩ := H
  refine r_icmp_le h 89 g1 g2 (by decide) (by decide +kernel : decode cX6_moveTo 64 = .ok (.if_icmp .le 25, 3)) (fun hc => ?_) (fun hc => ?_)
  · have H := H1 hc
    refine r_aloadn h (q := 0) 0 rfl (by decide +kernel : decode cX6_moveTo 89 = .ok (.aload_n 0, 1)) ?_
    refine r_getR h (r := (b + 4)) f_State_21 hb (rr_5_3 hb) (by omega) (by decide +kernel : decode cX6_moveTo 90 = .ok (.getfield 21, 3)) ?_
    refine r_iloadn h (q := 2) 2 rfl (by decide +kernel : decode cX6_moveTo 93 = .ok (.iload_n 2, 1)) ?_
    refine r_iloadn h (q := 1) 1 rfl (by decide +kernel : decode cX6_moveTo 94 = .ok (.iload_n 1, 1)) ?_
    obtain ⟨g1, H⟩ := H
    refine r_iast h x2.toNat rfl (at_5_3 hb) g1 (by decide) (by decide +kernel : decode cX6_moveTo 95 = .ok (.iastore, 1)) ?_
    have H := H _ rfl
    revert H
    generalize (upr M (b + 4) (up1 (M (b + 4)) x2.toNat x1)) = M1
    intro H
    refine r_iconst h (v := 1) (by decide +kernel : decode cX6_moveTo 96 = .ok (.iconst 1, 1)) ?_
    exact r_zret h rfl (by decide) (by decide +kernel : decode cX6_moveTo 97 = .ok (.ireturn, 1)) rfl ⟨rfl, _, rfl, H⟩
  · have H := H2 hc
    refine r_aloadn h (q := 0) 0 rfl (by decide +kernel : decode cX6_moveTo 67 = .ok (.aload_n 0, 1)) ?_
    refine r_getR h (r := (b + 4)) f_State_21 hb (rr_5_3 hb) (by omega) (by decide +kernel : decode cX6_moveTo 68 = .ok (.getfield 21, 3)) ?_
    refine r_iload h 3 rfl (by decide +kernel : decode cX6_moveTo 71 = .ok (.iload 5, 2)) ?_
    refine r_aloadn h (q := 0) 0 rfl (by decide +kernel : decode cX6_moveTo 73 = .ok (.aload_n 0, 1)) ?_
    refine r_getR h (r := (b + 4)) f_State_21 hb (rr_5_3 hb) (by omega) (by decide +kernel : decode cX6_moveTo 74 = .ok (.getfield 21, 3)) ?_
    refine r_iload h 3 rfl (by decide +kernel : decode cX6_moveTo 77 = .ok (.iload 5, 2)) ?_
    refine r_iconst h (v := 1) (by decide +kernel : decode cX6_moveTo 79 = .ok (.iconst 1, 1)) ?_
    refine r_isub h (by decide +kernel : decode cX6_moveTo 80 = .ok (.isub, 1)) ?_
    obtain ⟨g1, H⟩ := H
    refine r_iald h (x5 - 1).toNat rfl (at_5_3 hb) g1 (by decide) (by decide +kernel : decode cX6_moveTo 81 = .ok (.iaload, 1)) ?_
    obtain ⟨g1, H⟩ := H
    refine r_iast h x5.toNat rfl (at_5_3 hb) g1 (by decide) (by decide +kernel : decode cX6_moveTo 82 = .ok (.iastore, 1)) ?_
    have H := H _ rfl
    revert H
    generalize (upr M (b + 4) (up1 (M (b + 4)) x5.toNat (M (b + 4) (x5 - 1).toNat))) = M2
    intro H
    refine r_iinc h (i := 5) (v := (-1)) (L' := [(5, vi (x5 + (-1))), (0, vr b), (1, vi x1), (2, vi x2)]) 3 rfl (by decide) rfl (by decide +kernel : decode cX6_moveTo 83 = .ok (.iinc 5 (-1), 3)) ?_
    refine r_goto h 61 (by decide) (by decide +kernel : decode cX6_moveTo 86 = .ok (.goto (-25), 3)) ?_
    refine r_drop h [1, 2, 3, 0] rfl ?_
    exact H
set_option maxHeartbeats 4000000 in
set_option maxRecDepth 100000 in
theorem w_State_takeOut_0 {P : Mm → Prop} {K : Nat → Rr → Nat → List (Nat × AV) → List AV → Mm → Prop} (h : EK shC yX6_takeOut cX6_takeOut 3 none 2 NN NN (QV RRC P) K) (b : Nat) (hb : At shC NN b (.inl 5)) (x1 : Int) (x2 : Int) (M : Mm)
    (H : (0 ≤ x1 ∧ x1 < 7) ∧ (0 ≤ x1 ∧ x1 < 7) ∧ ∀ M1 : Mm, M1 = (upr M (b + 2) (up1 (M (b + 2)) x1.toNat ((M (b + 2) x1.toNat) - x2))) → (rng ((M1 b 7) + x2)) ∧ ∀ M2 : Mm, M2 = (upr M1 b (up1 (M1 b) 7 (min ((M1 b 7) + x2) 999))) → P M2) :
    K NN RRC 0 [(0, vr b), (1, vi x1), (2, vi x2)] [] M := by
  refine r_aloadn h (q := 0) 0 rfl (by decide +kernel : decode cX6_takeOut 0 = .ok (.aload_n 0, 1)) ?_
  refine r_getR h (r := (b + 2)) f_State_15 hb (rr_5_1 hb) (by omega) (by decide +kernel : decode cX6_takeOut 1 = .ok (.getfield 15, 3)) ?_
  refine r_iloadn h (q := 1) 1 rfl (by decide +kernel : decode cX6_takeOut 4 = .ok (.iload_n 1, 1)) ?_
  refine r_dup2 h rfl rfl (by decide +kernel : decode cX6_takeOut 5 = .ok (.dup2, 1)) ?_
  obtain ⟨g1, H⟩ := H
  refine r_iald h x1.toNat rfl (at_5_1 hb) g1 (by decide) (by decide +kernel : decode cX6_takeOut 6 = .ok (.iaload, 1)) ?_
  refine r_iloadn h (q := 2) 2 rfl (by decide +kernel : decode cX6_takeOut 7 = .ok (.iload_n 2, 1)) ?_
  refine r_isub h (by decide +kernel : decode cX6_takeOut 8 = .ok (.isub, 1)) ?_
  obtain ⟨g1, H⟩ := H
  refine r_iast h x1.toNat rfl (at_5_1 hb) g1 (by decide) (by decide +kernel : decode cX6_takeOut 9 = .ok (.iastore, 1)) ?_
  have H := H _ rfl
  revert H
  generalize (upr M (b + 2) (up1 (M (b + 2)) x1.toNat ((M (b + 2) x1.toNat) - x2))) = M1
  intro H
  refine r_aloadn h (q := 0) 0 rfl (by decide +kernel : decode cX6_takeOut 10 = .ok (.aload_n 0, 1)) ?_
  refine r_aloadn h (q := 0) 0 rfl (by decide +kernel : decode cX6_takeOut 11 = .ok (.aload_n 0, 1)) ?_
  refine r_getI h f_State_39 hb (by decide +kernel : decode cX6_takeOut 12 = .ok (.getfield 39, 3)) ?_
  refine r_iloadn h (q := 2) 2 rfl (by decide +kernel : decode cX6_takeOut 15 = .ok (.iload_n 2, 1)) ?_
  refine r_iadd h (by decide +kernel : decode cX6_takeOut 16 = .ok (.iadd, 1)) ?_
  refine r_sipush h (v := 999) (by decide) (by decide +kernel : decode cX6_takeOut 17 = .ok (.sipush 999, 3)) ?_
  obtain ⟨g1, H⟩ := H
  refine r_min h g1 (by decide) kM_min_State (by decide) (Nat.le_refl _) (Nat.le_of_ble_eq_true rfl) (by decide +kernel : decode cX6_takeOut 20 = .ok (.invokestatic 69, 3)) ?_
  rw [min_if]
  have gm1 : rng (min ((M1 b 7) + x2) 999) := min_rng g1 (by decide)
  refine r_putI h f_State_39 hb rfl rfl (by decide +kernel : decode cX6_takeOut 23 = .ok (.putfield 39, 3)) ?_
  have H := H _ rfl
  revert H
  generalize (upr M1 b (up1 (M1 b) 7 (min ((M1 b 7) + x2) 999))) = M2
  intro H
  exact r_vret h rfl (by decide +kernel : decode cX6_takeOut 26 = .ok (.return_, 1)) rfl ⟨rfl, rfl, H⟩
theorem W_State_takeOut (b : Nat) (hb : At shC NN b (.inl 5)) (x1 : Int) (x2 : Int) (M : Mm) {P : Mm → Prop} (H : (0 ≤ x1 ∧ x1 < 7) ∧ (0 ≤ x1 ∧ x1 < 7) ∧ ∀ M1 : Mm, M1 = (upr M (b + 2) (up1 (M (b + 2)) x1.toNat ((M (b + 2) x1.toNat) - x2))) → (rng ((M1 b 7) + x2)) ∧ ∀ M2 : Mm, M2 = (upr M1 b (up1 (M1 b) 7 (min ((M1 b 7) + x2) 999))) → P M2) : S_State_takeOut b x1 x2 M P := e_State_takeOut b x1 x2 M (fun _ h => w_State_takeOut_0 h b hb x1 x2 M H)
set_option maxHeartbeats 4000000 in
set_option maxRecDepth 100000 in
theorem w_State_printOn_0 {P : Mm → Prop} {K : Nat → Rr → Nat → List (Nat × AV) → List AV → Mm → Prop} (h : EK shC yX6_printOn cX6_printOn 3 none 2 NN NN (QV RRC P) K) (b : Nat) (hb : At shC NN b (.inl 5)) (x1 : Int) (x2 : Int) (M : Mm)
    (H : (0 ≤ x1 ∧ x1 < 7) ∧ (rng ((M (b + 3) x1.toNat) + x2)) ∧ (0 ≤ x1 ∧ x1 < 7) ∧ ∀ M1 : Mm, M1 = (upr M (b + 3) (up1 (M (b + 3)) x1.toNat (min ((M (b + 3) x1.toNat) + x2) 99))) → P M1) :
    K NN RRC 0 [(0, vr b), (1, vi x1), (2, vi x2)] [] M := by
  refine r_aloadn h (q := 0) 0 rfl (by decide +kernel : decode cX6_printOn 0 = .ok (.aload_n 0, 1)) ?_
  refine r_getR h (r := (b + 3)) f_State_18 hb (rr_5_2 hb) (by omega) (by decide +kernel : decode cX6_printOn 1 = .ok (.getfield 18, 3)) ?_
  refine r_iloadn h (q := 1) 1 rfl (by decide +kernel : decode cX6_printOn 4 = .ok (.iload_n 1, 1)) ?_
  refine r_aloadn h (q := 0) 0 rfl (by decide +kernel : decode cX6_printOn 5 = .ok (.aload_n 0, 1)) ?_
  refine r_getR h (r := (b + 3)) f_State_18 hb (rr_5_2 hb) (by omega) (by decide +kernel : decode cX6_printOn 6 = .ok (.getfield 18, 3)) ?_
  refine r_iloadn h (q := 1) 1 rfl (by decide +kernel : decode cX6_printOn 9 = .ok (.iload_n 1, 1)) ?_
  obtain ⟨g1, H⟩ := H
  refine r_iald h x1.toNat rfl (at_5_2 hb) g1 (by decide) (by decide +kernel : decode cX6_printOn 10 = .ok (.iaload, 1)) ?_
  refine r_iloadn h (q := 2) 2 rfl (by decide +kernel : decode cX6_printOn 11 = .ok (.iload_n 2, 1)) ?_
  refine r_iadd h (by decide +kernel : decode cX6_printOn 12 = .ok (.iadd, 1)) ?_
  refine r_bipush h (v := 99) (by decide) (by decide +kernel : decode cX6_printOn 13 = .ok (.bipush 99, 2)) ?_
  obtain ⟨g1, H⟩ := H
  refine r_min h g1 (by decide) kM_min_State (by decide) (Nat.le_refl _) (Nat.le_of_ble_eq_true rfl) (by decide +kernel : decode cX6_printOn 15 = .ok (.invokestatic 69, 3)) ?_
  rw [min_if]
  have gm1 : rng (min ((M (b + 3) x1.toNat) + x2) 99) := min_rng g1 (by decide)
  obtain ⟨g1, H⟩ := H
  refine r_iast h x1.toNat rfl (at_5_2 hb) g1 (by decide) (by decide +kernel : decode cX6_printOn 18 = .ok (.iastore, 1)) ?_
  have H := H _ rfl
  revert H
  generalize (upr M (b + 3) (up1 (M (b + 3)) x1.toNat (min ((M (b + 3) x1.toNat) + x2) 99))) = M1
  intro H
  exact r_vret h rfl (by decide +kernel : decode cX6_printOn 19 = .ok (.return_, 1)) rfl ⟨rfl, rfl, H⟩
theorem W_State_printOn (b : Nat) (hb : At shC NN b (.inl 5)) (x1 : Int) (x2 : Int) (M : Mm) {P : Mm → Prop} (H : (0 ≤ x1 ∧ x1 < 7) ∧ (rng ((M (b + 3) x1.toNat) + x2)) ∧ (0 ≤ x1 ∧ x1 < 7) ∧ ∀ M1 : Mm, M1 = (upr M (b + 3) (up1 (M (b + 3)) x1.toNat (min ((M (b + 3) x1.toNat) + x2) 99))) → P M1) : S_State_printOn b x1 x2 M P := e_State_printOn b x1 x2 M (fun _ h => w_State_printOn_0 h b hb x1 x2 M H)
set_option maxHeartbeats 4000000 in
set_option maxRecDepth 100000 in
theorem w_State_rainOn_0 {P : Mm → Prop} {K : Nat → Rr → Nat → List (Nat × AV) → List AV → Mm → Prop} (h : EK shC yX6_rainOn cX6_rainOn 3 none 2 NN NN (QV RRC P) K) (b : Nat) (hb : At shC NN b (.inl 5)) (x1 : Int) (x2 : Int) (M : Mm)
    (H : (0 ≤ x1 ∧ x1 < 7) ∧ (rng ((M (b + 2) x1.toNat) + x2)) ∧ (0 ≤ x1 ∧ x1 < 7) ∧ ∀ M1 : Mm, M1 = (upr M (b + 2) (up1 (M (b + 2)) x1.toNat (min ((M (b + 2) x1.toNat) + x2) 99))) → ∃ P2 : Int → Mm → Prop, S_State_goes b x1 M1 P2 ∧ ∀ (r1 : Int) (M2 : Mm), P2 r1 M2 → (rng r1) ∧ (r1 ≠ 0 → (P M2)) ∧ (r1 = 0 → ((0 ≤ x1 ∧ x1 < 7) ∧ (rng ((M2 (b + 1) x1.toNat) + 1)) ∧ (0 ≤ x1 ∧ x1 < 7) ∧ ∀ M3 : Mm, M3 = (upr M2 (b + 1) (up1 (M2 (b + 1)) x1.toNat (min ((M2 (b + 1) x1.toNat) + 1) 20))) → P M3))) :
    K NN RRC 0 [(0, vr b), (1, vi x1), (2, vi x2)] [] M := by
  refine r_aloadn h (q := 0) 0 rfl (by decide +kernel : decode cX6_rainOn 0 = .ok (.aload_n 0, 1)) ?_
  refine r_getR h (r := (b + 2)) f_State_15 hb (rr_5_1 hb) (by omega) (by decide +kernel : decode cX6_rainOn 1 = .ok (.getfield 15, 3)) ?_
  refine r_iloadn h (q := 1) 1 rfl (by decide +kernel : decode cX6_rainOn 4 = .ok (.iload_n 1, 1)) ?_
  refine r_aloadn h (q := 0) 0 rfl (by decide +kernel : decode cX6_rainOn 5 = .ok (.aload_n 0, 1)) ?_
  refine r_getR h (r := (b + 2)) f_State_15 hb (rr_5_1 hb) (by omega) (by decide +kernel : decode cX6_rainOn 6 = .ok (.getfield 15, 3)) ?_
  refine r_iloadn h (q := 1) 1 rfl (by decide +kernel : decode cX6_rainOn 9 = .ok (.iload_n 1, 1)) ?_
  obtain ⟨g1, H⟩ := H
  refine r_iald h x1.toNat rfl (at_5_1 hb) g1 (by decide) (by decide +kernel : decode cX6_rainOn 10 = .ok (.iaload, 1)) ?_
  refine r_iloadn h (q := 2) 2 rfl (by decide +kernel : decode cX6_rainOn 11 = .ok (.iload_n 2, 1)) ?_
  refine r_iadd h (by decide +kernel : decode cX6_rainOn 12 = .ok (.iadd, 1)) ?_
  refine r_bipush h (v := 99) (by decide) (by decide +kernel : decode cX6_rainOn 13 = .ok (.bipush 99, 2)) ?_
  obtain ⟨g1, H⟩ := H
  refine r_min h g1 (by decide) kM_min_State (by decide) (Nat.le_refl _) (Nat.le_of_ble_eq_true rfl) (by decide +kernel : decode cX6_rainOn 15 = .ok (.invokestatic 69, 3)) ?_
  rw [min_if]
  have gm1 : rng (min ((M (b + 2) x1.toNat) + x2) 99) := min_rng g1 (by decide)
  obtain ⟨g1, H⟩ := H
  refine r_iast h x1.toNat rfl (at_5_1 hb) g1 (by decide) (by decide +kernel : decode cX6_rainOn 18 = .ok (.iastore, 1)) ?_
  have H := H _ rfl
  revert H
  generalize (upr M (b + 2) (up1 (M (b + 2)) x1.toNat (min ((M (b + 2) x1.toNat) + x2) 99))) = M1
  intro H
  refine r_aloadn h (q := 0) 0 rfl (by decide +kernel : decode cX6_rainOn 19 = .ok (.aload_n 0, 1)) ?_
  refine r_iloadn h (q := 1) 1 rfl (by decide +kernel : decode cX6_rainOn 20 = .ok (.iload_n 1, 1)) ?_
  obtain ⟨P2, hSP2, H⟩ := H
  refine r_callV h (as := [vi x1]) (S := []) (b := b) m_State_54 hSP2 (by decide) (Nat.le_refl _) rfl hb rfl (Nat.le_of_ble_eq_true rfl) (by decide +kernel : decode cX6_rainOn 21 = .ok (.invokevirtual 54, 3)) ?_
  rintro _ _ M2 ⟨rfl, r1, rfl, hP⟩
  have H := H r1 M2 hP
  show K NN RRC _ _ [vi r1] _
  obtain ⟨g1, H⟩ := H
  obtain ⟨H1, H2⟩ := H
  refine r_if_ne h 46 g1 (by decide) (by decide +kernel : decode cX6_rainOn 24 = .ok (.ifCond .ne 22, 3)) (fun hc => ?_) (fun hc => ?_)
  · have H := H1 hc
    exact r_vret h rfl (by decide +kernel : decode cX6_rainOn 46 = .ok (.return_, 1)) rfl ⟨rfl, rfl, H⟩
  · have H := H2 hc
    refine r_aloadn h (q := 0) 0 rfl (by decide +kernel : decode cX6_rainOn 27 = .ok (.aload_n 0, 1)) ?_
    refine r_getR h (r := (b + 1)) f_State_9 hb (rr_5_0 hb) (by omega) (by decide +kernel : decode cX6_rainOn 28 = .ok (.getfield 9, 3)) ?_
    refine r_iloadn h (q := 1) 1 rfl (by decide +kernel : decode cX6_rainOn 31 = .ok (.iload_n 1, 1)) ?_
    refine r_aloadn h (q := 0) 0 rfl (by decide +kernel : decode cX6_rainOn 32 = .ok (.aload_n 0, 1)) ?_
    refine r_getR h (r := (b + 1)) f_State_9 hb (rr_5_0 hb) (by omega) (by decide +kernel : decode cX6_rainOn 33 = .ok (.getfield 9, 3)) ?_
    refine r_iloadn h (q := 1) 1 rfl (by decide +kernel : decode cX6_rainOn 36 = .ok (.iload_n 1, 1)) ?_
    obtain ⟨g1, H⟩ := H
    refine r_iald h x1.toNat rfl (at_5_0 hb) g1 (by decide) (by decide +kernel : decode cX6_rainOn 37 = .ok (.iaload, 1)) ?_
    refine r_iconst h (v := 1) (by decide +kernel : decode cX6_rainOn 38 = .ok (.iconst 1, 1)) ?_
    refine r_iadd h (by decide +kernel : decode cX6_rainOn 39 = .ok (.iadd, 1)) ?_
    refine r_bipush h (v := 20) (by decide) (by decide +kernel : decode cX6_rainOn 40 = .ok (.bipush 20, 2)) ?_
    obtain ⟨g1, H⟩ := H
    refine r_min h g1 (by decide) kM_min_State (by decide) (Nat.le_refl _) (Nat.le_of_ble_eq_true rfl) (by decide +kernel : decode cX6_rainOn 42 = .ok (.invokestatic 69, 3)) ?_
    rw [min_if]
    have gm2 : rng (min ((M2 (b + 1) x1.toNat) + 1) 20) := min_rng g1 (by decide)
    obtain ⟨g1, H⟩ := H
    refine r_iast h x1.toNat rfl (at_5_0 hb) g1 (by decide) (by decide +kernel : decode cX6_rainOn 45 = .ok (.iastore, 1)) ?_
    have H := H _ rfl
    revert H
    generalize (upr M2 (b + 1) (up1 (M2 (b + 1)) x1.toNat (min ((M2 (b + 1) x1.toNat) + 1) 20))) = M3
    intro H
    exact r_vret h rfl (by decide +kernel : decode cX6_rainOn 46 = .ok (.return_, 1)) rfl ⟨rfl, rfl, H⟩
theorem W_State_rainOn (b : Nat) (hb : At shC NN b (.inl 5)) (x1 : Int) (x2 : Int) (M : Mm) {P : Mm → Prop} (H : (0 ≤ x1 ∧ x1 < 7) ∧ (rng ((M (b + 2) x1.toNat) + x2)) ∧ (0 ≤ x1 ∧ x1 < 7) ∧ ∀ M1 : Mm, M1 = (upr M (b + 2) (up1 (M (b + 2)) x1.toNat (min ((M (b + 2) x1.toNat) + x2) 99))) → ∃ P2 : Int → Mm → Prop, S_State_goes b x1 M1 P2 ∧ ∀ (r1 : Int) (M2 : Mm), P2 r1 M2 → (rng r1) ∧ (r1 ≠ 0 → (P M2)) ∧ (r1 = 0 → ((0 ≤ x1 ∧ x1 < 7) ∧ (rng ((M2 (b + 1) x1.toNat) + 1)) ∧ (0 ≤ x1 ∧ x1 < 7) ∧ ∀ M3 : Mm, M3 = (upr M2 (b + 1) (up1 (M2 (b + 1)) x1.toNat (min ((M2 (b + 1) x1.toNat) + 1) 20))) → P M3))) : S_State_rainOn b x1 x2 M P := e_State_rainOn b x1 x2 M (fun _ h => w_State_rainOn_0 h b hb x1 x2 M H)
set_option maxHeartbeats 4000000 in
set_option maxRecDepth 100000 in
theorem w_State_someGoesWithin_0 {P : Int → Mm → Prop} {K : Nat → Rr → Nat → List (Nat × AV) → List AV → Mm → Prop} (h : EK shC yX6_someGoesWithin cX6_someGoesWithin 4 (some .boolean) 2 NN NN (QI RRC P) K) (b : Nat) (hb : At shC NN b (.inl 5)) (x1 : Int) (x2 : Int) (M : Mm)
    (H : K NN RRC 2 [(0, vr b), (1, vi x1), (2, vi x2), (3, vi 0)] [] M) :
    K NN RRC 0 [(0, vr b), (1, vi x1), (2, vi x2)] [] M := by
  refine r_iconst h (v := 0) (by decide +kernel : decode cX6_someGoesWithin 0 = .ok (.iconst 0, 1)) ?_
  refine r_istoren h (q := 3) (L' := [(3, vi 0), (0, vr b), (1, vi x1), (2, vi x2)]) (by decide) rfl (by decide +kernel : decode cX6_someGoesWithin 1 = .ok (.istore_n 3, 1)) ?_
  refine r_drop h [1, 2, 3, 0] rfl ?_
  exact H
set_option maxHeartbeats 4000000 in
set_option maxRecDepth 100000 in
theorem w_State_someGoesWithin_2 {P : Int → Mm → Prop} {K : Nat → Rr → Nat → List (Nat × AV) → List AV → Mm → Prop} (h : EK shC yX6_someGoesWithin cX6_someGoesWithin 4 (some .boolean) 2 NN NN (QI RRC P) K) (b : Nat) (hb : At shC NN b (.inl 5)) (x1 : Int) (x2 : Int) (x3 : Int) (M : Mm)
    (H : (rng x3) ∧ (rng x2) ∧ (x2 ≤ x3 → (P 0 M)) ∧ (¬ (x2 ≤ x3) → (∃ P1 : Int → Mm → Prop, S_State_goes b x3 M P1 ∧ ∀ (r1 : Int) (M1 : Mm), P1 r1 M1 → (rng r1) ∧ (r1 = 0 → (K NN RRC 2 [(0, vr b), (1, vi x1), (2, vi x2), (3, vi (x3 + 1))] [] M1)) ∧ (r1 ≠ 0 → ((0 ≤ x3 ∧ x3 < 7) ∧ (rng (M1 (b + 2) x3.toNat)) ∧ (rng x1) ∧ (x1 < (M1 (b + 2) x3.toNat) → (K NN RRC 2 [(0, vr b), (1, vi x1), (2, vi x2), (3, vi (x3 + 1))] [] M1)) ∧ (¬ (x1 < (M1 (b + 2) x3.toNat)) → (P 1 M1))))))) :
    K NN RRC 2 [(0, vr b), (1, vi x1), (2, vi x2), (3, vi x3)] [] M := by
  refine r_iloadn h (q := 3) 3 rfl (by decide +kernel : decode cX6_someGoesWithin 2 = .ok (.iload_n 3, 1)) ?_
  refine r_iloadn h (q := 2) 2 rfl (by decide +kernel : decode cX6_someGoesWithin 3 = .ok (.iload_n 2, 1)) ?_
  obtain ⟨g1, g2, H⟩ := H
  obtain ⟨H1, H2⟩ := H
  refine r_icmp_ge h 33 g1 g2 (by decide) (by decide +kernel : decode cX6_someGoesWithin 4 = .ok (.if_icmp .ge 29, 3)) (fun hc => ?_) (fun hc => ?_)
  · have H := H1 hc
    refine r_iconst h (v := 0) (by decide +kernel : decode cX6_someGoesWithin 33 = .ok (.iconst 0, 1)) ?_
    exact r_zret h rfl (by decide) (by decide +kernel : decode cX6_someGoesWithin 34 = .ok (.ireturn, 1)) rfl ⟨rfl, _, rfl, H⟩
  · have H := H2 hc
    refine r_aloadn h (q := 0) 0 rfl (by decide +kernel : decode cX6_someGoesWithin 7 = .ok (.aload_n 0, 1)) ?_
    refine r_iloadn h (q := 3) 3 rfl (by decide +kernel : decode cX6_someGoesWithin 8 = .ok (.iload_n 3, 1)) ?_
    obtain ⟨P1, hSP1, H⟩ := H
    refine r_callV h (as := [vi x3]) (S := []) (b := b) m_State_54 hSP1 (by decide) (Nat.le_refl _) rfl hb rfl (Nat.le_of_ble_eq_true rfl) (by decide +kernel : decode cX6_someGoesWithin 9 = .ok (.invokevirtual 54, 3)) ?_
    rintro _ _ M1 ⟨rfl, r1, rfl, hP⟩
    have H := H r1 M1 hP
    show K NN RRC _ _ [vi r1] _
    obtain ⟨g1, H⟩ := H
    obtain ⟨H1, H2⟩ := H
    refine r_if_eq h 27 g1 (by decide) (by decide +kernel : decode cX6_someGoesWithin 12 = .ok (.ifCond .eq 15, 3)) (fun hc => ?_) (fun hc => ?_)
    · have H := H1 hc
      refine r_iinc h (i := 3) (v := 1) (L' := [(3, vi (x3 + 1)), (0, vr b), (1, vi x1), (2, vi x2)]) 3 rfl (by decide) rfl (by decide +kernel : decode cX6_someGoesWithin 27 = .ok (.iinc 3 1, 3)) ?_
      refine r_goto h 2 (by decide) (by decide +kernel : decode cX6_someGoesWithin 30 = .ok (.goto (-28), 3)) ?_
      refine r_drop h [1, 2, 3, 0] rfl ?_
      exact H
    · have H := H2 hc
      refine r_aloadn h (q := 0) 0 rfl (by decide +kernel : decode cX6_someGoesWithin 15 = .ok (.aload_n 0, 1)) ?_
      refine r_getR h (r := (b + 2)) f_State_15 hb (rr_5_1 hb) (by omega) (by decide +kernel : decode cX6_someGoesWithin 16 = .ok (.getfield 15, 3)) ?_
      refine r_iloadn h (q := 3) 3 rfl (by decide +kernel : decode cX6_someGoesWithin 19 = .ok (.iload_n 3, 1)) ?_
      obtain ⟨g1, H⟩ := H
      refine r_iald h x3.toNat rfl (at_5_1 hb) g1 (by decide) (by decide +kernel : decode cX6_someGoesWithin 20 = .ok (.iaload, 1)) ?_
      refine r_iloadn h (q := 1) 1 rfl (by decide +kernel : decode cX6_someGoesWithin 21 = .ok (.iload_n 1, 1)) ?_
      obtain ⟨g1, g2, H⟩ := H
      obtain ⟨H1, H2⟩ := H
      refine r_icmp_gt h 27 g1 g2 (by decide) (by decide +kernel : decode cX6_someGoesWithin 22 = .ok (.if_icmp .gt 5, 3)) (fun hc => ?_) (fun hc => ?_)
      · have H := H1 hc
        refine r_iinc h (i := 3) (v := 1) (L' := [(3, vi (x3 + 1)), (0, vr b), (1, vi x1), (2, vi x2)]) 3 rfl (by decide) rfl (by decide +kernel : decode cX6_someGoesWithin 27 = .ok (.iinc 3 1, 3)) ?_
        refine r_goto h 2 (by decide) (by decide +kernel : decode cX6_someGoesWithin 30 = .ok (.goto (-28), 3)) ?_
        refine r_drop h [1, 2, 3, 0] rfl ?_
        exact H
      · have H := H2 hc
        refine r_iconst h (v := 1) (by decide +kernel : decode cX6_someGoesWithin 25 = .ok (.iconst 1, 1)) ?_
        exact r_zret h rfl (by decide) (by decide +kernel : decode cX6_someGoesWithin 26 = .ok (.ireturn, 1)) rfl ⟨rfl, _, rfl, H⟩
set_option maxHeartbeats 4000000 in
set_option maxRecDepth 100000 in
theorem w_Mangle_shuffle_0 {P : Mm → Prop} {K : Nat → Rr → Nat → List (Nat × AV) → List AV → Mm → Prop} (h : EK shC yX2_shuffle cX2_shuffle 5 none 3 NN NN (QV RRC P) K) (b : Nat) (hb : At shC NN b (.inl 1)) (b1 : Nat) (hb1 : At shC NN b1 (.inl 7)) (b2 : Nat) (hb2 : At shC NN b2 (.inl 5)) (M : Mm)
    (H : ∃ P1 : Int → Mm → Prop, S_Mangle_drawBelow b (M b1 9) M P1 ∧ ∀ (r1 : Int) (M1 : Mm), P1 r1 M1 → ∃ P2 : Int → Mm → Prop, S_Mangle_drawBelow b (M1 b1 9) M1 P2 ∧ ∀ (r2 : Int) (M2 : Mm), P2 r2 M2 → ∃ P3 : Int → Mm → Prop, S_State_moveTo b2 r1 r2 (M2 b1 9) M2 P3 ∧ ∀ (r3 : Int) (M3 : Mm), P3 r3 M3 → ∃ P4 : Int → Mm → Prop, S_Mangle_drawBelow b 4 M3 P4 ∧ ∀ (r4 : Int) (M4 : Mm), P4 r4 M4 → (rng r4) ∧ (r4 ≠ 0 → (P M4)) ∧ (r4 = 0 → (∃ P5 : Mm → Prop, S_State_turnRoad b2 r1 M4 P5 ∧ ∀ M5 : Mm, P5 M5 → P M5))) :
    K NN RRC 0 [(0, vr b), (1, vr b1), (2, vr b2)] [] M := by
  refine r_aloadn h (q := 0) 0 rfl (by decide +kernel : decode cX2_shuffle 0 = .ok (.aload_n 0, 1)) ?_
  refine r_aloadn h (q := 1) 1 rfl (by decide +kernel : decode cX2_shuffle 1 = .ok (.aload_n 1, 1)) ?_
  refine r_getI h f_Mangle_18 hb1 (by decide +kernel : decode cX2_shuffle 2 = .ok (.getfield 18, 3)) ?_
  obtain ⟨P1, hSP1, H⟩ := H
  refine r_callV h (as := [vi (M b1 9)]) (S := []) (b := b) m_Mangle_140 hSP1 (by decide) (Nat.le_refl _) rfl hb rfl (Nat.le_of_ble_eq_true rfl) (by decide +kernel : decode cX2_shuffle 5 = .ok (.invokevirtual 140, 3)) ?_
  rintro _ _ M1 ⟨rfl, r1, rfl, hP⟩
  have H := H r1 M1 hP
  show K NN RRC _ _ [vi r1] _
  refine r_istoren h (q := 3) (L' := [(3, vi r1), (0, vr b), (1, vr b1), (2, vr b2)]) (by decide) rfl (by decide +kernel : decode cX2_shuffle 8 = .ok (.istore_n 3, 1)) ?_
  refine r_aloadn h (q := 0) 1 rfl (by decide +kernel : decode cX2_shuffle 9 = .ok (.aload_n 0, 1)) ?_
  refine r_aloadn h (q := 1) 2 rfl (by decide +kernel : decode cX2_shuffle 10 = .ok (.aload_n 1, 1)) ?_
  refine r_getI h f_Mangle_18 hb1 (by decide +kernel : decode cX2_shuffle 11 = .ok (.getfield 18, 3)) ?_
  obtain ⟨P2, hSP2, H⟩ := H
  refine r_callV h (as := [vi (M1 b1 9)]) (S := []) (b := b) m_Mangle_140 hSP2 (by decide) (Nat.le_refl _) rfl hb rfl (Nat.le_of_ble_eq_true rfl) (by decide +kernel : decode cX2_shuffle 14 = .ok (.invokevirtual 140, 3)) ?_
  rintro _ _ M2 ⟨rfl, r2, rfl, hP⟩
  have H := H r2 M2 hP
  show K NN RRC _ _ [vi r2] _
  refine r_istore h (L' := [(4, vi r2), (3, vi r1), (0, vr b), (1, vr b1), (2, vr b2)]) (by decide) rfl (by decide +kernel : decode cX2_shuffle 17 = .ok (.istore 4, 2)) ?_
  refine r_aloadn h (q := 2) 4 rfl (by decide +kernel : decode cX2_shuffle 19 = .ok (.aload_n 2, 1)) ?_
  refine r_iloadn h (q := 3) 1 rfl (by decide +kernel : decode cX2_shuffle 20 = .ok (.iload_n 3, 1)) ?_
  refine r_iload h 0 rfl (by decide +kernel : decode cX2_shuffle 21 = .ok (.iload 4, 2)) ?_
  refine r_aloadn h (q := 1) 3 rfl (by decide +kernel : decode cX2_shuffle 23 = .ok (.aload_n 1, 1)) ?_
  refine r_getI h f_Mangle_18 hb1 (by decide +kernel : decode cX2_shuffle 24 = .ok (.getfield 18, 3)) ?_
  obtain ⟨P3, hSP3, H⟩ := H
  refine r_callV h (as := [vi r1, vi r2, vi (M2 b1 9)]) (S := []) (b := b2) m_Mangle_108 hSP3 (by decide) (Nat.le_refl _) rfl hb2 rfl (Nat.le_of_ble_eq_true rfl) (by decide +kernel : decode cX2_shuffle 27 = .ok (.invokevirtual 108, 3)) ?_
  rintro _ _ M3 ⟨rfl, r3, rfl, hP⟩
  have H := H r3 M3 hP
  show K NN RRC _ _ [vi r3] _
  refine r_pop h rfl (by decide +kernel : decode cX2_shuffle 30 = .ok (.pop, 1)) ?_
  refine r_aloadn h (q := 0) 2 rfl (by decide +kernel : decode cX2_shuffle 31 = .ok (.aload_n 0, 1)) ?_
  refine r_iconst h (v := 4) (by decide +kernel : decode cX2_shuffle 32 = .ok (.iconst 4, 1)) ?_
  obtain ⟨P4, hSP4, H⟩ := H
  refine r_callV h (as := [vi 4]) (S := []) (b := b) m_Mangle_140 hSP4 (by decide) (Nat.le_refl _) rfl hb rfl (Nat.le_of_ble_eq_true rfl) (by decide +kernel : decode cX2_shuffle 33 = .ok (.invokevirtual 140, 3)) ?_
  rintro _ _ M4 ⟨rfl, r4, rfl, hP⟩
  have H := H r4 M4 hP
  show K NN RRC _ _ [vi r4] _
  obtain ⟨g1, H⟩ := H
  obtain ⟨H1, H2⟩ := H
  refine r_if_ne h 44 g1 (by decide) (by decide +kernel : decode cX2_shuffle 36 = .ok (.ifCond .ne 8, 3)) (fun hc => ?_) (fun hc => ?_)
  · have H := H1 hc
    exact r_vret h rfl (by decide +kernel : decode cX2_shuffle 44 = .ok (.return_, 1)) rfl ⟨rfl, rfl, H⟩
  · have H := H2 hc
    refine r_aloadn h (q := 2) 4 rfl (by decide +kernel : decode cX2_shuffle 39 = .ok (.aload_n 2, 1)) ?_
    refine r_iloadn h (q := 3) 1 rfl (by decide +kernel : decode cX2_shuffle 40 = .ok (.iload_n 3, 1)) ?_
    obtain ⟨P5, hSP5, H⟩ := H
    refine r_callV h (as := [vi r1]) (S := []) (b := b2) m_Mangle_112 hSP5 (by decide) (Nat.le_refl _) rfl hb2 rfl (Nat.le_of_ble_eq_true rfl) (by decide +kernel : decode cX2_shuffle 41 = .ok (.invokevirtual 112, 3)) ?_
    rintro _ _ M5 ⟨rfl, rfl, hP⟩
    have H := H M5 hP
    show K NN RRC _ _ [] _
    exact r_vret h rfl (by decide +kernel : decode cX2_shuffle 44 = .ok (.return_, 1)) rfl ⟨rfl, rfl, H⟩
theorem W_Mangle_shuffle (b : Nat) (hb : At shC NN b (.inl 1)) (b1 : Nat) (hb1 : At shC NN b1 (.inl 7)) (b2 : Nat) (hb2 : At shC NN b2 (.inl 5)) (M : Mm) {P : Mm → Prop} (H : ∃ P1 : Int → Mm → Prop, S_Mangle_drawBelow b (M b1 9) M P1 ∧ ∀ (r1 : Int) (M1 : Mm), P1 r1 M1 → ∃ P2 : Int → Mm → Prop, S_Mangle_drawBelow b (M1 b1 9) M1 P2 ∧ ∀ (r2 : Int) (M2 : Mm), P2 r2 M2 → ∃ P3 : Int → Mm → Prop, S_State_moveTo b2 r1 r2 (M2 b1 9) M2 P3 ∧ ∀ (r3 : Int) (M3 : Mm), P3 r3 M3 → ∃ P4 : Int → Mm → Prop, S_Mangle_drawBelow b 4 M3 P4 ∧ ∀ (r4 : Int) (M4 : Mm), P4 r4 M4 → (rng r4) ∧ (r4 ≠ 0 → (P M4)) ∧ (r4 = 0 → (∃ P5 : Mm → Prop, S_State_turnRoad b2 r1 M4 P5 ∧ ∀ M5 : Mm, P5 M5 → P M5))) : S_Mangle_shuffle b b1 b2 M P := e_Mangle_shuffle b b1 b2 M (fun _ h => w_Mangle_shuffle_0 h b hb b1 hb1 b2 hb2 M H)
set_option maxHeartbeats 4000000 in
set_option maxRecDepth 100000 in
theorem w_Rows_lastsBehind_0 {P : Int → Mm → Prop} {K : Nat → Rr → Nat → List (Nat × AV) → List AV → Mm → Prop} (h : EK shC yX3_lastsBehind cX3_lastsBehind 5 (some .int) 3 NN NN (QI RRC P) K) (b0 : Nat) (hb0 : At shC NN b0 (.inl 7)) (x1 : Int) (x2 : Int) (M : Mm)
    (H : K NN RRC 5 [(0, vr b0), (1, vi x1), (2, vi x2), (3, vi 0), (4, vi 0)] [] M) :
    K NN RRC 0 [(0, vr b0), (1, vi x1), (2, vi x2)] [] M := by
  refine r_iconst h (v := 0) (by decide +kernel : decode cX3_lastsBehind 0 = .ok (.iconst 0, 1)) ?_
  refine r_istoren h (q := 3) (L' := [(3, vi 0), (0, vr b0), (1, vi x1), (2, vi x2)]) (by decide) rfl (by decide +kernel : decode cX3_lastsBehind 1 = .ok (.istore_n 3, 1)) ?_
  refine r_iconst h (v := 0) (by decide +kernel : decode cX3_lastsBehind 2 = .ok (.iconst 0, 1)) ?_
  refine r_istore h (L' := [(4, vi 0), (3, vi 0), (0, vr b0), (1, vi x1), (2, vi x2)]) (by decide) rfl (by decide +kernel : decode cX3_lastsBehind 3 = .ok (.istore 4, 2)) ?_
  refine r_drop h [2, 3, 4, 1, 0] rfl ?_
  exact H
set_option maxHeartbeats 4000000 in
set_option maxRecDepth 100000 in
theorem w_Rows_lastsBehind_5 {P : Int → Mm → Prop} {K : Nat → Rr → Nat → List (Nat × AV) → List AV → Mm → Prop} (h : EK shC yX3_lastsBehind cX3_lastsBehind 5 (some .int) 3 NN NN (QI RRC P) K) (b0 : Nat) (hb0 : At shC NN b0 (.inl 7)) (x1 : Int) (x2 : Int) (x3 : Int) (x4 : Int) (M : Mm)
    (H : (rng x4) ∧ (8 ≤ x4 → (∃ P1 : Int → Mm → Prop, S_Town_isCat b0 x2 M P1 ∧ ∀ (r1 : Int) (M1 : Mm), P1 r1 M1 → (rng r1) ∧ (r1 = 0 → ((rng x3) ∧ (x3 = 0 → (P 0 M1)) ∧ (x3 ≠ 0 → (P (shlI 1 x2) M1)))) ∧ (r1 ≠ 0 → (P x3 M1)))) ∧ (¬ (8 ≤ x4) → (((andI (shrI x1 x4) 1) = 0 → (K NN RRC 5 [(0, vr b0), (1, vi x1), (2, vi x2), (3, vi x3), (4, vi (x4 + 1))] [] M)) ∧ ((andI (shrI x1 x4) 1) ≠ 0 → (∃ P2 : Int → Mm → Prop, S_Rows_shunsLast b0 x2 x4 M P2 ∧ ∀ (r2 : Int) (M2 : Mm), P2 r2 M2 → (rng r2) ∧ (r2 ≠ 0 → (K NN RRC 5 [(0, vr b0), (1, vi x1), (2, vi x2), (3, vi x3), (4, vi (x4 + 1))] [] M2)) ∧ (r2 = 0 → (K NN RRC 5 [(0, vr b0), (1, vi x1), (2, vi x2), (3, vi (orI x3 (shlI 1 x4))), (4, vi (x4 + 1))] [] M2))))))) :
    K NN RRC 5 [(0, vr b0), (1, vi x1), (2, vi x2), (3, vi x3), (4, vi x4)] [] M := by
  refine r_iload h 4 rfl (by decide +kernel : decode cX3_lastsBehind 5 = .ok (.iload 4, 2)) ?_
  refine r_bipush h (v := 8) (by decide) (by decide +kernel : decode cX3_lastsBehind 7 = .ok (.bipush 8, 2)) ?_
  obtain ⟨g1, H⟩ := H
  obtain ⟨H1, H2⟩ := H
  refine r_icmp_ge h 44 g1 (by decide) (by decide) (by decide +kernel : decode cX3_lastsBehind 9 = .ok (.if_icmp .ge 35, 3)) (fun hc => ?_) (fun hc => ?_)
  · have H := H1 hc
    refine r_aloadn h (q := 0) 0 rfl (by decide +kernel : decode cX3_lastsBehind 44 = .ok (.aload_n 0, 1)) ?_
    refine r_iloadn h (q := 2) 2 rfl (by decide +kernel : decode cX3_lastsBehind 45 = .ok (.iload_n 2, 1)) ?_
    obtain ⟨P1, hSP1, H⟩ := H
    refine r_callV h (as := [vi x2]) (S := []) (b := b0) m_Rows_59 hSP1 (by decide) (Nat.le_refl _) rfl hb0 rfl (Nat.le_of_ble_eq_true rfl) (by decide +kernel : decode cX3_lastsBehind 46 = .ok (.invokevirtual 59, 3)) ?_
    rintro _ _ M1 ⟨rfl, r1, rfl, hP⟩
    have H := H r1 M1 hP
    show K NN RRC _ _ [vi r1] _
    obtain ⟨g1, H⟩ := H
    obtain ⟨H1, H2⟩ := H
    refine r_if_eq h 54 g1 (by decide) (by decide +kernel : decode cX3_lastsBehind 49 = .ok (.ifCond .eq 5, 3)) (fun hc => ?_) (fun hc => ?_)
    · have H := H1 hc
      refine r_iloadn h (q := 3) 3 rfl (by decide +kernel : decode cX3_lastsBehind 54 = .ok (.iload_n 3, 1)) ?_
      obtain ⟨g1, H⟩ := H
      obtain ⟨H1, H2⟩ := H
      refine r_if_eq h 64 g1 (by decide) (by decide +kernel : decode cX3_lastsBehind 55 = .ok (.ifCond .eq 9, 3)) (fun hc => ?_) (fun hc => ?_)
      · have H := H1 hc
        refine r_iconst h (v := 0) (by decide +kernel : decode cX3_lastsBehind 64 = .ok (.iconst 0, 1)) ?_
        exact r_iret h rfl (by decide +kernel : decode cX3_lastsBehind 65 = .ok (.ireturn, 1)) rfl ⟨rfl, _, rfl, H⟩
      · have H := H2 hc
        refine r_iconst h (v := 1) (by decide +kernel : decode cX3_lastsBehind 58 = .ok (.iconst 1, 1)) ?_
        refine r_iloadn h (q := 2) 2 rfl (by decide +kernel : decode cX3_lastsBehind 59 = .ok (.iload_n 2, 1)) ?_
        refine r_ishl h (by decide +kernel : decode cX3_lastsBehind 60 = .ok (.ishl, 1)) ?_
        refine r_goto h 65 (by decide) (by decide +kernel : decode cX3_lastsBehind 61 = .ok (.goto 4, 3)) ?_
        exact r_iret h rfl (by decide +kernel : decode cX3_lastsBehind 65 = .ok (.ireturn, 1)) rfl ⟨rfl, _, rfl, H⟩
    · have H := H2 hc
      refine r_iloadn h (q := 3) 3 rfl (by decide +kernel : decode cX3_lastsBehind 52 = .ok (.iload_n 3, 1)) ?_
      exact r_iret h rfl (by decide +kernel : decode cX3_lastsBehind 53 = .ok (.ireturn, 1)) rfl ⟨rfl, _, rfl, H⟩
  · have H := H2 hc
    refine r_iloadn h (q := 1) 1 rfl (by decide +kernel : decode cX3_lastsBehind 12 = .ok (.iload_n 1, 1)) ?_
    refine r_iload h 4 rfl (by decide +kernel : decode cX3_lastsBehind 13 = .ok (.iload 4, 2)) ?_
    refine r_ishr h (by decide +kernel : decode cX3_lastsBehind 15 = .ok (.ishr, 1)) ?_
    refine r_iconst h (v := 1) (by decide +kernel : decode cX3_lastsBehind 16 = .ok (.iconst 1, 1)) ?_
    refine r_iand h (by decide +kernel : decode cX3_lastsBehind 17 = .ok (.iand, 1)) ?_
    obtain ⟨H1, H2⟩ := H
    refine r_if_eq h 38 (rng_toInt _) (by decide) (by decide +kernel : decode cX3_lastsBehind 18 = .ok (.ifCond .eq 20, 3)) (fun hc => ?_) (fun hc => ?_)
    · have H := H1 hc
      refine r_iinc h (i := 4) (v := 1) (L' := [(4, vi (x4 + 1)), (0, vr b0), (1, vi x1), (2, vi x2), (3, vi x3)]) 4 rfl (by decide) rfl (by decide +kernel : decode cX3_lastsBehind 38 = .ok (.iinc 4 1, 3)) ?_
      refine r_goto h 5 (by decide) (by decide +kernel : decode cX3_lastsBehind 41 = .ok (.goto (-36), 3)) ?_
      refine r_drop h [1, 2, 3, 4, 0] rfl ?_
      exact H
    · have H := H2 hc
      refine r_aloadn h (q := 0) 0 rfl (by decide +kernel : decode cX3_lastsBehind 21 = .ok (.aload_n 0, 1)) ?_
      refine r_iloadn h (q := 2) 2 rfl (by decide +kernel : decode cX3_lastsBehind 22 = .ok (.iload_n 2, 1)) ?_
      refine r_iload h 4 rfl (by decide +kernel : decode cX3_lastsBehind 23 = .ok (.iload 4, 2)) ?_
      obtain ⟨P2, hSP2, H⟩ := H
      refine r_callS h (as := [vr b0, vi x2, vi x4]) (S := []) m_Rows_55 hSP2 (by decide) (Nat.le_refl _) rfl rfl (Nat.le_of_ble_eq_true rfl) (by decide +kernel : decode cX3_lastsBehind 25 = .ok (.invokestatic 55, 3)) ?_
      rintro _ _ M2 ⟨rfl, r2, rfl, hP⟩
      have H := H r2 M2 hP
      show K NN RRC _ _ [vi r2] _
      obtain ⟨g1, H⟩ := H
      obtain ⟨H1, H2⟩ := H
      refine r_if_ne h 38 g1 (by decide) (by decide +kernel : decode cX3_lastsBehind 28 = .ok (.ifCond .ne 10, 3)) (fun hc => ?_) (fun hc => ?_)
      · have H := H1 hc
        refine r_iinc h (i := 4) (v := 1) (L' := [(4, vi (x4 + 1)), (0, vr b0), (1, vi x1), (2, vi x2), (3, vi x3)]) 4 rfl (by decide) rfl (by decide +kernel : decode cX3_lastsBehind 38 = .ok (.iinc 4 1, 3)) ?_
        refine r_goto h 5 (by decide) (by decide +kernel : decode cX3_lastsBehind 41 = .ok (.goto (-36), 3)) ?_
        refine r_drop h [1, 2, 3, 4, 0] rfl ?_
        exact H
      · have H := H2 hc
        refine r_iloadn h (q := 3) 3 rfl (by decide +kernel : decode cX3_lastsBehind 31 = .ok (.iload_n 3, 1)) ?_
        refine r_iconst h (v := 1) (by decide +kernel : decode cX3_lastsBehind 32 = .ok (.iconst 1, 1)) ?_
        refine r_iload h 4 rfl (by decide +kernel : decode cX3_lastsBehind 33 = .ok (.iload 4, 2)) ?_
        refine r_ishl h (by decide +kernel : decode cX3_lastsBehind 35 = .ok (.ishl, 1)) ?_
        refine r_ior h (by decide +kernel : decode cX3_lastsBehind 36 = .ok (.ior, 1)) ?_
        refine r_istoren h (q := 3) (L' := [(3, vi (orI x3 (shlI 1 x4))), (0, vr b0), (1, vi x1), (2, vi x2), (4, vi x4)]) (by decide) rfl (by decide +kernel : decode cX3_lastsBehind 37 = .ok (.istore_n 3, 1)) ?_
        refine r_iinc h (i := 4) (v := 1) (L' := [(4, vi (x4 + 1)), (3, vi (orI x3 (shlI 1 x4))), (0, vr b0), (1, vi x1), (2, vi x2)]) 4 rfl (by decide) rfl (by decide +kernel : decode cX3_lastsBehind 38 = .ok (.iinc 4 1, 3)) ?_
        refine r_goto h 5 (by decide) (by decide +kernel : decode cX3_lastsBehind 41 = .ok (.goto (-36), 3)) ?_
        refine r_drop h [2, 3, 4, 1, 0] rfl ?_
        exact H
set_option maxHeartbeats 4000000 in
set_option maxRecDepth 100000 in
theorem w_Rows_restBy_0 {P : Int → Mm → Prop} {K : Nat → Rr → Nat → List (Nat × AV) → List AV → Mm → Prop} (h : EK shC yX3_restBy cX3_restBy 7 (some .int) 3 NN NN (QI RRC P) K) (b : Nat) (hb : At shC NN b (.inl 2)) (b1 : Nat) (hb1 : At shC NN b1 (.inl 7)) (x2 : Int) (x3 : Int) (x4 : Int) (x5 : Int) (M : Mm)
    (H : (rng x5) ∧ (x5 = 0 → (∃ P1 : Int → Mm → Prop, S_Town_isCat b1 x4 M P1 ∧ ∀ (r1 : Int) (M1 : Mm), P1 r1 M1 → (rng r1) ∧ (r1 = 0 → (K NN RRC 34 [(0, vr b), (2, vi x2), (3, vi x3), (4, vi x4)] [vi x4] M1)) ∧ (r1 ≠ 0 → (K NN RRC 34 [(0, vr b), (2, vi x2), (3, vi x3), (4, vi x4)] [vi x3] M1)))) ∧ (x5 ≠ 0 → (∃ P2 : Int → Mm → Prop, S_Rows_shunsLast b1 x4 x3 M P2 ∧ ∀ (r2 : Int) (M2 : Mm), P2 r2 M2 → (rng r2) ∧ (r2 = 0 → (∃ P3 : Int → Mm → Prop, S_Town_isCat b1 x4 M2 P3 ∧ ∀ (r3 : Int) (M3 : Mm), P3 r3 M3 → (rng r3) ∧ (r3 = 0 → (K NN RRC 34 [(0, vr b), (2, vi x2), (3, vi x3), (4, vi x4)] [vi x4] M3)) ∧ (r3 ≠ 0 → (K NN RRC 34 [(0, vr b), (2, vi x2), (3, vi x3), (4, vi x4)] [vi x3] M3)))) ∧ (r2 ≠ 0 → (P 9999 M2))))) :
    K NN RRC 0 [(0, vr b), (1, vr b1), (2, vi x2), (3, vi x3), (4, vi x4), (5, vi x5)] [] M := by
  refine r_iload h 5 rfl (by decide +kernel : decode cX3_restBy 0 = .ok (.iload 5, 2)) ?_
  obtain ⟨g1, H⟩ := H
  obtain ⟨H1, H2⟩ := H
  refine r_if_eq h 19 g1 (by decide) (by decide +kernel : decode cX3_restBy 2 = .ok (.ifCond .eq 17, 3)) (fun hc => ?_) (fun hc => ?_)
  · have H := H1 hc
    refine r_aloadn h (q := 1) 1 rfl (by decide +kernel : decode cX3_restBy 19 = .ok (.aload_n 1, 1)) ?_
    refine r_iload h 4 rfl (by decide +kernel : decode cX3_restBy 20 = .ok (.iload 4, 2)) ?_
    obtain ⟨P1, hSP1, H⟩ := H
    refine r_callV h (as := [vi x4]) (S := []) (b := b1) m_Rows_59 hSP1 (by decide) (Nat.le_refl _) rfl hb1 rfl (Nat.le_of_ble_eq_true rfl) (by decide +kernel : decode cX3_restBy 22 = .ok (.invokevirtual 59, 3)) ?_
    rintro _ _ M1 ⟨rfl, r1, rfl, hP⟩
    have H := H r1 M1 hP
    show K NN RRC _ _ [vi r1] _
    obtain ⟨g1, H⟩ := H
    obtain ⟨H1, H2⟩ := H
    refine r_if_eq h 32 g1 (by decide) (by decide +kernel : decode cX3_restBy 25 = .ok (.ifCond .eq 7, 3)) (fun hc => ?_) (fun hc => ?_)
    · have H := H1 hc
      refine r_iload h 4 rfl (by decide +kernel : decode cX3_restBy 32 = .ok (.iload 4, 2)) ?_
      refine r_drop h [0, 2, 3, 4] rfl ?_
      exact H
    · have H := H2 hc
      refine r_iloadn h (q := 3) 3 rfl (by decide +kernel : decode cX3_restBy 28 = .ok (.iload_n 3, 1)) ?_
      refine r_goto h 34 (by decide) (by decide +kernel : decode cX3_restBy 29 = .ok (.goto 5, 3)) ?_
      refine r_drop h [0, 2, 3, 4] rfl ?_
      exact H
  · have H := H2 hc
    refine r_aloadn h (q := 1) 1 rfl (by decide +kernel : decode cX3_restBy 5 = .ok (.aload_n 1, 1)) ?_
    refine r_iload h 4 rfl (by decide +kernel : decode cX3_restBy 6 = .ok (.iload 4, 2)) ?_
    refine r_iloadn h (q := 3) 3 rfl (by decide +kernel : decode cX3_restBy 8 = .ok (.iload_n 3, 1)) ?_
    obtain ⟨P2, hSP2, H⟩ := H
    refine r_callS h (as := [vr b1, vi x4, vi x3]) (S := []) m_Rows_55 hSP2 (by decide) (Nat.le_refl _) rfl rfl (Nat.le_of_ble_eq_true rfl) (by decide +kernel : decode cX3_restBy 9 = .ok (.invokestatic 55, 3)) ?_
    rintro _ _ M2 ⟨rfl, r2, rfl, hP⟩
    have H := H r2 M2 hP
    show K NN RRC _ _ [vi r2] _
    obtain ⟨g1, H⟩ := H
    obtain ⟨H1, H2⟩ := H
    refine r_if_eq h 19 g1 (by decide) (by decide +kernel : decode cX3_restBy 12 = .ok (.ifCond .eq 7, 3)) (fun hc => ?_) (fun hc => ?_)
    · have H := H1 hc
      refine r_aloadn h (q := 1) 1 rfl (by decide +kernel : decode cX3_restBy 19 = .ok (.aload_n 1, 1)) ?_
      refine r_iload h 4 rfl (by decide +kernel : decode cX3_restBy 20 = .ok (.iload 4, 2)) ?_
      obtain ⟨P3, hSP3, H⟩ := H
      refine r_callV h (as := [vi x4]) (S := []) (b := b1) m_Rows_59 hSP3 (by decide) (Nat.le_refl _) rfl hb1 rfl (Nat.le_of_ble_eq_true rfl) (by decide +kernel : decode cX3_restBy 22 = .ok (.invokevirtual 59, 3)) ?_
      rintro _ _ M3 ⟨rfl, r3, rfl, hP⟩
      have H := H r3 M3 hP
      show K NN RRC _ _ [vi r3] _
      obtain ⟨g1, H⟩ := H
      obtain ⟨H1, H2⟩ := H
      refine r_if_eq h 32 g1 (by decide) (by decide +kernel : decode cX3_restBy 25 = .ok (.ifCond .eq 7, 3)) (fun hc => ?_) (fun hc => ?_)
      · have H := H1 hc
        refine r_iload h 4 rfl (by decide +kernel : decode cX3_restBy 32 = .ok (.iload 4, 2)) ?_
        refine r_drop h [0, 2, 3, 4] rfl ?_
        exact H
      · have H := H2 hc
        refine r_iloadn h (q := 3) 3 rfl (by decide +kernel : decode cX3_restBy 28 = .ok (.iload_n 3, 1)) ?_
        refine r_goto h 34 (by decide) (by decide +kernel : decode cX3_restBy 29 = .ok (.goto 5, 3)) ?_
        refine r_drop h [0, 2, 3, 4] rfl ?_
        exact H
    · have H := H2 hc
      refine r_sipush h (v := 9999) (by decide) (by decide +kernel : decode cX3_restBy 15 = .ok (.sipush 9999, 3)) ?_
      exact r_iret h rfl (by decide +kernel : decode cX3_restBy 18 = .ok (.ireturn, 1)) rfl ⟨rfl, _, rfl, H⟩
set_option maxHeartbeats 4000000 in
set_option maxRecDepth 100000 in
theorem w_Rows_restBy_34 {P : Int → Mm → Prop} {K : Nat → Rr → Nat → List (Nat × AV) → List AV → Mm → Prop} (h : EK shC yX3_restBy cX3_restBy 7 (some .int) 3 NN NN (QI RRC P) K) (b : Nat) (hb : At shC NN b (.inl 2)) (x2 : Int) (x3 : Int) (x4 : Int) (s0 : Int) (M : Mm)
    (H : (0 ≤ ((x3 * 7) + x4) ∧ ((x3 * 7) + x4) < 56) ∧ (0 ≤ (((orI x2 (shlI 1 x4)) * 8) + s0) ∧ (((orI x2 (shlI 1 x4)) * 8) + s0) < 1024) ∧ P ((M (b + 2) ((x3 * 7) + x4).toNat) + (M (b + 3) (((orI x2 (shlI 1 x4)) * 8) + s0).toNat)) M) :
    K NN RRC 34 [(0, vr b), (2, vi x2), (3, vi x3), (4, vi x4)] [vi s0] M := by
  refine r_istore h (L' := [(6, vi s0), (0, vr b), (2, vi x2), (3, vi x3), (4, vi x4)]) (by decide) rfl (by decide +kernel : decode cX3_restBy 34 = .ok (.istore 6, 2)) ?_
  refine r_aloadn h (q := 0) 1 rfl (by decide +kernel : decode cX3_restBy 36 = .ok (.aload_n 0, 1)) ?_
  refine r_getR h (r := (b + 2)) f_Rows_15 hb (rr_2_2 hb) (by omega) (by decide +kernel : decode cX3_restBy 37 = .ok (.getfield 15, 3)) ?_
  refine r_iloadn h (q := 3) 3 rfl (by decide +kernel : decode cX3_restBy 40 = .ok (.iload_n 3, 1)) ?_
  refine r_bipush h (v := 7) (by decide) (by decide +kernel : decode cX3_restBy 41 = .ok (.bipush 7, 2)) ?_
  refine r_imul h (by decide +kernel : decode cX3_restBy 43 = .ok (.imul, 1)) ?_
  refine r_iload h 4 rfl (by decide +kernel : decode cX3_restBy 44 = .ok (.iload 4, 2)) ?_
  refine r_iadd h (by decide +kernel : decode cX3_restBy 46 = .ok (.iadd, 1)) ?_
  obtain ⟨g1, H⟩ := H
  refine r_iald h ((x3 * 7) + x4).toNat rfl (at_2_2 hb) g1 (by decide) (by decide +kernel : decode cX3_restBy 47 = .ok (.iaload, 1)) ?_
  refine r_aloadn h (q := 0) 1 rfl (by decide +kernel : decode cX3_restBy 48 = .ok (.aload_n 0, 1)) ?_
  refine r_getR h (r := (b + 3)) f_Rows_18 hb (rr_2_3 hb) (by omega) (by decide +kernel : decode cX3_restBy 49 = .ok (.getfield 18, 3)) ?_
  refine r_iloadn h (q := 2) 2 rfl (by decide +kernel : decode cX3_restBy 52 = .ok (.iload_n 2, 1)) ?_
  refine r_iconst h (v := 1) (by decide +kernel : decode cX3_restBy 53 = .ok (.iconst 1, 1)) ?_
  refine r_iload h 4 rfl (by decide +kernel : decode cX3_restBy 54 = .ok (.iload 4, 2)) ?_
  refine r_ishl h (by decide +kernel : decode cX3_restBy 56 = .ok (.ishl, 1)) ?_
  refine r_ior h (by decide +kernel : decode cX3_restBy 57 = .ok (.ior, 1)) ?_
  refine r_bipush h (v := 8) (by decide) (by decide +kernel : decode cX3_restBy 58 = .ok (.bipush 8, 2)) ?_
  refine r_imul h (by decide +kernel : decode cX3_restBy 60 = .ok (.imul, 1)) ?_
  refine r_iload h 0 rfl (by decide +kernel : decode cX3_restBy 61 = .ok (.iload 6, 2)) ?_
  refine r_iadd h (by decide +kernel : decode cX3_restBy 63 = .ok (.iadd, 1)) ?_
  obtain ⟨g1, H⟩ := H
  refine r_iald h (((orI x2 (shlI 1 x4)) * 8) + s0).toNat rfl (at_2_3 hb) g1 (by decide) (by decide +kernel : decode cX3_restBy 64 = .ok (.iaload, 1)) ?_
  refine r_iadd h (by decide +kernel : decode cX3_restBy 65 = .ok (.iadd, 1)) ?_
  exact r_iret h rfl (by decide +kernel : decode cX3_restBy 66 = .ok (.ireturn, 1)) rfl ⟨rfl, _, rfl, H⟩
set_option maxHeartbeats 4000000 in
set_option maxRecDepth 100000 in
theorem w_Rows_bestQuestion_0 {P : Int → Mm → Prop} {K : Nat → Rr → Nat → List (Nat × AV) → List AV → Mm → Prop} (h : EK shC yX3_bestQuestion cX3_bestQuestion 9 (some .int) 3 NN NN (QI RRC P) K) (b : Nat) (hb : At shC NN b (.inl 2)) (b1 : Nat) (hb1 : At shC NN b1 (.inl 4)) (x2 : Int) (M : Mm)
    (H : ∃ P1 : Int → Mm → Prop, S_Rows_countOrders b b1 x2 M P1 ∧ ∀ (r1 : Int) (M1 : Mm), P1 r1 M1 → K NN RRC 16 [(0, vr b), (2, vi x2), (3, vi r1), (4, vi r1), (5, vi (-1)), (6, vi 0)] [] M1) :
    K NN RRC 0 [(0, vr b), (1, vr b1), (2, vi x2)] [] M := by
  refine r_aloadn h (q := 0) 0 rfl (by decide +kernel : decode cX3_bestQuestion 0 = .ok (.aload_n 0, 1)) ?_
  refine r_aloadn h (q := 1) 1 rfl (by decide +kernel : decode cX3_bestQuestion 1 = .ok (.aload_n 1, 1)) ?_
  refine r_iloadn h (q := 2) 2 rfl (by decide +kernel : decode cX3_bestQuestion 2 = .ok (.iload_n 2, 1)) ?_
  obtain ⟨P1, hSP1, H⟩ := H
  refine r_callV h (as := [vr b1, vi x2]) (S := []) (b := b) m_Rows_116 hSP1 (by decide) (Nat.le_refl _) rfl hb rfl (Nat.le_of_ble_eq_true rfl) (by decide +kernel : decode cX3_bestQuestion 3 = .ok (.invokevirtual 116, 3)) ?_
  rintro _ _ M1 ⟨rfl, r1, rfl, hP⟩
  have H := H r1 M1 hP
  show K NN RRC _ _ [vi r1] _
  refine r_istoren h (q := 3) (L' := [(3, vi r1), (0, vr b), (1, vr b1), (2, vi x2)]) (by decide) rfl (by decide +kernel : decode cX3_bestQuestion 6 = .ok (.istore_n 3, 1)) ?_
  refine r_iloadn h (q := 3) 0 rfl (by decide +kernel : decode cX3_bestQuestion 7 = .ok (.iload_n 3, 1)) ?_
  refine r_istore h (L' := [(4, vi r1), (3, vi r1), (0, vr b), (1, vr b1), (2, vi x2)]) (by decide) rfl (by decide +kernel : decode cX3_bestQuestion 8 = .ok (.istore 4, 2)) ?_
  refine r_iconst h (v := (-1)) (by decide +kernel : decode cX3_bestQuestion 10 = .ok (.iconst (-1), 1)) ?_
  refine r_istore h (L' := [(5, vi (-1)), (4, vi r1), (3, vi r1), (0, vr b), (1, vr b1), (2, vi x2)]) (by decide) rfl (by decide +kernel : decode cX3_bestQuestion 11 = .ok (.istore 5, 2)) ?_
  refine r_iconst h (v := 0) (by decide +kernel : decode cX3_bestQuestion 13 = .ok (.iconst 0, 1)) ?_
  refine r_istore h (L' := [(6, vi 0), (5, vi (-1)), (4, vi r1), (3, vi r1), (0, vr b), (1, vr b1), (2, vi x2)]) (by decide) rfl (by decide +kernel : decode cX3_bestQuestion 14 = .ok (.istore 6, 2)) ?_
  refine r_drop h [4, 6, 3, 2, 1, 0] rfl ?_
  exact H
set_option maxHeartbeats 4000000 in
set_option maxRecDepth 100000 in
theorem w_Rows_bestQuestion_16 {P : Int → Mm → Prop} {K : Nat → Rr → Nat → List (Nat × AV) → List AV → Mm → Prop} (h : EK shC yX3_bestQuestion cX3_bestQuestion 9 (some .int) 3 NN NN (QI RRC P) K) (b : Nat) (hb : At shC NN b (.inl 2)) (x2 : Int) (x3 : Int) (x4 : Int) (x5 : Int) (x6 : Int) (M : Mm)
    (H : (rng x6) ∧ (rng x2) ∧ (x2 ≤ x6 → (P x5 M)) ∧ (¬ (x2 ≤ x6) → (K NN RRC 28 [(0, vr b), (2, vi x2), (3, vi x3), (4, vi x4), (5, vi x5), (6, vi x6), (7, vi (x6 + 1))] [] M))) :
    K NN RRC 16 [(0, vr b), (2, vi x2), (3, vi x3), (4, vi x4), (5, vi x5), (6, vi x6)] [] M := by
  refine r_iload h 5 rfl (by decide +kernel : decode cX3_bestQuestion 16 = .ok (.iload 6, 2)) ?_
  refine r_iloadn h (q := 2) 1 rfl (by decide +kernel : decode cX3_bestQuestion 18 = .ok (.iload_n 2, 1)) ?_
  obtain ⟨g1, g2, H⟩ := H
  obtain ⟨H1, H2⟩ := H
  refine r_icmp_ge h 79 g1 g2 (by decide) (by decide +kernel : decode cX3_bestQuestion 19 = .ok (.if_icmp .ge 60, 3)) (fun hc => ?_) (fun hc => ?_)
  · have H := H1 hc
    refine r_iload h 4 rfl (by decide +kernel : decode cX3_bestQuestion 79 = .ok (.iload 5, 2)) ?_
    exact r_iret h rfl (by decide +kernel : decode cX3_bestQuestion 81 = .ok (.ireturn, 1)) rfl ⟨rfl, _, rfl, H⟩
  · have H := H2 hc
    refine r_iload h 5 rfl (by decide +kernel : decode cX3_bestQuestion 22 = .ok (.iload 6, 2)) ?_
    refine r_iconst h (v := 1) (by decide +kernel : decode cX3_bestQuestion 24 = .ok (.iconst 1, 1)) ?_
    refine r_iadd h (by decide +kernel : decode cX3_bestQuestion 25 = .ok (.iadd, 1)) ?_
    refine r_istore h (L' := [(7, vi (x6 + 1)), (0, vr b), (2, vi x2), (3, vi x3), (4, vi x4), (5, vi x5), (6, vi x6)]) (by decide) rfl (by decide +kernel : decode cX3_bestQuestion 26 = .ok (.istore 7, 2)) ?_
    refine r_drop h [1, 2, 3, 4, 5, 6, 0] rfl ?_
    exact H
set_option maxHeartbeats 4000000 in
set_option maxRecDepth 100000 in
theorem w_Rows_bestQuestion_28 {P : Int → Mm → Prop} {K : Nat → Rr → Nat → List (Nat × AV) → List AV → Mm → Prop} (h : EK shC yX3_bestQuestion cX3_bestQuestion 9 (some .int) 3 NN NN (QI RRC P) K) (b : Nat) (hb : At shC NN b (.inl 2)) (x2 : Int) (x3 : Int) (x4 : Int) (x5 : Int) (x6 : Int) (x7 : Int) (M : Mm)
    (H : (rng x7) ∧ (rng x2) ∧ (x2 ≤ x7 → (K NN RRC 16 [(0, vr b), (2, vi x2), (3, vi x3), (4, vi x4), (5, vi x5), (6, vi (x6 + 1))] [] M)) ∧ (¬ (x2 ≤ x7) → (∃ P1 : Int → Mm → Prop, S_Rows_greaterPart b x6 x7 x3 x2 M P1 ∧ ∀ (r1 : Int) (M1 : Mm), P1 r1 M1 → (rng r1) ∧ (rng x4) ∧ (x4 ≤ r1 → (K NN RRC 28 [(0, vr b), (2, vi x2), (3, vi x3), (4, vi x4), (5, vi x5), (6, vi x6), (7, vi (x7 + 1))] [] M1)) ∧ (¬ (x4 ≤ r1) → (K NN RRC 28 [(0, vr b), (2, vi x2), (3, vi x3), (4, vi r1), (5, vi ((x6 * 8) + x7)), (6, vi x6), (7, vi (x7 + 1))] [] M1))))) :
    K NN RRC 28 [(0, vr b), (2, vi x2), (3, vi x3), (4, vi x4), (5, vi x5), (6, vi x6), (7, vi x7)] [] M := by
  refine r_iload h 6 rfl (by decide +kernel : decode cX3_bestQuestion 28 = .ok (.iload 7, 2)) ?_
  refine r_iloadn h (q := 2) 1 rfl (by decide +kernel : decode cX3_bestQuestion 30 = .ok (.iload_n 2, 1)) ?_
  obtain ⟨g1, g2, H⟩ := H
  obtain ⟨H1, H2⟩ := H
  refine r_icmp_ge h 73 g1 g2 (by decide) (by decide +kernel : decode cX3_bestQuestion 31 = .ok (.if_icmp .ge 42, 3)) (fun hc => ?_) (fun hc => ?_)
  · have H := H1 hc
    refine r_iinc h (i := 6) (v := 1) (L' := [(6, vi (x6 + 1)), (0, vr b), (2, vi x2), (3, vi x3), (4, vi x4), (5, vi x5), (7, vi x7)]) 5 rfl (by decide) rfl (by decide +kernel : decode cX3_bestQuestion 73 = .ok (.iinc 6 1, 3)) ?_
    refine r_goto h 16 (by decide) (by decide +kernel : decode cX3_bestQuestion 76 = .ok (.goto (-60), 3)) ?_
    refine r_drop h [1, 2, 3, 4, 5, 0] rfl ?_
    exact H
  · have H := H2 hc
    refine r_aloadn h (q := 0) 0 rfl (by decide +kernel : decode cX3_bestQuestion 34 = .ok (.aload_n 0, 1)) ?_
    refine r_iload h 5 rfl (by decide +kernel : decode cX3_bestQuestion 35 = .ok (.iload 6, 2)) ?_
    refine r_iload h 6 rfl (by decide +kernel : decode cX3_bestQuestion 37 = .ok (.iload 7, 2)) ?_
    refine r_iloadn h (q := 3) 2 rfl (by decide +kernel : decode cX3_bestQuestion 39 = .ok (.iload_n 3, 1)) ?_
    refine r_iloadn h (q := 2) 1 rfl (by decide +kernel : decode cX3_bestQuestion 40 = .ok (.iload_n 2, 1)) ?_
    obtain ⟨P1, hSP1, H⟩ := H
    refine r_callV h (as := [vi x6, vi x7, vi x3, vi x2]) (S := []) (b := b) m_Rows_120 hSP1 (by decide) (Nat.le_refl _) rfl hb rfl (Nat.le_of_ble_eq_true rfl) (by decide +kernel : decode cX3_bestQuestion 41 = .ok (.invokevirtual 120, 3)) ?_
    rintro _ _ M1 ⟨rfl, r1, rfl, hP⟩
    have H := H r1 M1 hP
    show K NN RRC _ _ [vi r1] _
    refine r_istore h (L' := [(8, vi r1), (0, vr b), (2, vi x2), (3, vi x3), (4, vi x4), (5, vi x5), (6, vi x6), (7, vi x7)]) (by decide) rfl (by decide +kernel : decode cX3_bestQuestion 44 = .ok (.istore 8, 2)) ?_
    refine r_iload h 0 rfl (by decide +kernel : decode cX3_bestQuestion 46 = .ok (.iload 8, 2)) ?_
    refine r_iload h 4 rfl (by decide +kernel : decode cX3_bestQuestion 48 = .ok (.iload 4, 2)) ?_
    obtain ⟨g1, g2, H⟩ := H
    obtain ⟨H1, H2⟩ := H
    refine r_icmp_ge h 67 g1 g2 (by decide) (by decide +kernel : decode cX3_bestQuestion 50 = .ok (.if_icmp .ge 17, 3)) (fun hc => ?_) (fun hc => ?_)
    · have H := H1 hc
      refine r_iinc h (i := 7) (v := 1) (L' := [(7, vi (x7 + 1)), (8, vi r1), (0, vr b), (2, vi x2), (3, vi x3), (4, vi x4), (5, vi x5), (6, vi x6)]) 7 rfl (by decide) rfl (by decide +kernel : decode cX3_bestQuestion 67 = .ok (.iinc 7 1, 3)) ?_
      refine r_goto h 28 (by decide) (by decide +kernel : decode cX3_bestQuestion 70 = .ok (.goto (-42), 3)) ?_
      refine r_drop h [2, 3, 4, 5, 6, 7, 0] rfl ?_
      exact H
    · have H := H2 hc
      refine r_iload h 0 rfl (by decide +kernel : decode cX3_bestQuestion 53 = .ok (.iload 8, 2)) ?_
      refine r_istore h (L' := [(4, vi r1), (8, vi r1), (0, vr b), (2, vi x2), (3, vi x3), (5, vi x5), (6, vi x6), (7, vi x7)]) (by decide) rfl (by decide +kernel : decode cX3_bestQuestion 55 = .ok (.istore 4, 2)) ?_
      refine r_iload h 6 rfl (by decide +kernel : decode cX3_bestQuestion 57 = .ok (.iload 6, 2)) ?_
      refine r_bipush h (v := 8) (by decide) (by decide +kernel : decode cX3_bestQuestion 59 = .ok (.bipush 8, 2)) ?_
      refine r_imul h (by decide +kernel : decode cX3_bestQuestion 61 = .ok (.imul, 1)) ?_
      refine r_iload h 7 rfl (by decide +kernel : decode cX3_bestQuestion 62 = .ok (.iload 7, 2)) ?_
      refine r_iadd h (by decide +kernel : decode cX3_bestQuestion 64 = .ok (.iadd, 1)) ?_
      refine r_istore h (L' := [(5, vi ((x6 * 8) + x7)), (4, vi r1), (8, vi r1), (0, vr b), (2, vi x2), (3, vi x3), (6, vi x6), (7, vi x7)]) (by decide) rfl (by decide +kernel : decode cX3_bestQuestion 65 = .ok (.istore 5, 2)) ?_
      refine r_iinc h (i := 7) (v := 1) (L' := [(7, vi (x7 + 1)), (5, vi ((x6 * 8) + x7)), (4, vi r1), (8, vi r1), (0, vr b), (2, vi x2), (3, vi x3), (6, vi x6)]) 7 rfl (by decide) rfl (by decide +kernel : decode cX3_bestQuestion 67 = .ok (.iinc 7 1, 3)) ?_
      refine r_goto h 28 (by decide) (by decide +kernel : decode cX3_bestQuestion 70 = .ok (.goto (-42), 3)) ?_
      refine r_drop h [4, 5, 6, 2, 1, 7, 0] rfl ?_
      exact H
set_option maxHeartbeats 4000000 in
set_option maxRecDepth 100000 in
theorem w_Mangle_pressOne_0 {P : Mm → Prop} {K : Nat → Rr → Nat → List (Nat × AV) → List AV → Mm → Prop} (h : EK shC yX2_pressOne cX2_pressOne 7 none 4 NN NN (QV RRC P) K) (b : Nat) (hb : At shC NN b (.inl 1)) (b1 : Nat) (hb1 : At shC NN b1 (.inl 7)) (b2 : Nat) (hb2 : At shC NN b2 (.inl 5)) (x3 : Int) (x4 : Int) (M : Mm)
    (H : ∃ P1 : Int → Mm → Prop, S_Town_pressedOut b1 b2 x4 M P1 ∧ ∀ (r1 : Int) (M1 : Mm), P1 r1 M1 → (rng x3) ∧ (x3 ≠ (-1) → (∃ P2 : Int → Mm → Prop, S_Town_printedOn b1 b2 x3 x4 M1 P2 ∧ ∀ (r2 : Int) (M2 : Mm), P2 r2 M2 → K NN RRC 26 [(0, vr b), (1, vr b1), (2, vr b2), (4, vi x4), (5, vi r1)] [vi r2] M2)) ∧ (x3 = (-1) → (K NN RRC 26 [(0, vr b), (1, vr b1), (2, vr b2), (4, vi x4), (5, vi r1)] [vi 0] M1))) :
    K NN RRC 0 [(0, vr b), (1, vr b1), (2, vr b2), (3, vi x3), (4, vi x4)] [] M := by
  refine r_aloadn h (q := 1) 1 rfl (by decide +kernel : decode cX2_pressOne 0 = .ok (.aload_n 1, 1)) ?_
  refine r_aloadn h (q := 2) 2 rfl (by decide +kernel : decode cX2_pressOne 1 = .ok (.aload_n 2, 1)) ?_
  refine r_iload h 4 rfl (by decide +kernel : decode cX2_pressOne 2 = .ok (.iload 4, 2)) ?_
  obtain ⟨P1, hSP1, H⟩ := H
  refine r_callV h (as := [vr b2, vi x4]) (S := []) (b := b1) m_Mangle_51 hSP1 (by decide) (Nat.le_refl _) rfl hb1 rfl (Nat.le_of_ble_eq_true rfl) (by decide +kernel : decode cX2_pressOne 4 = .ok (.invokevirtual 51, 3)) ?_
  rintro _ _ M1 ⟨rfl, r1, rfl, hP⟩
  have H := H r1 M1 hP
  show K NN RRC _ _ [vi r1] _
  refine r_istore h (L' := [(5, vi r1), (0, vr b), (1, vr b1), (2, vr b2), (3, vi x3), (4, vi x4)]) (by decide) rfl (by decide +kernel : decode cX2_pressOne 7 = .ok (.istore 5, 2)) ?_
  refine r_iloadn h (q := 3) 4 rfl (by decide +kernel : decode cX2_pressOne 9 = .ok (.iload_n 3, 1)) ?_
  refine r_iconst h (v := (-1)) (by decide +kernel : decode cX2_pressOne 10 = .ok (.iconst (-1), 1)) ?_
  obtain ⟨g1, H⟩ := H
  obtain ⟨H1, H2⟩ := H
  refine r_icmp_ne h 18 g1 (by decide) (by decide) (by decide +kernel : decode cX2_pressOne 11 = .ok (.if_icmp .ne 7, 3)) (fun hc => ?_) (fun hc => ?_)
  · have H := H1 hc
    refine r_aloadn h (q := 1) 2 rfl (by decide +kernel : decode cX2_pressOne 18 = .ok (.aload_n 1, 1)) ?_
    refine r_aloadn h (q := 2) 3 rfl (by decide +kernel : decode cX2_pressOne 19 = .ok (.aload_n 2, 1)) ?_
    refine r_iloadn h (q := 3) 4 rfl (by decide +kernel : decode cX2_pressOne 20 = .ok (.iload_n 3, 1)) ?_
    refine r_iload h 5 rfl (by decide +kernel : decode cX2_pressOne 21 = .ok (.iload 4, 2)) ?_
    obtain ⟨P2, hSP2, H⟩ := H
    refine r_callV h (as := [vr b2, vi x3, vi x4]) (S := []) (b := b1) m_Mangle_55 hSP2 (by decide) (Nat.le_refl _) rfl hb1 rfl (Nat.le_of_ble_eq_true rfl) (by decide +kernel : decode cX2_pressOne 23 = .ok (.invokevirtual 55, 3)) ?_
    rintro _ _ M2 ⟨rfl, r2, rfl, hP⟩
    have H := H r2 M2 hP
    show K NN RRC _ _ [vi r2] _
    refine r_drop h [1, 2, 3, 5, 0] rfl ?_
    exact H
  · have H := H2 hc
    refine r_iconst h (v := 0) (by decide +kernel : decode cX2_pressOne 14 = .ok (.iconst 0, 1)) ?_
    refine r_goto h 26 (by decide) (by decide +kernel : decode cX2_pressOne 15 = .ok (.goto 11, 3)) ?_
    refine r_drop h [1, 2, 3, 5, 0] rfl ?_
    exact H
set_option maxHeartbeats 4000000 in
set_option maxRecDepth 100000 in
theorem w_Mangle_pressOne_26 {P : Mm → Prop} {K : Nat → Rr → Nat → List (Nat × AV) → List AV → Mm → Prop} (h : EK shC yX2_pressOne cX2_pressOne 7 none 4 NN NN (QV RRC P) K) (b : Nat) (hb : At shC NN b (.inl 1)) (b1 : Nat) (hb1 : At shC NN b1 (.inl 7)) (b2 : Nat) (hb2 : At shC NN b2 (.inl 5)) (x4 : Int) (x5 : Int) (s0 : Int) (M : Mm)
    (H : ∃ P1 : Mm → Prop, S_State_takeOut b2 x4 x5 M P1 ∧ ∀ M1 : Mm, P1 M1 → ∃ P2 : Mm → Prop, S_State_printOn b2 x4 s0 M1 P2 ∧ ∀ M2 : Mm, P2 M2 → ∀ M3 : Mm, M3 = (upr M2 b (up1 (M2 b) 0 ((M2 b 0) + x5))) → ∀ M4 : Mm, M4 = (upr M3 b (up1 (M3 b) 1 ((M3 b 1) + s0))) → (0 ≤ x4 ∧ x4 < 7) ∧ (rng (M4 (b1 + 2) x4.toNat)) ∧ ((M4 (b1 + 2) x4.toNat) ≠ 2 → (K NN RRC 92 [(1, vr b1), (2, vr b2), (4, vi x4)] [] M4)) ∧ ((M4 (b1 + 2) x4.toNat) = 2 → ((rng ((M4 b2 5) + 1)) ∧ ∀ M5 : Mm, M5 = (upr M4 b2 (up1 (M4 b2) 5 (min ((M4 b2 5) + 1) 20))) → K NN RRC 92 [(1, vr b1), (2, vr b2), (4, vi x4)] [] M5))) :
    K NN RRC 26 [(0, vr b), (1, vr b1), (2, vr b2), (4, vi x4), (5, vi x5)] [vi s0] M := by
  refine r_istore h (L' := [(6, vi s0), (0, vr b), (1, vr b1), (2, vr b2), (4, vi x4), (5, vi x5)]) (by decide) rfl (by decide +kernel : decode cX2_pressOne 26 = .ok (.istore 6, 2)) ?_
  refine r_aloadn h (q := 2) 3 rfl (by decide +kernel : decode cX2_pressOne 28 = .ok (.aload_n 2, 1)) ?_
  refine r_iload h 4 rfl (by decide +kernel : decode cX2_pressOne 29 = .ok (.iload 4, 2)) ?_
  refine r_iload h 5 rfl (by decide +kernel : decode cX2_pressOne 31 = .ok (.iload 5, 2)) ?_
  obtain ⟨P1, hSP1, H⟩ := H
  refine r_callV h (as := [vi x4, vi x5]) (S := []) (b := b2) m_Mangle_59 hSP1 (by decide) (Nat.le_refl _) rfl hb2 rfl (Nat.le_of_ble_eq_true rfl) (by decide +kernel : decode cX2_pressOne 33 = .ok (.invokevirtual 59, 3)) ?_
  rintro _ _ M1 ⟨rfl, rfl, hP⟩
  have H := H M1 hP
  show K NN RRC _ _ [] _
  refine r_aloadn h (q := 2) 3 rfl (by decide +kernel : decode cX2_pressOne 36 = .ok (.aload_n 2, 1)) ?_
  refine r_iload h 4 rfl (by decide +kernel : decode cX2_pressOne 37 = .ok (.iload 4, 2)) ?_
  refine r_iload h 0 rfl (by decide +kernel : decode cX2_pressOne 39 = .ok (.iload 6, 2)) ?_
  obtain ⟨P2, hSP2, H⟩ := H
  refine r_callV h (as := [vi x4, vi s0]) (S := []) (b := b2) m_Mangle_62 hSP2 (by decide) (Nat.le_refl _) rfl hb2 rfl (Nat.le_of_ble_eq_true rfl) (by decide +kernel : decode cX2_pressOne 41 = .ok (.invokevirtual 62, 3)) ?_
  rintro _ _ M2 ⟨rfl, rfl, hP⟩
  have H := H M2 hP
  show K NN RRC _ _ [] _
  refine r_aloadn h (q := 0) 1 rfl (by decide +kernel : decode cX2_pressOne 44 = .ok (.aload_n 0, 1)) ?_
  refine r_dup h rfl (by decide +kernel : decode cX2_pressOne 45 = .ok (.dup, 1)) ?_
  refine r_getI h f_Mangle_9 hb (by decide +kernel : decode cX2_pressOne 46 = .ok (.getfield 9, 3)) ?_
  refine r_iload h 5 rfl (by decide +kernel : decode cX2_pressOne 49 = .ok (.iload 5, 2)) ?_
  refine r_iadd h (by decide +kernel : decode cX2_pressOne 51 = .ok (.iadd, 1)) ?_
  refine r_putI h f_Mangle_9 hb rfl rfl (by decide +kernel : decode cX2_pressOne 52 = .ok (.putfield 9, 3)) ?_
  have H := H _ rfl
  revert H
  generalize (upr M2 b (up1 (M2 b) 0 ((M2 b 0) + x5))) = M3
  intro H
  refine r_aloadn h (q := 0) 1 rfl (by decide +kernel : decode cX2_pressOne 55 = .ok (.aload_n 0, 1)) ?_
  refine r_dup h rfl (by decide +kernel : decode cX2_pressOne 56 = .ok (.dup, 1)) ?_
  refine r_getI h f_Mangle_15 hb (by decide +kernel : decode cX2_pressOne 57 = .ok (.getfield 15, 3)) ?_
  refine r_iload h 0 rfl (by decide +kernel : decode cX2_pressOne 60 = .ok (.iload 6, 2)) ?_
  refine r_iadd h (by decide +kernel : decode cX2_pressOne 62 = .ok (.iadd, 1)) ?_
  refine r_putI h f_Mangle_15 hb rfl rfl (by decide +kernel : decode cX2_pressOne 63 = .ok (.putfield 15, 3)) ?_
  have H := H _ rfl
  revert H
  generalize (upr M3 b (up1 (M3 b) 1 ((M3 b 1) + s0))) = M4
  intro H
  refine r_aloadn h (q := 1) 2 rfl (by decide +kernel : decode cX2_pressOne 66 = .ok (.aload_n 1, 1)) ?_
  refine r_getR h (r := (b1 + 2)) f_Mangle_65 hb1 (rr_7_1 hb1) (by omega) (by decide +kernel : decode cX2_pressOne 67 = .ok (.getfield 65, 3)) ?_
  refine r_iload h 4 rfl (by decide +kernel : decode cX2_pressOne 70 = .ok (.iload 4, 2)) ?_
  obtain ⟨g1, H⟩ := H
  refine r_iald h x4.toNat rfl (at_7_1 hb1) g1 (by decide) (by decide +kernel : decode cX2_pressOne 72 = .ok (.iaload, 1)) ?_
  refine r_iconst h (v := 2) (by decide +kernel : decode cX2_pressOne 73 = .ok (.iconst 2, 1)) ?_
  obtain ⟨g1, H⟩ := H
  obtain ⟨H1, H2⟩ := H
  refine r_icmp_ne h 92 g1 (by decide) (by decide) (by decide +kernel : decode cX2_pressOne 74 = .ok (.if_icmp .ne 18, 3)) (fun hc => ?_) (fun hc => ?_)
  · have H := H1 hc
    refine r_drop h [2, 3, 4] rfl ?_
    exact H
  · have H := H2 hc
    refine r_aloadn h (q := 2) 3 rfl (by decide +kernel : decode cX2_pressOne 77 = .ok (.aload_n 2, 1)) ?_
    refine r_aloadn h (q := 2) 3 rfl (by decide +kernel : decode cX2_pressOne 78 = .ok (.aload_n 2, 1)) ?_
    refine r_getI h f_Mangle_68 hb2 (by decide +kernel : decode cX2_pressOne 79 = .ok (.getfield 68, 3)) ?_
    refine r_iconst h (v := 1) (by decide +kernel : decode cX2_pressOne 82 = .ok (.iconst 1, 1)) ?_
    refine r_iadd h (by decide +kernel : decode cX2_pressOne 83 = .ok (.iadd, 1)) ?_
    refine r_bipush h (v := 20) (by decide) (by decide +kernel : decode cX2_pressOne 84 = .ok (.bipush 20, 2)) ?_
    obtain ⟨g1, H⟩ := H
    refine r_min h g1 (by decide) kM_min_Mangle (by decide) (Nat.le_refl _) (Nat.le_of_ble_eq_true rfl) (by decide +kernel : decode cX2_pressOne 86 = .ok (.invokestatic 71, 3)) ?_
    rw [min_if]
    have gm1 : rng (min ((M4 b2 5) + 1) 20) := min_rng g1 (by decide)
    refine r_putI h f_Mangle_68 hb2 rfl rfl (by decide +kernel : decode cX2_pressOne 89 = .ok (.putfield 68, 3)) ?_
    have H := H _ rfl
    revert H
    generalize (upr M4 b2 (up1 (M4 b2) 5 (min ((M4 b2 5) + 1) 20))) = M5
    intro H
    refine r_drop h [2, 3, 4] rfl ?_
    exact H
set_option maxHeartbeats 4000000 in
set_option maxRecDepth 100000 in
theorem w_Mangle_pressOne_92 {P : Mm → Prop} {K : Nat → Rr → Nat → List (Nat × AV) → List AV → Mm → Prop} (h : EK shC yX2_pressOne cX2_pressOne 7 none 4 NN NN (QV RRC P) K) (b1 : Nat) (hb1 : At shC NN b1 (.inl 7)) (b2 : Nat) (hb2 : At shC NN b2 (.inl 5)) (x4 : Int) (M : Mm)
    (H : (0 ≤ x4 ∧ x4 < 7) ∧ (rng (M (b1 + 2) x4.toNat)) ∧ ((M (b1 + 2) x4.toNat) ≠ 1 → (P M)) ∧ ((M (b1 + 2) x4.toNat) = 1 → ((0 ≤ x4 ∧ x4 < 7) ∧ (rng (M (b2 + 1) x4.toNat)) ∧ (rng (M b2 5)) ∧ ((M (b2 + 1) x4.toNat) ≤ (M b2 5) → (P M)) ∧ (¬ ((M (b2 + 1) x4.toNat) ≤ (M b2 5)) → ((0 ≤ x4 ∧ x4 < 7) ∧ (0 ≤ x4 ∧ x4 < 7) ∧ ∀ M1 : Mm, M1 = (upr M (b2 + 1) (up1 (M (b2 + 1)) x4.toNat ((M (b2 + 1) x4.toNat) - 1))) → P M1))))) :
    K NN RRC 92 [(1, vr b1), (2, vr b2), (4, vi x4)] [] M := by
  refine r_aloadn h (q := 1) 0 rfl (by decide +kernel : decode cX2_pressOne 92 = .ok (.aload_n 1, 1)) ?_
  refine r_getR h (r := (b1 + 2)) f_Mangle_65 hb1 (rr_7_1 hb1) (by omega) (by decide +kernel : decode cX2_pressOne 93 = .ok (.getfield 65, 3)) ?_
  refine r_iload h 2 rfl (by decide +kernel : decode cX2_pressOne 96 = .ok (.iload 4, 2)) ?_
  obtain ⟨g1, H⟩ := H
  refine r_iald h x4.toNat rfl (at_7_1 hb1) g1 (by decide) (by decide +kernel : decode cX2_pressOne 98 = .ok (.iaload, 1)) ?_
  refine r_iconst h (v := 1) (by decide +kernel : decode cX2_pressOne 99 = .ok (.iconst 1, 1)) ?_
  obtain ⟨g1, H⟩ := H
  obtain ⟨H1, H2⟩ := H
  refine r_icmp_ne h 128 g1 (by decide) (by decide) (by decide +kernel : decode cX2_pressOne 100 = .ok (.if_icmp .ne 28, 3)) (fun hc => ?_) (fun hc => ?_)
  · have H := H1 hc
    exact r_vret h rfl (by decide +kernel : decode cX2_pressOne 128 = .ok (.return_, 1)) rfl ⟨rfl, rfl, H⟩
  · have H := H2 hc
    refine r_aloadn h (q := 2) 1 rfl (by decide +kernel : decode cX2_pressOne 103 = .ok (.aload_n 2, 1)) ?_
    refine r_getR h (r := (b2 + 1)) f_Mangle_77 hb2 (rr_5_0 hb2) (by omega) (by decide +kernel : decode cX2_pressOne 104 = .ok (.getfield 77, 3)) ?_
    refine r_iload h 2 rfl (by decide +kernel : decode cX2_pressOne 107 = .ok (.iload 4, 2)) ?_
    obtain ⟨g1, H⟩ := H
    refine r_iald h x4.toNat rfl (at_5_0 hb2) g1 (by decide) (by decide +kernel : decode cX2_pressOne 109 = .ok (.iaload, 1)) ?_
    refine r_aloadn h (q := 2) 1 rfl (by decide +kernel : decode cX2_pressOne 110 = .ok (.aload_n 2, 1)) ?_
    refine r_getI h f_Mangle_68 hb2 (by decide +kernel : decode cX2_pressOne 111 = .ok (.getfield 68, 3)) ?_
    obtain ⟨g1, g2, H⟩ := H
    obtain ⟨H1, H2⟩ := H
    refine r_icmp_le h 128 g1 g2 (by decide) (by decide +kernel : decode cX2_pressOne 114 = .ok (.if_icmp .le 14, 3)) (fun hc => ?_) (fun hc => ?_)
    · have H := H1 hc
      exact r_vret h rfl (by decide +kernel : decode cX2_pressOne 128 = .ok (.return_, 1)) rfl ⟨rfl, rfl, H⟩
    · have H := H2 hc
      refine r_aloadn h (q := 2) 1 rfl (by decide +kernel : decode cX2_pressOne 117 = .ok (.aload_n 2, 1)) ?_
      refine r_getR h (r := (b2 + 1)) f_Mangle_77 hb2 (rr_5_0 hb2) (by omega) (by decide +kernel : decode cX2_pressOne 118 = .ok (.getfield 77, 3)) ?_
      refine r_iload h 2 rfl (by decide +kernel : decode cX2_pressOne 121 = .ok (.iload 4, 2)) ?_
      refine r_dup2 h rfl rfl (by decide +kernel : decode cX2_pressOne 123 = .ok (.dup2, 1)) ?_
      obtain ⟨g1, H⟩ := H
      refine r_iald h x4.toNat rfl (at_5_0 hb2) g1 (by decide) (by decide +kernel : decode cX2_pressOne 124 = .ok (.iaload, 1)) ?_
      refine r_iconst h (v := 1) (by decide +kernel : decode cX2_pressOne 125 = .ok (.iconst 1, 1)) ?_
      refine r_isub h (by decide +kernel : decode cX2_pressOne 126 = .ok (.isub, 1)) ?_
      obtain ⟨g1, H⟩ := H
      refine r_iast h x4.toNat rfl (at_5_0 hb2) g1 (by decide) (by decide +kernel : decode cX2_pressOne 127 = .ok (.iastore, 1)) ?_
      have H := H _ rfl
      revert H
      generalize (upr M (b2 + 1) (up1 (M (b2 + 1)) x4.toNat ((M (b2 + 1) x4.toNat) - 1))) = M1
      intro H
      exact r_vret h rfl (by decide +kernel : decode cX2_pressOne 128 = .ok (.return_, 1)) rfl ⟨rfl, rfl, H⟩
set_option maxHeartbeats 4000000 in
set_option maxRecDepth 100000 in
theorem w_Rows_findLasts_0 {P : Mm → Prop} {K : Nat → Rr → Nat → List (Nat × AV) → List AV → Mm → Prop} (h : EK shC yX3_findLasts cX3_findLasts 5 none 4 NN NN (QV RRC P) K) (b : Nat) (hb : At shC NN b (.inl 2)) (b1 : Nat) (hb1 : At shC NN b1 (.inl 7)) (M : Mm)
    (H : ∀ M1 : Mm, M1 = (upr M (b + 4) (up1 (M (b + 4)) 0 128)) → K NN RRC 18 [(0, vr b), (1, vr b1), (2, vi (shlI 1 (M b1 9))), (3, vi 1)] [] M1) :
    K NN RRC 0 [(0, vr b), (1, vr b1)] [] M := by
  refine r_iconst h (v := 1) (by decide +kernel : decode cX3_findLasts 0 = .ok (.iconst 1, 1)) ?_
  refine r_aloadn h (q := 1) 1 rfl (by decide +kernel : decode cX3_findLasts 1 = .ok (.aload_n 1, 1)) ?_
  refine r_getI h f_Rows_34 hb1 (by decide +kernel : decode cX3_findLasts 2 = .ok (.getfield 34, 3)) ?_
  refine r_ishl h (by decide +kernel : decode cX3_findLasts 5 = .ok (.ishl, 1)) ?_
  refine r_istoren h (q := 2) (L' := [(2, vi (shlI 1 (M b1 9))), (0, vr b), (1, vr b1)]) (by decide) rfl (by decide +kernel : decode cX3_findLasts 6 = .ok (.istore_n 2, 1)) ?_
  refine r_aloadn h (q := 0) 1 rfl (by decide +kernel : decode cX3_findLasts 7 = .ok (.aload_n 0, 1)) ?_
  refine r_getR h (r := (b + 4)) f_Rows_21 hb (rr_2_4 hb) (by omega) (by decide +kernel : decode cX3_findLasts 8 = .ok (.getfield 21, 3)) ?_
  refine r_iconst h (v := 0) (by decide +kernel : decode cX3_findLasts 11 = .ok (.iconst 0, 1)) ?_
  refine r_sipush h (v := 128) (by decide) (by decide +kernel : decode cX3_findLasts 12 = .ok (.sipush 128, 3)) ?_
  refine r_iast h 0 rfl (at_2_4 hb) (by decide) (by decide) (by decide +kernel : decode cX3_findLasts 15 = .ok (.iastore, 1)) ?_
  have H := H _ rfl
  revert H
  generalize (upr M (b + 4) (up1 (M (b + 4)) 0 128)) = M1
  intro H
  refine r_iconst h (v := 1) (by decide +kernel : decode cX3_findLasts 16 = .ok (.iconst 1, 1)) ?_
  refine r_istoren h (q := 3) (L' := [(3, vi 1), (2, vi (shlI 1 (M b1 9))), (0, vr b), (1, vr b1)]) (by decide) rfl (by decide +kernel : decode cX3_findLasts 17 = .ok (.istore_n 3, 1)) ?_
  refine r_drop h [2, 3, 1, 0] rfl ?_
  exact H
set_option maxHeartbeats 4000000 in
set_option maxRecDepth 100000 in
theorem w_Rows_findLasts_18 {P : Mm → Prop} {K : Nat → Rr → Nat → List (Nat × AV) → List AV → Mm → Prop} (h : EK shC yX3_findLasts cX3_findLasts 5 none 4 NN NN (QV RRC P) K) (b : Nat) (hb : At shC NN b (.inl 2)) (b1 : Nat) (hb1 : At shC NN b1 (.inl 7)) (x2 : Int) (x3 : Int) (M : Mm)
    (H : (rng x3) ∧ (rng x2) ∧ (x2 ≤ x3 → (P M)) ∧ (¬ (x2 ≤ x3) → ((0 ≤ x3 ∧ x3 < 128) ∧ ∀ M1 : Mm, M1 = (upr M (b + 4) (up1 (M (b + 4)) x3.toNat 0)) → K NN RRC 33 [(0, vr b), (1, vr b1), (2, vi x2), (3, vi x3), (4, vi 0)] [] M1))) :
    K NN RRC 18 [(0, vr b), (1, vr b1), (2, vi x2), (3, vi x3)] [] M := by
  refine r_iloadn h (q := 3) 3 rfl (by decide +kernel : decode cX3_findLasts 18 = .ok (.iload_n 3, 1)) ?_
  refine r_iloadn h (q := 2) 2 rfl (by decide +kernel : decode cX3_findLasts 19 = .ok (.iload_n 2, 1)) ?_
  obtain ⟨g1, g2, H⟩ := H
  obtain ⟨H1, H2⟩ := H
  refine r_icmp_ge h 89 g1 g2 (by decide) (by decide +kernel : decode cX3_findLasts 20 = .ok (.if_icmp .ge 69, 3)) (fun hc => ?_) (fun hc => ?_)
  · have H := H1 hc
    exact r_vret h rfl (by decide +kernel : decode cX3_findLasts 89 = .ok (.return_, 1)) rfl ⟨rfl, rfl, H⟩
  · have H := H2 hc
    refine r_aloadn h (q := 0) 0 rfl (by decide +kernel : decode cX3_findLasts 23 = .ok (.aload_n 0, 1)) ?_
    refine r_getR h (r := (b + 4)) f_Rows_21 hb (rr_2_4 hb) (by omega) (by decide +kernel : decode cX3_findLasts 24 = .ok (.getfield 21, 3)) ?_
    refine r_iloadn h (q := 3) 3 rfl (by decide +kernel : decode cX3_findLasts 27 = .ok (.iload_n 3, 1)) ?_
    refine r_iconst h (v := 0) (by decide +kernel : decode cX3_findLasts 28 = .ok (.iconst 0, 1)) ?_
    obtain ⟨g1, H⟩ := H
    refine r_iast h x3.toNat rfl (at_2_4 hb) g1 (by decide) (by decide +kernel : decode cX3_findLasts 29 = .ok (.iastore, 1)) ?_
    have H := H _ rfl
    revert H
    generalize (upr M (b + 4) (up1 (M (b + 4)) x3.toNat 0)) = M1
    intro H
    refine r_iconst h (v := 0) (by decide +kernel : decode cX3_findLasts 30 = .ok (.iconst 0, 1)) ?_
    refine r_istore h (L' := [(4, vi 0), (0, vr b), (1, vr b1), (2, vi x2), (3, vi x3)]) (by decide) rfl (by decide +kernel : decode cX3_findLasts 31 = .ok (.istore 4, 2)) ?_
    refine r_drop h [1, 2, 3, 4, 0] rfl ?_
    exact H
set_option maxHeartbeats 4000000 in
set_option maxRecDepth 100000 in
theorem w_Rows_findLasts_33 {P : Mm → Prop} {K : Nat → Rr → Nat → List (Nat × AV) → List AV → Mm → Prop} (h : EK shC yX3_findLasts cX3_findLasts 5 none 4 NN NN (QV RRC P) K) (b : Nat) (hb : At shC NN b (.inl 2)) (b1 : Nat) (hb1 : At shC NN b1 (.inl 7)) (x2 : Int) (x3 : Int) (x4 : Int) (M : Mm)
    (H : (rng x4) ∧ (rng (M b1 9)) ∧ ((M b1 9) ≤ x4 → (K NN RRC 18 [(0, vr b), (1, vr b1), (2, vi x2), (3, vi (x3 + 1))] [] M)) ∧ (¬ ((M b1 9) ≤ x4) → (((andI (shrI x3 x4) 1) = 0 → (K NN RRC 33 [(0, vr b), (1, vr b1), (2, vi x2), (3, vi x3), (4, vi (x4 + 1))] [] M)) ∧ ((andI (shrI x3 x4) 1) ≠ 0 → ((0 ≤ x3 ∧ x3 < 128) ∧ (0 ≤ (xorI x3 (shlI 1 x4)) ∧ (xorI x3 (shlI 1 x4)) < 128) ∧ ∃ P1 : Int → Mm → Prop, S_Rows_lastsBehind b1 (M (b + 4) (xorI x3 (shlI 1 x4)).toNat) x4 M P1 ∧ ∀ (r1 : Int) (M1 : Mm), P1 r1 M1 → (0 ≤ x3 ∧ x3 < 128) ∧ ∀ M2 : Mm, M2 = (upr M1 (b + 4) (up1 (M1 (b + 4)) x3.toNat (orI (M (b + 4) x3.toNat) r1))) → K NN RRC 33 [(0, vr b), (1, vr b1), (2, vi x2), (3, vi x3), (4, vi (x4 + 1))] [] M2))))) :
    K NN RRC 33 [(0, vr b), (1, vr b1), (2, vi x2), (3, vi x3), (4, vi x4)] [] M := by
  refine r_iload h 4 rfl (by decide +kernel : decode cX3_findLasts 33 = .ok (.iload 4, 2)) ?_
  refine r_aloadn h (q := 1) 1 rfl (by decide +kernel : decode cX3_findLasts 35 = .ok (.aload_n 1, 1)) ?_
  refine r_getI h f_Rows_34 hb1 (by decide +kernel : decode cX3_findLasts 36 = .ok (.getfield 34, 3)) ?_
  obtain ⟨g1, g2, H⟩ := H
  obtain ⟨H1, H2⟩ := H
  refine r_icmp_ge h 83 g1 g2 (by decide) (by decide +kernel : decode cX3_findLasts 39 = .ok (.if_icmp .ge 44, 3)) (fun hc => ?_) (fun hc => ?_)
  · have H := H1 hc
    refine r_iinc h (i := 3) (v := 1) (L' := [(3, vi (x3 + 1)), (0, vr b), (1, vr b1), (2, vi x2), (4, vi x4)]) 3 rfl (by decide) rfl (by decide +kernel : decode cX3_findLasts 83 = .ok (.iinc 3 1, 3)) ?_
    refine r_goto h 18 (by decide) (by decide +kernel : decode cX3_findLasts 86 = .ok (.goto (-68), 3)) ?_
    refine r_drop h [1, 2, 3, 0] rfl ?_
    exact H
  · have H := H2 hc
    refine r_iloadn h (q := 3) 3 rfl (by decide +kernel : decode cX3_findLasts 42 = .ok (.iload_n 3, 1)) ?_
    refine r_iload h 4 rfl (by decide +kernel : decode cX3_findLasts 43 = .ok (.iload 4, 2)) ?_
    refine r_ishr h (by decide +kernel : decode cX3_findLasts 45 = .ok (.ishr, 1)) ?_
    refine r_iconst h (v := 1) (by decide +kernel : decode cX3_findLasts 46 = .ok (.iconst 1, 1)) ?_
    refine r_iand h (by decide +kernel : decode cX3_findLasts 47 = .ok (.iand, 1)) ?_
    obtain ⟨H1, H2⟩ := H
    refine r_if_eq h 77 (rng_toInt _) (by decide) (by decide +kernel : decode cX3_findLasts 48 = .ok (.ifCond .eq 29, 3)) (fun hc => ?_) (fun hc => ?_)
    · have H := H1 hc
      refine r_iinc h (i := 4) (v := 1) (L' := [(4, vi (x4 + 1)), (0, vr b), (1, vr b1), (2, vi x2), (3, vi x3)]) 4 rfl (by decide) rfl (by decide +kernel : decode cX3_findLasts 77 = .ok (.iinc 4 1, 3)) ?_
      refine r_goto h 33 (by decide) (by decide +kernel : decode cX3_findLasts 80 = .ok (.goto (-47), 3)) ?_
      refine r_drop h [1, 2, 3, 4, 0] rfl ?_
      exact H
    · have H := H2 hc
      refine r_aloadn h (q := 0) 0 rfl (by decide +kernel : decode cX3_findLasts 51 = .ok (.aload_n 0, 1)) ?_
      refine r_getR h (r := (b + 4)) f_Rows_21 hb (rr_2_4 hb) (by omega) (by decide +kernel : decode cX3_findLasts 52 = .ok (.getfield 21, 3)) ?_
      refine r_iloadn h (q := 3) 3 rfl (by decide +kernel : decode cX3_findLasts 55 = .ok (.iload_n 3, 1)) ?_
      refine r_dup2 h rfl rfl (by decide +kernel : decode cX3_findLasts 56 = .ok (.dup2, 1)) ?_
      obtain ⟨g1, H⟩ := H
      refine r_iald h x3.toNat rfl (at_2_4 hb) g1 (by decide) (by decide +kernel : decode cX3_findLasts 57 = .ok (.iaload, 1)) ?_
      refine r_aloadn h (q := 1) 1 rfl (by decide +kernel : decode cX3_findLasts 58 = .ok (.aload_n 1, 1)) ?_
      refine r_aloadn h (q := 0) 0 rfl (by decide +kernel : decode cX3_findLasts 59 = .ok (.aload_n 0, 1)) ?_
      refine r_getR h (r := (b + 4)) f_Rows_21 hb (rr_2_4 hb) (by omega) (by decide +kernel : decode cX3_findLasts 60 = .ok (.getfield 21, 3)) ?_
      refine r_iloadn h (q := 3) 3 rfl (by decide +kernel : decode cX3_findLasts 63 = .ok (.iload_n 3, 1)) ?_
      refine r_iconst h (v := 1) (by decide +kernel : decode cX3_findLasts 64 = .ok (.iconst 1, 1)) ?_
      refine r_iload h 4 rfl (by decide +kernel : decode cX3_findLasts 65 = .ok (.iload 4, 2)) ?_
      refine r_ishl h (by decide +kernel : decode cX3_findLasts 67 = .ok (.ishl, 1)) ?_
      refine r_ixor h (by decide +kernel : decode cX3_findLasts 68 = .ok (.ixor, 1)) ?_
      obtain ⟨g1, H⟩ := H
      refine r_iald h (xorI x3 (shlI 1 x4)).toNat rfl (at_2_4 hb) g1 (by decide) (by decide +kernel : decode cX3_findLasts 69 = .ok (.iaload, 1)) ?_
      refine r_iload h 4 rfl (by decide +kernel : decode cX3_findLasts 70 = .ok (.iload 4, 2)) ?_
      obtain ⟨P1, hSP1, H⟩ := H
      refine r_callS h (as := [vr b1, vi (M (b + 4) (xorI x3 (shlI 1 x4)).toNat), vi x4]) (S := [vi (M (b + 4) x3.toNat), vi x3, vr (b + 4)]) m_Rows_51 hSP1 (by decide) (Nat.le_refl _) rfl rfl (Nat.le_of_ble_eq_true rfl) (by decide +kernel : decode cX3_findLasts 72 = .ok (.invokestatic 51, 3)) ?_
      rintro _ _ M1 ⟨rfl, r1, rfl, hP⟩
      have H := H r1 M1 hP
      show K NN RRC _ _ [vi r1, vi (M (b + 4) x3.toNat), vi x3, vr (b + 4)] _
      refine r_ior h (by decide +kernel : decode cX3_findLasts 75 = .ok (.ior, 1)) ?_
      obtain ⟨g1, H⟩ := H
      refine r_iast h x3.toNat rfl (at_2_4 hb) g1 (by decide) (by decide +kernel : decode cX3_findLasts 76 = .ok (.iastore, 1)) ?_
      have H := H _ rfl
      revert H
      generalize (upr M1 (b + 4) (up1 (M1 (b + 4)) x3.toNat (orI (M (b + 4) x3.toNat) r1))) = M2
      intro H
      refine r_iinc h (i := 4) (v := 1) (L' := [(4, vi (x4 + 1)), (0, vr b), (1, vr b1), (2, vi x2), (3, vi x3)]) 4 rfl (by decide) rfl (by decide +kernel : decode cX3_findLasts 77 = .ok (.iinc 4 1, 3)) ?_
      refine r_goto h 33 (by decide) (by decide +kernel : decode cX3_findLasts 80 = .ok (.goto (-47), 3)) ?_
      refine r_drop h [1, 2, 3, 4, 0] rfl ?_
      exact H
set_option maxHeartbeats 4000000 in
set_option maxRecDepth 100000 in
theorem w_Rows_findBlots_0 {P : Mm → Prop} {K : Nat → Rr → Nat → List (Nat × AV) → List AV → Mm → Prop} (h : EK shC yX3_findBlots cX3_findBlots 5 none 4 NN NN (QV RRC P) K) (b : Nat) (hb : At shC NN b (.inl 2)) (b1 : Nat) (hb1 : At shC NN b1 (.inl 7)) (b2 : Nat) (hb2 : At shC NN b2 (.inl 5)) (M : Mm)
    (H : K NN RRC 2 [(0, vr b), (1, vr b1), (2, vr b2), (3, vi 0)] [] M) :
    K NN RRC 0 [(0, vr b), (1, vr b1), (2, vr b2)] [] M := by
  refine r_iconst h (v := 0) (by decide +kernel : decode cX3_findBlots 0 = .ok (.iconst 0, 1)) ?_
  refine r_istoren h (q := 3) (L' := [(3, vi 0), (0, vr b), (1, vr b1), (2, vr b2)]) (by decide) rfl (by decide +kernel : decode cX3_findBlots 1 = .ok (.istore_n 3, 1)) ?_
  refine r_drop h [1, 2, 3, 0] rfl ?_
  exact H
set_option maxHeartbeats 4000000 in
set_option maxRecDepth 100000 in
theorem w_Rows_findBlots_2 {P : Mm → Prop} {K : Nat → Rr → Nat → List (Nat × AV) → List AV → Mm → Prop} (h : EK shC yX3_findBlots cX3_findBlots 5 none 4 NN NN (QV RRC P) K) (b : Nat) (hb : At shC NN b (.inl 2)) (b1 : Nat) (hb1 : At shC NN b1 (.inl 7)) (b2 : Nat) (hb2 : At shC NN b2 (.inl 5)) (x3 : Int) (M : Mm)
    (H : (rng x3) ∧ (rng (M b1 9)) ∧ ((M b1 9) ≤ x3 → (P M)) ∧ (¬ ((M b1 9) ≤ x3) → (K NN RRC 13 [(0, vr b), (1, vr b1), (2, vr b2), (3, vi x3), (4, vi 0)] [] M))) :
    K NN RRC 2 [(0, vr b), (1, vr b1), (2, vr b2), (3, vi x3)] [] M := by
  refine r_iloadn h (q := 3) 3 rfl (by decide +kernel : decode cX3_findBlots 2 = .ok (.iload_n 3, 1)) ?_
  refine r_aloadn h (q := 1) 1 rfl (by decide +kernel : decode cX3_findBlots 3 = .ok (.aload_n 1, 1)) ?_
  refine r_getI h f_Rows_34 hb1 (by decide +kernel : decode cX3_findBlots 4 = .ok (.getfield 34, 3)) ?_
  obtain ⟨g1, g2, H⟩ := H
  obtain ⟨H1, H2⟩ := H
  refine r_icmp_ge h 64 g1 g2 (by decide) (by decide +kernel : decode cX3_findBlots 7 = .ok (.if_icmp .ge 57, 3)) (fun hc => ?_) (fun hc => ?_)
  · have H := H1 hc
    exact r_vret h rfl (by decide +kernel : decode cX3_findBlots 64 = .ok (.return_, 1)) rfl ⟨rfl, rfl, H⟩
  · have H := H2 hc
    refine r_iconst h (v := 0) (by decide +kernel : decode cX3_findBlots 10 = .ok (.iconst 0, 1)) ?_
    refine r_istore h (L' := [(4, vi 0), (0, vr b), (1, vr b1), (2, vr b2), (3, vi x3)]) (by decide) rfl (by decide +kernel : decode cX3_findBlots 11 = .ok (.istore 4, 2)) ?_
    refine r_drop h [1, 2, 3, 4, 0] rfl ?_
    exact H
set_option maxHeartbeats 4000000 in
set_option maxRecDepth 100000 in
theorem w_Rows_findBlots_13 {P : Mm → Prop} {K : Nat → Rr → Nat → List (Nat × AV) → List AV → Mm → Prop} (h : EK shC yX3_findBlots cX3_findBlots 5 none 4 NN NN (QV RRC P) K) (b : Nat) (hb : At shC NN b (.inl 2)) (b1 : Nat) (hb1 : At shC NN b1 (.inl 7)) (b2 : Nat) (hb2 : At shC NN b2 (.inl 5)) (x3 : Int) (x4 : Int) (M : Mm)
    (H : (rng x4) ∧ (rng (M b1 9)) ∧ ((M b1 9) ≤ x4 → ((0 ≤ (49 + x3) ∧ (49 + x3) < 56) ∧ ∀ M1 : Mm, M1 = (upr M (b + 2) (up1 (M (b + 2)) (49 + x3).toNat 0)) → K NN RRC 2 [(0, vr b), (1, vr b1), (2, vr b2), (3, vi (x3 + 1))] [] M1)) ∧ (¬ ((M b1 9) ≤ x4) → (∃ P2 : Int → Mm → Prop, S_Town_printedOn b1 b2 x4 x3 M P2 ∧ ∀ (r1 : Int) (M2 : Mm), P2 r1 M2 → (0 ≤ ((x4 * 7) + x3) ∧ ((x4 * 7) + x3) < 56) ∧ ∀ M3 : Mm, M3 = (upr M2 (b + 2) (up1 (M2 (b + 2)) ((x4 * 7) + x3).toNat r1)) → K NN RRC 13 [(0, vr b), (1, vr b1), (2, vr b2), (3, vi x3), (4, vi (x4 + 1))] [] M3))) :
    K NN RRC 13 [(0, vr b), (1, vr b1), (2, vr b2), (3, vi x3), (4, vi x4)] [] M := by
  refine r_iload h 4 rfl (by decide +kernel : decode cX3_findBlots 13 = .ok (.iload 4, 2)) ?_
  refine r_aloadn h (q := 1) 1 rfl (by decide +kernel : decode cX3_findBlots 15 = .ok (.aload_n 1, 1)) ?_
  refine r_getI h f_Rows_34 hb1 (by decide +kernel : decode cX3_findBlots 16 = .ok (.getfield 34, 3)) ?_
  obtain ⟨g1, g2, H⟩ := H
  obtain ⟨H1, H2⟩ := H
  refine r_icmp_ge h 48 g1 g2 (by decide) (by decide +kernel : decode cX3_findBlots 19 = .ok (.if_icmp .ge 29, 3)) (fun hc => ?_) (fun hc => ?_)
  · have H := H1 hc
    refine r_aloadn h (q := 0) 0 rfl (by decide +kernel : decode cX3_findBlots 48 = .ok (.aload_n 0, 1)) ?_
    refine r_getR h (r := (b + 2)) f_Rows_15 hb (rr_2_2 hb) (by omega) (by decide +kernel : decode cX3_findBlots 49 = .ok (.getfield 15, 3)) ?_
    refine r_bipush h (v := 49) (by decide) (by decide +kernel : decode cX3_findBlots 52 = .ok (.bipush 49, 2)) ?_
    refine r_iloadn h (q := 3) 3 rfl (by decide +kernel : decode cX3_findBlots 54 = .ok (.iload_n 3, 1)) ?_
    refine r_iadd h (by decide +kernel : decode cX3_findBlots 55 = .ok (.iadd, 1)) ?_
    refine r_iconst h (v := 0) (by decide +kernel : decode cX3_findBlots 56 = .ok (.iconst 0, 1)) ?_
    obtain ⟨g1, H⟩ := H
    refine r_iast h (49 + x3).toNat rfl (at_2_2 hb) g1 (by decide) (by decide +kernel : decode cX3_findBlots 57 = .ok (.iastore, 1)) ?_
    have H := H _ rfl
    revert H
    generalize (upr M (b + 2) (up1 (M (b + 2)) (49 + x3).toNat 0)) = M1
    intro H
    refine r_iinc h (i := 3) (v := 1) (L' := [(3, vi (x3 + 1)), (0, vr b), (1, vr b1), (2, vr b2), (4, vi x4)]) 3 rfl (by decide) rfl (by decide +kernel : decode cX3_findBlots 58 = .ok (.iinc 3 1, 3)) ?_
    refine r_goto h 2 (by decide) (by decide +kernel : decode cX3_findBlots 61 = .ok (.goto (-59), 3)) ?_
    refine r_drop h [1, 2, 3, 0] rfl ?_
    exact H
  · have H := H2 hc
    refine r_aloadn h (q := 0) 0 rfl (by decide +kernel : decode cX3_findBlots 22 = .ok (.aload_n 0, 1)) ?_
    refine r_getR h (r := (b + 2)) f_Rows_15 hb (rr_2_2 hb) (by omega) (by decide +kernel : decode cX3_findBlots 23 = .ok (.getfield 15, 3)) ?_
    refine r_iload h 4 rfl (by decide +kernel : decode cX3_findBlots 26 = .ok (.iload 4, 2)) ?_
    refine r_bipush h (v := 7) (by decide) (by decide +kernel : decode cX3_findBlots 28 = .ok (.bipush 7, 2)) ?_
    refine r_imul h (by decide +kernel : decode cX3_findBlots 30 = .ok (.imul, 1)) ?_
    refine r_iloadn h (q := 3) 3 rfl (by decide +kernel : decode cX3_findBlots 31 = .ok (.iload_n 3, 1)) ?_
    refine r_iadd h (by decide +kernel : decode cX3_findBlots 32 = .ok (.iadd, 1)) ?_
    refine r_aloadn h (q := 1) 1 rfl (by decide +kernel : decode cX3_findBlots 33 = .ok (.aload_n 1, 1)) ?_
    refine r_aloadn h (q := 2) 2 rfl (by decide +kernel : decode cX3_findBlots 34 = .ok (.aload_n 2, 1)) ?_
    refine r_iload h 4 rfl (by decide +kernel : decode cX3_findBlots 35 = .ok (.iload 4, 2)) ?_
    refine r_iloadn h (q := 3) 3 rfl (by decide +kernel : decode cX3_findBlots 37 = .ok (.iload_n 3, 1)) ?_
    obtain ⟨P2, hSP2, H⟩ := H
    refine r_callV h (as := [vr b2, vi x4, vi x3]) (S := [vi ((x4 * 7) + x3), vr (b + 2)]) (b := b1) m_Rows_82 hSP2 (by decide) (Nat.le_refl _) rfl hb1 rfl (Nat.le_of_ble_eq_true rfl) (by decide +kernel : decode cX3_findBlots 38 = .ok (.invokevirtual 82, 3)) ?_
    rintro _ _ M2 ⟨rfl, r1, rfl, hP⟩
    have H := H r1 M2 hP
    show K NN RRC _ _ [vi r1, vi ((x4 * 7) + x3), vr (b + 2)] _
    obtain ⟨g1, H⟩ := H
    refine r_iast h ((x4 * 7) + x3).toNat rfl (at_2_2 hb) g1 (by decide) (by decide +kernel : decode cX3_findBlots 41 = .ok (.iastore, 1)) ?_
    have H := H _ rfl
    revert H
    generalize (upr M2 (b + 2) (up1 (M2 (b + 2)) ((x4 * 7) + x3).toNat r1)) = M3
    intro H
    refine r_iinc h (i := 4) (v := 1) (L' := [(4, vi (x4 + 1)), (0, vr b), (1, vr b1), (2, vr b2), (3, vi x3)]) 4 rfl (by decide) rfl (by decide +kernel : decode cX3_findBlots 42 = .ok (.iinc 4 1, 3)) ?_
    refine r_goto h 13 (by decide) (by decide +kernel : decode cX3_findBlots 45 = .ok (.goto (-32), 3)) ?_
    refine r_drop h [1, 2, 3, 4, 0] rfl ?_
    exact H
set_option maxHeartbeats 4000000 in
set_option maxRecDepth 100000 in
theorem w_Rows_findRest_0 {P : Mm → Prop} {K : Nat → Rr → Nat → List (Nat × AV) → List AV → Mm → Prop} (h : EK shC yX3_findRest cX3_findRest 8 none 4 NN NN (QV RRC P) K) (b : Nat) (hb : At shC NN b (.inl 2)) (b1 : Nat) (hb1 : At shC NN b1 (.inl 7)) (x2 : Int) (x3 : Int) (x4 : Int) (M : Mm)
    (H : K NN RRC 3 [(0, vr b), (1, vr b1), (2, vi x2), (3, vi x3), (4, vi x4), (5, vi 0)] [] M) :
    K NN RRC 0 [(0, vr b), (1, vr b1), (2, vi x2), (3, vi x3), (4, vi x4)] [] M := by
  refine r_iconst h (v := 0) (by decide +kernel : decode cX3_findRest 0 = .ok (.iconst 0, 1)) ?_
  refine r_istore h (L' := [(5, vi 0), (0, vr b), (1, vr b1), (2, vi x2), (3, vi x3), (4, vi x4)]) (by decide) rfl (by decide +kernel : decode cX3_findRest 1 = .ok (.istore 5, 2)) ?_
  refine r_drop h [1, 2, 3, 4, 5, 0] rfl ?_
  exact H
set_option maxHeartbeats 4000000 in
set_option maxRecDepth 100000 in
theorem w_Rows_findRest_3 {P : Mm → Prop} {K : Nat → Rr → Nat → List (Nat × AV) → List AV → Mm → Prop} (h : EK shC yX3_findRest cX3_findRest 8 none 4 NN NN (QV RRC P) K) (b : Nat) (hb : At shC NN b (.inl 2)) (b1 : Nat) (hb1 : At shC NN b1 (.inl 7)) (x2 : Int) (x3 : Int) (x4 : Int) (x5 : Int) (M : Mm)
    (H : (rng x5) ∧ (8 ≤ x5 → (P M)) ∧ (¬ (8 ≤ x5) → ((rng x2) ∧ (rng x3) ∧ (x2 ≠ x3 → (K NN RRC 27 [(0, vr b), (1, vr b1), (2, vi x2), (3, vi x3), (4, vi x4), (5, vi x5), (6, vi 9999), (7, vi 0)] [] M)) ∧ (x2 = x3 → (K NN RRC 27 [(0, vr b), (1, vr b1), (2, vi x2), (3, vi x3), (4, vi x4), (5, vi x5), (6, vi 0), (7, vi 0)] [] M))))) :
    K NN RRC 3 [(0, vr b), (1, vr b1), (2, vi x2), (3, vi x3), (4, vi x4), (5, vi x5)] [] M := by
  refine r_iload h 5 rfl (by decide +kernel : decode cX3_findRest 3 = .ok (.iload 5, 2)) ?_
  refine r_bipush h (v := 8) (by decide) (by decide +kernel : decode cX3_findRest 5 = .ok (.bipush 8, 2)) ?_
  obtain ⟨g1, H⟩ := H
  obtain ⟨H1, H2⟩ := H
  refine r_icmp_ge h 94 g1 (by decide) (by decide) (by decide +kernel : decode cX3_findRest 7 = .ok (.if_icmp .ge 87, 3)) (fun hc => ?_) (fun hc => ?_)
  · have H := H1 hc
    exact r_vret h rfl (by decide +kernel : decode cX3_findRest 94 = .ok (.return_, 1)) rfl ⟨rfl, rfl, H⟩
  · have H := H2 hc
    refine r_iloadn h (q := 2) 2 rfl (by decide +kernel : decode cX3_findRest 10 = .ok (.iload_n 2, 1)) ?_
    refine r_iloadn h (q := 3) 3 rfl (by decide +kernel : decode cX3_findRest 11 = .ok (.iload_n 3, 1)) ?_
    obtain ⟨g1, g2, H⟩ := H
    obtain ⟨H1, H2⟩ := H
    refine r_icmp_ne h 19 g1 g2 (by decide) (by decide +kernel : decode cX3_findRest 12 = .ok (.if_icmp .ne 7, 3)) (fun hc => ?_) (fun hc => ?_)
    · have H := H1 hc
      refine r_sipush h (v := 9999) (by decide) (by decide +kernel : decode cX3_findRest 19 = .ok (.sipush 9999, 3)) ?_
      refine r_istore h (L' := [(6, vi 9999), (0, vr b), (1, vr b1), (2, vi x2), (3, vi x3), (4, vi x4), (5, vi x5)]) (by decide) rfl (by decide +kernel : decode cX3_findRest 22 = .ok (.istore 6, 2)) ?_
      refine r_iconst h (v := 0) (by decide +kernel : decode cX3_findRest 24 = .ok (.iconst 0, 1)) ?_
      refine r_istore h (L' := [(7, vi 0), (6, vi 9999), (0, vr b), (1, vr b1), (2, vi x2), (3, vi x3), (4, vi x4), (5, vi x5)]) (by decide) rfl (by decide +kernel : decode cX3_findRest 25 = .ok (.istore 7, 2)) ?_
      refine r_drop h [2, 3, 4, 5, 6, 7, 1, 0] rfl ?_
      exact H
    · have H := H2 hc
      refine r_iconst h (v := 0) (by decide +kernel : decode cX3_findRest 15 = .ok (.iconst 0, 1)) ?_
      refine r_goto h 22 (by decide) (by decide +kernel : decode cX3_findRest 16 = .ok (.goto 6, 3)) ?_
      refine r_istore h (L' := [(6, vi 0), (0, vr b), (1, vr b1), (2, vi x2), (3, vi x3), (4, vi x4), (5, vi x5)]) (by decide) rfl (by decide +kernel : decode cX3_findRest 22 = .ok (.istore 6, 2)) ?_
      refine r_iconst h (v := 0) (by decide +kernel : decode cX3_findRest 24 = .ok (.iconst 0, 1)) ?_
      refine r_istore h (L' := [(7, vi 0), (6, vi 0), (0, vr b), (1, vr b1), (2, vi x2), (3, vi x3), (4, vi x4), (5, vi x5)]) (by decide) rfl (by decide +kernel : decode cX3_findRest 25 = .ok (.istore 7, 2)) ?_
      refine r_drop h [2, 3, 4, 5, 6, 7, 1, 0] rfl ?_
      exact H
set_option maxHeartbeats 4000000 in
set_option maxRecDepth 100000 in
theorem w_Rows_findRest_27 {P : Mm → Prop} {K : Nat → Rr → Nat → List (Nat × AV) → List AV → Mm → Prop} (h : EK shC yX3_findRest cX3_findRest 8 none 4 NN NN (QV RRC P) K) (b : Nat) (hb : At shC NN b (.inl 2)) (b1 : Nat) (hb1 : At shC NN b1 (.inl 7)) (x2 : Int) (x3 : Int) (x4 : Int) (x5 : Int) (x6 : Int) (x7 : Int) (M : Mm)
    (H : (rng x7) ∧ (rng (M b1 9)) ∧ ((M b1 9) ≤ x7 → ((0 ≤ ((x2 * 8) + x5) ∧ ((x2 * 8) + x5) < 1024) ∧ ∀ M1 : Mm, M1 = (upr M (b + 3) (up1 (M (b + 3)) ((x2 * 8) + x5).toNat x6)) → K NN RRC 3 [(0, vr b), (1, vr b1), (2, vi x2), (3, vi x3), (4, vi x4), (5, vi (x5 + 1))] [] M1)) ∧ (¬ ((M b1 9) ≤ x7) → (((andI (andI x3 (xorI x2 (-1))) (shlI 1 x7)) = 0 → (K NN RRC 27 [(0, vr b), (1, vr b1), (2, vi x2), (3, vi x3), (4, vi x4), (5, vi x5), (6, vi x6), (7, vi (x7 + 1))] [] M)) ∧ ((andI (andI x3 (xorI x2 (-1))) (shlI 1 x7)) ≠ 0 → (∃ P2 : Int → Mm → Prop, S_Rows_restBy b b1 x2 x5 x7 x4 M P2 ∧ ∀ (r1 : Int) (M2 : Mm), P2 r1 M2 → (rng x6) ∧ (rng r1) ∧ K NN RRC 27 [(0, vr b), (1, vr b1), (2, vi x2), (3, vi x3), (4, vi x4), (5, vi x5), (6, vi (min x6 r1)), (7, vi (x7 + 1))] [] M2))))) :
    K NN RRC 27 [(0, vr b), (1, vr b1), (2, vi x2), (3, vi x3), (4, vi x4), (5, vi x5), (6, vi x6), (7, vi x7)] [] M := by
  refine r_iload h 7 rfl (by decide +kernel : decode cX3_findRest 27 = .ok (.iload 7, 2)) ?_
  refine r_aloadn h (q := 1) 1 rfl (by decide +kernel : decode cX3_findRest 29 = .ok (.aload_n 1, 1)) ?_
  refine r_getI h f_Rows_34 hb1 (by decide +kernel : decode cX3_findRest 30 = .ok (.getfield 34, 3)) ?_
  obtain ⟨g1, g2, H⟩ := H
  obtain ⟨H1, H2⟩ := H
  refine r_icmp_ge h 74 g1 g2 (by decide) (by decide +kernel : decode cX3_findRest 33 = .ok (.if_icmp .ge 41, 3)) (fun hc => ?_) (fun hc => ?_)
  · have H := H1 hc
    refine r_aloadn h (q := 0) 0 rfl (by decide +kernel : decode cX3_findRest 74 = .ok (.aload_n 0, 1)) ?_
    refine r_getR h (r := (b + 3)) f_Rows_18 hb (rr_2_3 hb) (by omega) (by decide +kernel : decode cX3_findRest 75 = .ok (.getfield 18, 3)) ?_
    refine r_iloadn h (q := 2) 2 rfl (by decide +kernel : decode cX3_findRest 78 = .ok (.iload_n 2, 1)) ?_
    refine r_bipush h (v := 8) (by decide) (by decide +kernel : decode cX3_findRest 79 = .ok (.bipush 8, 2)) ?_
    refine r_imul h (by decide +kernel : decode cX3_findRest 81 = .ok (.imul, 1)) ?_
    refine r_iload h 5 rfl (by decide +kernel : decode cX3_findRest 82 = .ok (.iload 5, 2)) ?_
    refine r_iadd h (by decide +kernel : decode cX3_findRest 84 = .ok (.iadd, 1)) ?_
    refine r_iload h 6 rfl (by decide +kernel : decode cX3_findRest 85 = .ok (.iload 6, 2)) ?_
    obtain ⟨g1, H⟩ := H
    refine r_iast h ((x2 * 8) + x5).toNat rfl (at_2_3 hb) g1 (by decide) (by decide +kernel : decode cX3_findRest 87 = .ok (.iastore, 1)) ?_
    have H := H _ rfl
    revert H
    generalize (upr M (b + 3) (up1 (M (b + 3)) ((x2 * 8) + x5).toNat x6)) = M1
    intro H
    refine r_iinc h (i := 5) (v := 1) (L' := [(5, vi (x5 + 1)), (0, vr b), (1, vr b1), (2, vi x2), (3, vi x3), (4, vi x4), (6, vi x6), (7, vi x7)]) 5 rfl (by decide) rfl (by decide +kernel : decode cX3_findRest 88 = .ok (.iinc 5 1, 3)) ?_
    refine r_goto h 3 (by decide) (by decide +kernel : decode cX3_findRest 91 = .ok (.goto (-88), 3)) ?_
    refine r_drop h [1, 2, 3, 4, 5, 0] rfl ?_
    exact H
  · have H := H2 hc
    refine r_iloadn h (q := 3) 3 rfl (by decide +kernel : decode cX3_findRest 36 = .ok (.iload_n 3, 1)) ?_
    refine r_iloadn h (q := 2) 2 rfl (by decide +kernel : decode cX3_findRest 37 = .ok (.iload_n 2, 1)) ?_
    refine r_iconst h (v := (-1)) (by decide +kernel : decode cX3_findRest 38 = .ok (.iconst (-1), 1)) ?_
    refine r_ixor h (by decide +kernel : decode cX3_findRest 39 = .ok (.ixor, 1)) ?_
    refine r_iand h (by decide +kernel : decode cX3_findRest 40 = .ok (.iand, 1)) ?_
    refine r_iconst h (v := 1) (by decide +kernel : decode cX3_findRest 41 = .ok (.iconst 1, 1)) ?_
    refine r_iload h 7 rfl (by decide +kernel : decode cX3_findRest 42 = .ok (.iload 7, 2)) ?_
    refine r_ishl h (by decide +kernel : decode cX3_findRest 44 = .ok (.ishl, 1)) ?_
    refine r_iand h (by decide +kernel : decode cX3_findRest 45 = .ok (.iand, 1)) ?_
    obtain ⟨H1, H2⟩ := H
    refine r_if_eq h 68 (rng_toInt _) (by decide) (by decide +kernel : decode cX3_findRest 46 = .ok (.ifCond .eq 22, 3)) (fun hc => ?_) (fun hc => ?_)
    · have H := H1 hc
      refine r_iinc h (i := 7) (v := 1) (L' := [(7, vi (x7 + 1)), (0, vr b), (1, vr b1), (2, vi x2), (3, vi x3), (4, vi x4), (5, vi x5), (6, vi x6)]) 7 rfl (by decide) rfl (by decide +kernel : decode cX3_findRest 68 = .ok (.iinc 7 1, 3)) ?_
      refine r_goto h 27 (by decide) (by decide +kernel : decode cX3_findRest 71 = .ok (.goto (-44), 3)) ?_
      refine r_drop h [1, 2, 3, 4, 5, 6, 7, 0] rfl ?_
      exact H
    · have H := H2 hc
      refine r_iload h 6 rfl (by decide +kernel : decode cX3_findRest 49 = .ok (.iload 6, 2)) ?_
      refine r_aloadn h (q := 0) 0 rfl (by decide +kernel : decode cX3_findRest 51 = .ok (.aload_n 0, 1)) ?_
      refine r_aloadn h (q := 1) 1 rfl (by decide +kernel : decode cX3_findRest 52 = .ok (.aload_n 1, 1)) ?_
      refine r_iloadn h (q := 2) 2 rfl (by decide +kernel : decode cX3_findRest 53 = .ok (.iload_n 2, 1)) ?_
      refine r_iload h 5 rfl (by decide +kernel : decode cX3_findRest 54 = .ok (.iload 5, 2)) ?_
      refine r_iload h 7 rfl (by decide +kernel : decode cX3_findRest 56 = .ok (.iload 7, 2)) ?_
      refine r_iload h 4 rfl (by decide +kernel : decode cX3_findRest 58 = .ok (.iload 4, 2)) ?_
      obtain ⟨P2, hSP2, H⟩ := H
      refine r_callV h (as := [vr b1, vi x2, vi x5, vi x7, vi x4]) (S := [vi x6]) (b := b) m_Rows_86 hSP2 (by decide) (Nat.le_refl _) rfl hb rfl (Nat.le_of_ble_eq_true rfl) (by decide +kernel : decode cX3_findRest 60 = .ok (.invokevirtual 86, 3)) ?_
      rintro _ _ M2 ⟨rfl, r1, rfl, hP⟩
      have H := H r1 M2 hP
      show K NN RRC _ _ [vi r1, vi x6] _
      obtain ⟨g1, g2, H⟩ := H
      refine r_min h g1 g2 kM_min_Rows (by decide) (Nat.le_refl _) (Nat.le_of_ble_eq_true rfl) (by decide +kernel : decode cX3_findRest 63 = .ok (.invokestatic 90, 3)) ?_
      rw [min_if]
      have gm1 : rng (min x6 r1) := min_rng g1 g2
      refine r_istore h (L' := [(6, vi (min x6 r1)), (0, vr b), (1, vr b1), (2, vi x2), (3, vi x3), (4, vi x4), (5, vi x5), (7, vi x7)]) (by decide) rfl (by decide +kernel : decode cX3_findRest 66 = .ok (.istore 6, 2)) ?_
      refine r_iinc h (i := 7) (v := 1) (L' := [(7, vi (x7 + 1)), (6, vi (min x6 r1)), (0, vr b), (1, vr b1), (2, vi x2), (3, vi x3), (4, vi x4), (5, vi x5)]) 7 rfl (by decide) rfl (by decide +kernel : decode cX3_findRest 68 = .ok (.iinc 7 1, 3)) ?_
      refine r_goto h 27 (by decide) (by decide +kernel : decode cX3_findRest 71 = .ok (.goto (-44), 3)) ?_
      refine r_drop h [2, 3, 4, 5, 6, 7, 1, 0] rfl ?_
      exact H
set_option maxHeartbeats 4000000 in
set_option maxRecDepth 100000 in
theorem w_Rows_firstOfLeast_0 {P : Int → Mm → Prop} {K : Nat → Rr → Nat → List (Nat × AV) → List AV → Mm → Prop} (h : EK shC yX3_firstOfLeast cX3_firstOfLeast 8 (some .int) 4 NN NN (QI RRC P) K) (b : Nat) (hb : At shC NN b (.inl 2)) (b1 : Nat) (hb1 : At shC NN b1 (.inl 7)) (x2 : Int) (x3 : Int) (x4 : Int) (x5 : Int) (M : Mm)
    (H : K NN RRC 3 [(0, vr b), (1, vr b1), (2, vi x2), (3, vi x3), (4, vi x4), (5, vi x5), (6, vi 0)] [] M) :
    K NN RRC 0 [(0, vr b), (1, vr b1), (2, vi x2), (3, vi x3), (4, vi x4), (5, vi x5)] [] M := by
  refine r_iconst h (v := 0) (by decide +kernel : decode cX3_firstOfLeast 0 = .ok (.iconst 0, 1)) ?_
  refine r_istore h (L' := [(6, vi 0), (0, vr b), (1, vr b1), (2, vi x2), (3, vi x3), (4, vi x4), (5, vi x5)]) (by decide) rfl (by decide +kernel : decode cX3_firstOfLeast 1 = .ok (.istore 6, 2)) ?_
  refine r_drop h [1, 2, 3, 4, 5, 6, 0] rfl ?_
  exact H
set_option maxHeartbeats 4000000 in
set_option maxRecDepth 100000 in
theorem w_Rows_firstOfLeast_3 {P : Int → Mm → Prop} {K : Nat → Rr → Nat → List (Nat × AV) → List AV → Mm → Prop} (h : EK shC yX3_firstOfLeast cX3_firstOfLeast 8 (some .int) 4 NN NN (QI RRC P) K) (b : Nat) (hb : At shC NN b (.inl 2)) (b1 : Nat) (hb1 : At shC NN b1 (.inl 7)) (x2 : Int) (x3 : Int) (x4 : Int) (x5 : Int) (x6 : Int) (M : Mm)
    (H : (rng x6) ∧ (rng (M b1 9)) ∧ ((M b1 9) ≤ x6 → (P (-1) M)) ∧ (¬ ((M b1 9) ≤ x6) → (((andI (andI x4 (xorI x2 (-1))) (shlI 1 x6)) = 0 → (K NN RRC 31 [(0, vr b), (1, vr b1), (2, vi x2), (3, vi x3), (4, vi x4), (5, vi x5), (6, vi x6)] [vi 0] M)) ∧ ((andI (andI x4 (xorI x2 (-1))) (shlI 1 x6)) ≠ 0 → (K NN RRC 31 [(0, vr b), (1, vr b1), (2, vi x2), (3, vi x3), (4, vi x4), (5, vi x5), (6, vi x6)] [vi 1] M))))) :
    K NN RRC 3 [(0, vr b), (1, vr b1), (2, vi x2), (3, vi x3), (4, vi x4), (5, vi x5), (6, vi x6)] [] M := by
  refine r_iload h 6 rfl (by decide +kernel : decode cX3_firstOfLeast 3 = .ok (.iload 6, 2)) ?_
  refine r_aloadn h (q := 1) 1 rfl (by decide +kernel : decode cX3_firstOfLeast 5 = .ok (.aload_n 1, 1)) ?_
  refine r_getI h f_Rows_34 hb1 (by decide +kernel : decode cX3_firstOfLeast 6 = .ok (.getfield 34, 3)) ?_
  obtain ⟨g1, g2, H⟩ := H
  obtain ⟨H1, H2⟩ := H
  refine r_icmp_ge h 72 g1 g2 (by decide) (by decide +kernel : decode cX3_firstOfLeast 9 = .ok (.if_icmp .ge 63, 3)) (fun hc => ?_) (fun hc => ?_)
  · have H := H1 hc
    refine r_iconst h (v := (-1)) (by decide +kernel : decode cX3_firstOfLeast 72 = .ok (.iconst (-1), 1)) ?_
    exact r_iret h rfl (by decide +kernel : decode cX3_firstOfLeast 73 = .ok (.ireturn, 1)) rfl ⟨rfl, _, rfl, H⟩
  · have H := H2 hc
    refine r_iload h 4 rfl (by decide +kernel : decode cX3_firstOfLeast 12 = .ok (.iload 4, 2)) ?_
    refine r_iloadn h (q := 2) 2 rfl (by decide +kernel : decode cX3_firstOfLeast 14 = .ok (.iload_n 2, 1)) ?_
    refine r_iconst h (v := (-1)) (by decide +kernel : decode cX3_firstOfLeast 15 = .ok (.iconst (-1), 1)) ?_
    refine r_ixor h (by decide +kernel : decode cX3_firstOfLeast 16 = .ok (.ixor, 1)) ?_
    refine r_iand h (by decide +kernel : decode cX3_firstOfLeast 17 = .ok (.iand, 1)) ?_
    refine r_iconst h (v := 1) (by decide +kernel : decode cX3_firstOfLeast 18 = .ok (.iconst 1, 1)) ?_
    refine r_iload h 6 rfl (by decide +kernel : decode cX3_firstOfLeast 19 = .ok (.iload 6, 2)) ?_
    refine r_ishl h (by decide +kernel : decode cX3_firstOfLeast 21 = .ok (.ishl, 1)) ?_
    refine r_iand h (by decide +kernel : decode cX3_firstOfLeast 22 = .ok (.iand, 1)) ?_
    obtain ⟨H1, H2⟩ := H
    refine r_if_eq h 30 (rng_toInt _) (by decide) (by decide +kernel : decode cX3_firstOfLeast 23 = .ok (.ifCond .eq 7, 3)) (fun hc => ?_) (fun hc => ?_)
    · have H := H1 hc
      refine r_iconst h (v := 0) (by decide +kernel : decode cX3_firstOfLeast 30 = .ok (.iconst 0, 1)) ?_
      exact H
    · have H := H2 hc
      refine r_iconst h (v := 1) (by decide +kernel : decode cX3_firstOfLeast 26 = .ok (.iconst 1, 1)) ?_
      refine r_goto h 31 (by decide) (by decide +kernel : decode cX3_firstOfLeast 27 = .ok (.goto 4, 3)) ?_
      exact H
set_option maxHeartbeats 4000000 in
set_option maxRecDepth 100000 in
theorem w_Rows_firstOfLeast_31 {P : Int → Mm → Prop} {K : Nat → Rr → Nat → List (Nat × AV) → List AV → Mm → Prop} (h : EK shC yX3_firstOfLeast cX3_firstOfLeast 8 (some .int) 4 NN NN (QI RRC P) K) (b : Nat) (hb : At shC NN b (.inl 2)) (b1 : Nat) (hb1 : At shC NN b1 (.inl 7)) (x2 : Int) (x3 : Int) (x4 : Int) (x5 : Int) (x6 : Int) (s0 : Int) (M : Mm)
    (H : (rng s0) ∧ (s0 = 0 → (K NN RRC 3 [(0, vr b), (1, vr b1), (2, vi x2), (3, vi x3), (4, vi x4), (5, vi x5), (6, vi (x6 + 1))] [] M)) ∧ (s0 ≠ 0 → (∃ P1 : Int → Mm → Prop, S_Rows_restBy b b1 x2 x3 x6 x5 M P1 ∧ ∀ (r1 : Int) (M1 : Mm), P1 r1 M1 → (0 ≤ ((x2 * 8) + x3) ∧ ((x2 * 8) + x3) < 1024) ∧ (rng r1) ∧ (rng (M1 (b + 3) ((x2 * 8) + x3).toNat)) ∧ (r1 ≠ (M1 (b + 3) ((x2 * 8) + x3).toNat) → (K NN RRC 3 [(0, vr b), (1, vr b1), (2, vi x2), (3, vi x3), (4, vi x4), (5, vi x5), (6, vi (x6 + 1))] [] M1)) ∧ (r1 = (M1 (b + 3) ((x2 * 8) + x3).toNat) → (P x6 M1))))) :
    K NN RRC 31 [(0, vr b), (1, vr b1), (2, vi x2), (3, vi x3), (4, vi x4), (5, vi x5), (6, vi x6)] [vi s0] M := by
  refine r_istore h (L' := [(7, vi s0), (0, vr b), (1, vr b1), (2, vi x2), (3, vi x3), (4, vi x4), (5, vi x5), (6, vi x6)]) (by decide) rfl (by decide +kernel : decode cX3_firstOfLeast 31 = .ok (.istore 7, 2)) ?_
  refine r_iload h 0 rfl (by decide +kernel : decode cX3_firstOfLeast 33 = .ok (.iload 7, 2)) ?_
  obtain ⟨g1, H⟩ := H
  obtain ⟨H1, H2⟩ := H
  refine r_if_eq h 66 g1 (by decide) (by decide +kernel : decode cX3_firstOfLeast 35 = .ok (.ifCond .eq 31, 3)) (fun hc => ?_) (fun hc => ?_)
  · have H := H1 hc
    refine r_iinc h (i := 6) (v := 1) (L' := [(6, vi (x6 + 1)), (7, vi s0), (0, vr b), (1, vr b1), (2, vi x2), (3, vi x3), (4, vi x4), (5, vi x5)]) 7 rfl (by decide) rfl (by decide +kernel : decode cX3_firstOfLeast 66 = .ok (.iinc 6 1, 3)) ?_
    refine r_goto h 3 (by decide) (by decide +kernel : decode cX3_firstOfLeast 69 = .ok (.goto (-66), 3)) ?_
    refine r_drop h [2, 3, 4, 5, 6, 7, 0] rfl ?_
    exact H
  · have H := H2 hc
    refine r_aloadn h (q := 0) 1 rfl (by decide +kernel : decode cX3_firstOfLeast 38 = .ok (.aload_n 0, 1)) ?_
    refine r_aloadn h (q := 1) 2 rfl (by decide +kernel : decode cX3_firstOfLeast 39 = .ok (.aload_n 1, 1)) ?_
    refine r_iloadn h (q := 2) 3 rfl (by decide +kernel : decode cX3_firstOfLeast 40 = .ok (.iload_n 2, 1)) ?_
    refine r_iloadn h (q := 3) 4 rfl (by decide +kernel : decode cX3_firstOfLeast 41 = .ok (.iload_n 3, 1)) ?_
    refine r_iload h 7 rfl (by decide +kernel : decode cX3_firstOfLeast 42 = .ok (.iload 6, 2)) ?_
    refine r_iload h 6 rfl (by decide +kernel : decode cX3_firstOfLeast 44 = .ok (.iload 5, 2)) ?_
    obtain ⟨P1, hSP1, H⟩ := H
    refine r_callV h (as := [vr b1, vi x2, vi x3, vi x6, vi x5]) (S := []) (b := b) m_Rows_86 hSP1 (by decide) (Nat.le_refl _) rfl hb rfl (Nat.le_of_ble_eq_true rfl) (by decide +kernel : decode cX3_firstOfLeast 46 = .ok (.invokevirtual 86, 3)) ?_
    rintro _ _ M1 ⟨rfl, r1, rfl, hP⟩
    have H := H r1 M1 hP
    show K NN RRC _ _ [vi r1] _
    refine r_aloadn h (q := 0) 1 rfl (by decide +kernel : decode cX3_firstOfLeast 49 = .ok (.aload_n 0, 1)) ?_
    refine r_getR h (r := (b + 3)) f_Rows_18 hb (rr_2_3 hb) (by omega) (by decide +kernel : decode cX3_firstOfLeast 50 = .ok (.getfield 18, 3)) ?_
    refine r_iloadn h (q := 2) 3 rfl (by decide +kernel : decode cX3_firstOfLeast 53 = .ok (.iload_n 2, 1)) ?_
    refine r_bipush h (v := 8) (by decide) (by decide +kernel : decode cX3_firstOfLeast 54 = .ok (.bipush 8, 2)) ?_
    refine r_imul h (by decide +kernel : decode cX3_firstOfLeast 56 = .ok (.imul, 1)) ?_
    refine r_iloadn h (q := 3) 4 rfl (by decide +kernel : decode cX3_firstOfLeast 57 = .ok (.iload_n 3, 1)) ?_
    refine r_iadd h (by decide +kernel : decode cX3_firstOfLeast 58 = .ok (.iadd, 1)) ?_
    obtain ⟨g1, H⟩ := H
    refine r_iald h ((x2 * 8) + x3).toNat rfl (at_2_3 hb) g1 (by decide) (by decide +kernel : decode cX3_firstOfLeast 59 = .ok (.iaload, 1)) ?_
    obtain ⟨g1, g2, H⟩ := H
    obtain ⟨H1, H2⟩ := H
    refine r_icmp_ne h 66 g1 g2 (by decide) (by decide +kernel : decode cX3_firstOfLeast 60 = .ok (.if_icmp .ne 6, 3)) (fun hc => ?_) (fun hc => ?_)
    · have H := H1 hc
      refine r_iinc h (i := 6) (v := 1) (L' := [(6, vi (x6 + 1)), (7, vi s0), (0, vr b), (1, vr b1), (2, vi x2), (3, vi x3), (4, vi x4), (5, vi x5)]) 7 rfl (by decide) rfl (by decide +kernel : decode cX3_firstOfLeast 66 = .ok (.iinc 6 1, 3)) ?_
      refine r_goto h 3 (by decide) (by decide +kernel : decode cX3_firstOfLeast 69 = .ok (.goto (-66), 3)) ?_
      refine r_drop h [2, 3, 4, 5, 6, 7, 0] rfl ?_
      exact H
    · have H := H2 hc
      refine r_iload h 7 rfl (by decide +kernel : decode cX3_firstOfLeast 63 = .ok (.iload 6, 2)) ?_
      exact r_iret h rfl (by decide +kernel : decode cX3_firstOfLeast 65 = .ok (.ireturn, 1)) rfl ⟨rfl, _, rfl, H⟩
set_option maxHeartbeats 4000000 in
set_option maxRecDepth 100000 in
theorem w_Secrets_weigh_0 {P : Mm → Prop} {K : Nat → Rr → Nat → List (Nat × AV) → List AV → Mm → Prop} (h : EK shC yX4_weigh cX4_weigh 7 none 4 NN NN (QV RRC P) K) (b : Nat) (hb : At shC NN b (.inl 3)) (b1 : Nat) (hb1 : At shC NN b1 (.inl 7)) (b2 : Nat) (hb2 : At shC NN b2 (.inl 5)) (x3 : Int) (M : Mm)
    (H : ∃ P1 : Int → Mm → Prop, S_State_goingSet b2 (M b1 9) M P1 ∧ ∀ (r1 : Int) (M1 : Mm), P1 r1 M1 → ∀ M2 : Mm, M2 = (upr M1 b (up1 (M1 b) 0 0)) → ∀ M3 : Mm, M3 = (upr M2 b (up1 (M2 b) 1 r1)) → ∀ M4 : Mm, M4 = (upr M3 b (up1 (M3 b) 2 0)) → K NN RRC 29 [(0, vr b), (1, vr b1), (2, vr b2), (3, vi x3), (4, vi r1), (5, vi 0)] [] M4) :
    K NN RRC 0 [(0, vr b), (1, vr b1), (2, vr b2), (3, vi x3)] [] M := by
  refine r_aloadn h (q := 2) 2 rfl (by decide +kernel : decode cX4_weigh 0 = .ok (.aload_n 2, 1)) ?_
  refine r_aloadn h (q := 1) 1 rfl (by decide +kernel : decode cX4_weigh 1 = .ok (.aload_n 1, 1)) ?_
  refine r_getI h f_Secrets_18 hb1 (by decide +kernel : decode cX4_weigh 2 = .ok (.getfield 18, 3)) ?_
  obtain ⟨P1, hSP1, H⟩ := H
  refine r_callV h (as := [vi (M b1 9)]) (S := []) (b := b2) m_Secrets_24 hSP1 (by decide) (Nat.le_refl _) rfl hb2 rfl (Nat.le_of_ble_eq_true rfl) (by decide +kernel : decode cX4_weigh 5 = .ok (.invokevirtual 24, 3)) ?_
  rintro _ _ M1 ⟨rfl, r1, rfl, hP⟩
  have H := H r1 M1 hP
  show K NN RRC _ _ [vi r1] _
  refine r_istore h (L' := [(4, vi r1), (0, vr b), (1, vr b1), (2, vr b2), (3, vi x3)]) (by decide) rfl (by decide +kernel : decode cX4_weigh 8 = .ok (.istore 4, 2)) ?_
  refine r_aloadn h (q := 0) 1 rfl (by decide +kernel : decode cX4_weigh 10 = .ok (.aload_n 0, 1)) ?_
  refine r_iconst h (v := 0) (by decide +kernel : decode cX4_weigh 11 = .ok (.iconst 0, 1)) ?_
  refine r_putI h f_Secrets_30 hb rfl rfl (by decide +kernel : decode cX4_weigh 12 = .ok (.putfield 30, 3)) ?_
  have H := H _ rfl
  revert H
  generalize (upr M1 b (up1 (M1 b) 0 0)) = M2
  intro H
  refine r_aloadn h (q := 0) 1 rfl (by decide +kernel : decode cX4_weigh 15 = .ok (.aload_n 0, 1)) ?_
  refine r_iload h 0 rfl (by decide +kernel : decode cX4_weigh 16 = .ok (.iload 4, 2)) ?_
  refine r_putI h f_Secrets_33 hb rfl rfl (by decide +kernel : decode cX4_weigh 18 = .ok (.putfield 33, 3)) ?_
  have H := H _ rfl
  revert H
  generalize (upr M2 b (up1 (M2 b) 1 r1)) = M3
  intro H
  refine r_aloadn h (q := 0) 1 rfl (by decide +kernel : decode cX4_weigh 21 = .ok (.aload_n 0, 1)) ?_
  refine r_iconst h (v := 0) (by decide +kernel : decode cX4_weigh 22 = .ok (.iconst 0, 1)) ?_
  refine r_putI h f_Secrets_36 hb rfl rfl (by decide +kernel : decode cX4_weigh 23 = .ok (.putfield 36, 3)) ?_
  have H := H _ rfl
  revert H
  generalize (upr M3 b (up1 (M3 b) 2 0)) = M4
  intro H
  refine r_iconst h (v := 0) (by decide +kernel : decode cX4_weigh 26 = .ok (.iconst 0, 1)) ?_
  refine r_istore h (L' := [(5, vi 0), (4, vi r1), (0, vr b), (1, vr b1), (2, vr b2), (3, vi x3)]) (by decide) rfl (by decide +kernel : decode cX4_weigh 27 = .ok (.istore 5, 2)) ?_
  refine r_drop h [2, 3, 4, 5, 1, 0] rfl ?_
  exact H
set_option maxHeartbeats 4000000 in
set_option maxRecDepth 100000 in
theorem w_Secrets_weigh_29 {P : Mm → Prop} {K : Nat → Rr → Nat → List (Nat × AV) → List AV → Mm → Prop} (h : EK shC yX4_weigh cX4_weigh 7 none 4 NN NN (QV RRC P) K) (b : Nat) (hb : At shC NN b (.inl 3)) (b1 : Nat) (hb1 : At shC NN b1 (.inl 7)) (b2 : Nat) (hb2 : At shC NN b2 (.inl 5)) (x3 : Int) (x4 : Int) (x5 : Int) (M : Mm)
    (H : (rng x5) ∧ (rng (M b1 9)) ∧ ((M b1 9) ≤ x5 → (K NN RRC 69 [(0, vr b), (1, vr b1), (3, vi x3), (4, vi x4), (5, vi 0)] [] M)) ∧ (¬ ((M b1 9) ≤ x5) → (∃ P1 : Int → Mm → Prop, S_Town_pressedOut b1 b2 x5 M P1 ∧ ∀ (r1 : Int) (M1 : Mm), P1 r1 M1 → (0 ≤ x5 ∧ x5 < 7) ∧ ∀ M2 : Mm, M2 = (upr M1 (b + 1) (up1 (M1 (b + 1)) x5.toNat r1)) → (0 ≤ x5 ∧ x5 < 7) ∧ ∀ M3 : Mm, M3 = (upr M2 (b + 2) (up1 (M2 (b + 2)) x5.toNat 0)) → K NN RRC 29 [(0, vr b), (1, vr b1), (2, vr b2), (3, vi x3), (4, vi x4), (5, vi (x5 + 1))] [] M3))) :
    K NN RRC 29 [(0, vr b), (1, vr b1), (2, vr b2), (3, vi x3), (4, vi x4), (5, vi x5)] [] M := by
  refine r_iload h 5 rfl (by decide +kernel : decode cX4_weigh 29 = .ok (.iload 5, 2)) ?_
  refine r_aloadn h (q := 1) 1 rfl (by decide +kernel : decode cX4_weigh 31 = .ok (.aload_n 1, 1)) ?_
  refine r_getI h f_Secrets_18 hb1 (by decide +kernel : decode cX4_weigh 32 = .ok (.getfield 18, 3)) ?_
  obtain ⟨g1, g2, H⟩ := H
  obtain ⟨H1, H2⟩ := H
  refine r_icmp_ge h 66 g1 g2 (by decide) (by decide +kernel : decode cX4_weigh 35 = .ok (.if_icmp .ge 31, 3)) (fun hc => ?_) (fun hc => ?_)
  · have H := H1 hc
    refine r_iconst h (v := 0) (by decide +kernel : decode cX4_weigh 66 = .ok (.iconst 0, 1)) ?_
    refine r_istore h (L' := [(5, vi 0), (0, vr b), (1, vr b1), (2, vr b2), (3, vi x3), (4, vi x4)]) (by decide) rfl (by decide +kernel : decode cX4_weigh 67 = .ok (.istore 5, 2)) ?_
    refine r_drop h [1, 2, 4, 5, 0] rfl ?_
    exact H
  · have H := H2 hc
    refine r_aloadn h (q := 0) 0 rfl (by decide +kernel : decode cX4_weigh 38 = .ok (.aload_n 0, 1)) ?_
    refine r_getR h (r := (b + 1)) f_Secrets_9 hb (rr_3_3 hb) (by omega) (by decide +kernel : decode cX4_weigh 39 = .ok (.getfield 9, 3)) ?_
    refine r_iload h 5 rfl (by decide +kernel : decode cX4_weigh 42 = .ok (.iload 5, 2)) ?_
    refine r_aloadn h (q := 1) 1 rfl (by decide +kernel : decode cX4_weigh 44 = .ok (.aload_n 1, 1)) ?_
    refine r_aloadn h (q := 2) 2 rfl (by decide +kernel : decode cX4_weigh 45 = .ok (.aload_n 2, 1)) ?_
    refine r_iload h 5 rfl (by decide +kernel : decode cX4_weigh 46 = .ok (.iload 5, 2)) ?_
    obtain ⟨P1, hSP1, H⟩ := H
    refine r_callV h (as := [vr b2, vi x5]) (S := [vi x5, vr (b + 1)]) (b := b1) m_Secrets_39 hSP1 (by decide) (Nat.le_refl _) rfl hb1 rfl (Nat.le_of_ble_eq_true rfl) (by decide +kernel : decode cX4_weigh 48 = .ok (.invokevirtual 39, 3)) ?_
    rintro _ _ M1 ⟨rfl, r1, rfl, hP⟩
    have H := H r1 M1 hP
    show K NN RRC _ _ [vi r1, vi x5, vr (b + 1)] _
    obtain ⟨g1, H⟩ := H
    refine r_iast h x5.toNat rfl (at_3_3 hb) g1 (by decide) (by decide +kernel : decode cX4_weigh 51 = .ok (.iastore, 1)) ?_
    have H := H _ rfl
    revert H
    generalize (upr M1 (b + 1) (up1 (M1 (b + 1)) x5.toNat r1)) = M2
    intro H
    refine r_aloadn h (q := 0) 0 rfl (by decide +kernel : decode cX4_weigh 52 = .ok (.aload_n 0, 1)) ?_
    refine r_getR h (r := (b + 2)) f_Secrets_15 hb (rr_3_4 hb) (by omega) (by decide +kernel : decode cX4_weigh 53 = .ok (.getfield 15, 3)) ?_
    refine r_iload h 5 rfl (by decide +kernel : decode cX4_weigh 56 = .ok (.iload 5, 2)) ?_
    refine r_iconst h (v := 0) (by decide +kernel : decode cX4_weigh 58 = .ok (.iconst 0, 1)) ?_
    obtain ⟨g1, H⟩ := H
    refine r_iast h x5.toNat rfl (at_3_4 hb) g1 (by decide) (by decide +kernel : decode cX4_weigh 59 = .ok (.iastore, 1)) ?_
    have H := H _ rfl
    revert H
    generalize (upr M2 (b + 2) (up1 (M2 (b + 2)) x5.toNat 0)) = M3
    intro H
    refine r_iinc h (i := 5) (v := 1) (L' := [(5, vi (x5 + 1)), (0, vr b), (1, vr b1), (2, vr b2), (3, vi x3), (4, vi x4)]) 5 rfl (by decide) rfl (by decide +kernel : decode cX4_weigh 60 = .ok (.iinc 5 1, 3)) ?_
    refine r_goto h 29 (by decide) (by decide +kernel : decode cX4_weigh 63 = .ok (.goto (-34), 3)) ?_
    refine r_drop h [1, 2, 3, 4, 5, 0] rfl ?_
    exact H
set_option maxHeartbeats 4000000 in
set_option maxRecDepth 100000 in
theorem w_Secrets_weigh_69 {P : Mm → Prop} {K : Nat → Rr → Nat → List (Nat × AV) → List AV → Mm → Prop} (h : EK shC yX4_weigh cX4_weigh 7 none 4 NN NN (QV RRC P) K) (b : Nat) (hb : At shC NN b (.inl 3)) (b1 : Nat) (hb1 : At shC NN b1 (.inl 7)) (x3 : Int) (x4 : Int) (x5 : Int) (M : Mm)
    (H : (rng x5) ∧ (rng x4) ∧ (x4 < x5 → (P M)) ∧ (¬ (x4 < x5) → (((andI x5 (xorI x4 (-1))) ≠ 0 → (K NN RRC 91 [(0, vr b), (1, vr b1), (3, vi x3), (4, vi x4), (5, vi x5)] [vi 0] M)) ∧ ((andI x5 (xorI x4 (-1))) = 0 → (K NN RRC 91 [(0, vr b), (1, vr b1), (3, vi x3), (4, vi x4), (5, vi x5)] [vi 1] M))))) :
    K NN RRC 69 [(0, vr b), (1, vr b1), (3, vi x3), (4, vi x4), (5, vi x5)] [] M := by
  refine r_iload h 4 rfl (by decide +kernel : decode cX4_weigh 69 = .ok (.iload 5, 2)) ?_
  refine r_iload h 3 rfl (by decide +kernel : decode cX4_weigh 71 = .ok (.iload 4, 2)) ?_
  obtain ⟨g1, g2, H⟩ := H
  obtain ⟨H1, H2⟩ := H
  refine r_icmp_gt h 133 g1 g2 (by decide) (by decide +kernel : decode cX4_weigh 73 = .ok (.if_icmp .gt 60, 3)) (fun hc => ?_) (fun hc => ?_)
  · have H := H1 hc
    exact r_vret h rfl (by decide +kernel : decode cX4_weigh 133 = .ok (.return_, 1)) rfl ⟨rfl, rfl, H⟩
  · have H := H2 hc
    refine r_iload h 4 rfl (by decide +kernel : decode cX4_weigh 76 = .ok (.iload 5, 2)) ?_
    refine r_iload h 3 rfl (by decide +kernel : decode cX4_weigh 78 = .ok (.iload 4, 2)) ?_
    refine r_iconst h (v := (-1)) (by decide +kernel : decode cX4_weigh 80 = .ok (.iconst (-1), 1)) ?_
    refine r_ixor h (by decide +kernel : decode cX4_weigh 81 = .ok (.ixor, 1)) ?_
    refine r_iand h (by decide +kernel : decode cX4_weigh 82 = .ok (.iand, 1)) ?_
    obtain ⟨H1, H2⟩ := H
    refine r_if_ne h 90 (rng_toInt _) (by decide) (by decide +kernel : decode cX4_weigh 83 = .ok (.ifCond .ne 7, 3)) (fun hc => ?_) (fun hc => ?_)
    · have H := H1 hc
      refine r_iconst h (v := 0) (by decide +kernel : decode cX4_weigh 90 = .ok (.iconst 0, 1)) ?_
      exact H
    · have H := H2 hc
      refine r_iconst h (v := 1) (by decide +kernel : decode cX4_weigh 86 = .ok (.iconst 1, 1)) ?_
      refine r_goto h 91 (by decide) (by decide +kernel : decode cX4_weigh 87 = .ok (.goto 4, 3)) ?_
      exact H
set_option maxHeartbeats 4000000 in
set_option maxRecDepth 100000 in
theorem w_Secrets_weigh_91 {P : Mm → Prop} {K : Nat → Rr → Nat → List (Nat × AV) → List AV → Mm → Prop} (h : EK shC yX4_weigh cX4_weigh 7 none 4 NN NN (QV RRC P) K) (b : Nat) (hb : At shC NN b (.inl 3)) (b1 : Nat) (hb1 : At shC NN b1 (.inl 7)) (x3 : Int) (x4 : Int) (x5 : Int) (s0 : Int) (M : Mm)
    (H : (rng s0) ∧ (s0 = 0 → (K NN RRC 69 [(0, vr b), (1, vr b1), (3, vi x3), (4, vi x4), (5, vi (x5 + 1))] [] M)) ∧ (s0 ≠ 0 → ((rng x3) ∧ (x3 = (-1) → (∃ P1 : Mm → Prop, S_Secrets_keep b x5 (M b1 9) M P1 ∧ ∀ M1 : Mm, P1 M1 → K NN RRC 69 [(0, vr b), (1, vr b1), (3, vi x3), (4, vi x4), (5, vi (x5 + 1))] [] M1)) ∧ (x3 ≠ (-1) → (∃ P2 : Int → Mm → Prop, S_Secrets_sumOf b x5 (M b1 9) M P2 ∧ ∀ (r2 : Int) (M2 : Mm), P2 r2 M2 → (rng r2) ∧ (rng x3) ∧ (r2 ≠ x3 → (K NN RRC 69 [(0, vr b), (1, vr b1), (3, vi x3), (4, vi x4), (5, vi (x5 + 1))] [] M2)) ∧ (r2 = x3 → (∃ P3 : Mm → Prop, S_Secrets_keep b x5 (M2 b1 9) M2 P3 ∧ ∀ M3 : Mm, P3 M3 → K NN RRC 69 [(0, vr b), (1, vr b1), (3, vi x3), (4, vi x4), (5, vi (x5 + 1))] [] M3))))))) :
    K NN RRC 91 [(0, vr b), (1, vr b1), (3, vi x3), (4, vi x4), (5, vi x5)] [vi s0] M := by
  refine r_istore h (L' := [(6, vi s0), (0, vr b), (1, vr b1), (3, vi x3), (4, vi x4), (5, vi x5)]) (by decide) rfl (by decide +kernel : decode cX4_weigh 91 = .ok (.istore 6, 2)) ?_
  refine r_iload h 0 rfl (by decide +kernel : decode cX4_weigh 93 = .ok (.iload 6, 2)) ?_
  obtain ⟨g1, H⟩ := H
  obtain ⟨H1, H2⟩ := H
  refine r_if_eq h 127 g1 (by decide) (by decide +kernel : decode cX4_weigh 95 = .ok (.ifCond .eq 32, 3)) (fun hc => ?_) (fun hc => ?_)
  · have H := H1 hc
    refine r_iinc h (i := 5) (v := 1) (L' := [(5, vi (x5 + 1)), (6, vi s0), (0, vr b), (1, vr b1), (3, vi x3), (4, vi x4)]) 5 rfl (by decide) rfl (by decide +kernel : decode cX4_weigh 127 = .ok (.iinc 5 1, 3)) ?_
    refine r_goto h 69 (by decide) (by decide +kernel : decode cX4_weigh 130 = .ok (.goto (-61), 3)) ?_
    refine r_drop h [2, 3, 4, 5, 0] rfl ?_
    exact H
  · have H := H2 hc
    refine r_iloadn h (q := 3) 3 rfl (by decide +kernel : decode cX4_weigh 98 = .ok (.iload_n 3, 1)) ?_
    refine r_iconst h (v := (-1)) (by decide +kernel : decode cX4_weigh 99 = .ok (.iconst (-1), 1)) ?_
    obtain ⟨g1, H⟩ := H
    obtain ⟨H1, H2⟩ := H
    refine r_icmp_eq h 117 g1 (by decide) (by decide) (by decide +kernel : decode cX4_weigh 100 = .ok (.if_icmp .eq 17, 3)) (fun hc => ?_) (fun hc => ?_)
    · have H := H1 hc
      refine r_aloadn h (q := 0) 1 rfl (by decide +kernel : decode cX4_weigh 117 = .ok (.aload_n 0, 1)) ?_
      refine r_iload h 5 rfl (by decide +kernel : decode cX4_weigh 118 = .ok (.iload 5, 2)) ?_
      refine r_aloadn h (q := 1) 2 rfl (by decide +kernel : decode cX4_weigh 120 = .ok (.aload_n 1, 1)) ?_
      refine r_getI h f_Secrets_18 hb1 (by decide +kernel : decode cX4_weigh 121 = .ok (.getfield 18, 3)) ?_
      obtain ⟨P1, hSP1, H⟩ := H
      refine r_callV h (as := [vi x5, vi (M b1 9)]) (S := []) (b := b) m_Secrets_47 hSP1 (by decide) (Nat.le_refl _) rfl hb rfl (Nat.le_of_ble_eq_true rfl) (by decide +kernel : decode cX4_weigh 124 = .ok (.invokevirtual 47, 3)) ?_
      rintro _ _ M1 ⟨rfl, rfl, hP⟩
      have H := H M1 hP
      show K NN RRC _ _ [] _
      refine r_iinc h (i := 5) (v := 1) (L' := [(5, vi (x5 + 1)), (6, vi s0), (0, vr b), (1, vr b1), (3, vi x3), (4, vi x4)]) 5 rfl (by decide) rfl (by decide +kernel : decode cX4_weigh 127 = .ok (.iinc 5 1, 3)) ?_
      refine r_goto h 69 (by decide) (by decide +kernel : decode cX4_weigh 130 = .ok (.goto (-61), 3)) ?_
      refine r_drop h [2, 3, 4, 5, 0] rfl ?_
      exact H
    · have H := H2 hc
      refine r_aloadn h (q := 0) 1 rfl (by decide +kernel : decode cX4_weigh 103 = .ok (.aload_n 0, 1)) ?_
      refine r_iload h 5 rfl (by decide +kernel : decode cX4_weigh 104 = .ok (.iload 5, 2)) ?_
      refine r_aloadn h (q := 1) 2 rfl (by decide +kernel : decode cX4_weigh 106 = .ok (.aload_n 1, 1)) ?_
      refine r_getI h f_Secrets_18 hb1 (by decide +kernel : decode cX4_weigh 107 = .ok (.getfield 18, 3)) ?_
      obtain ⟨P2, hSP2, H⟩ := H
      refine r_callV h (as := [vi x5, vi (M b1 9)]) (S := []) (b := b) m_Secrets_43 hSP2 (by decide) (Nat.le_refl _) rfl hb rfl (Nat.le_of_ble_eq_true rfl) (by decide +kernel : decode cX4_weigh 110 = .ok (.invokevirtual 43, 3)) ?_
      rintro _ _ M2 ⟨rfl, r2, rfl, hP⟩
      have H := H r2 M2 hP
      show K NN RRC _ _ [vi r2] _
      refine r_iloadn h (q := 3) 3 rfl (by decide +kernel : decode cX4_weigh 113 = .ok (.iload_n 3, 1)) ?_
      obtain ⟨g1, g2, H⟩ := H
      obtain ⟨H1, H2⟩ := H
      refine r_icmp_ne h 127 g1 g2 (by decide) (by decide +kernel : decode cX4_weigh 114 = .ok (.if_icmp .ne 13, 3)) (fun hc => ?_) (fun hc => ?_)
      · have H := H1 hc
        refine r_iinc h (i := 5) (v := 1) (L' := [(5, vi (x5 + 1)), (6, vi s0), (0, vr b), (1, vr b1), (3, vi x3), (4, vi x4)]) 5 rfl (by decide) rfl (by decide +kernel : decode cX4_weigh 127 = .ok (.iinc 5 1, 3)) ?_
        refine r_goto h 69 (by decide) (by decide +kernel : decode cX4_weigh 130 = .ok (.goto (-61), 3)) ?_
        refine r_drop h [2, 3, 4, 5, 0] rfl ?_
        exact H
      · have H := H2 hc
        refine r_aloadn h (q := 0) 1 rfl (by decide +kernel : decode cX4_weigh 117 = .ok (.aload_n 0, 1)) ?_
        refine r_iload h 5 rfl (by decide +kernel : decode cX4_weigh 118 = .ok (.iload 5, 2)) ?_
        refine r_aloadn h (q := 1) 2 rfl (by decide +kernel : decode cX4_weigh 120 = .ok (.aload_n 1, 1)) ?_
        refine r_getI h f_Secrets_18 hb1 (by decide +kernel : decode cX4_weigh 121 = .ok (.getfield 18, 3)) ?_
        obtain ⟨P3, hSP3, H⟩ := H
        refine r_callV h (as := [vi x5, vi (M2 b1 9)]) (S := []) (b := b) m_Secrets_47 hSP3 (by decide) (Nat.le_refl _) rfl hb rfl (Nat.le_of_ble_eq_true rfl) (by decide +kernel : decode cX4_weigh 124 = .ok (.invokevirtual 47, 3)) ?_
        rintro _ _ M3 ⟨rfl, rfl, hP⟩
        have H := H M3 hP
        show K NN RRC _ _ [] _
        refine r_iinc h (i := 5) (v := 1) (L' := [(5, vi (x5 + 1)), (6, vi s0), (0, vr b), (1, vr b1), (3, vi x3), (4, vi x4)]) 5 rfl (by decide) rfl (by decide +kernel : decode cX4_weigh 127 = .ok (.iinc 5 1, 3)) ?_
        refine r_goto h 69 (by decide) (by decide +kernel : decode cX4_weigh 130 = .ok (.goto (-61), 3)) ?_
        refine r_drop h [2, 3, 4, 5, 0] rfl ?_
        exact H
set_option maxHeartbeats 4000000 in
set_option maxRecDepth 100000 in
theorem w_Mangle_drawThrough_0 {P : Mm → Prop} {K : Nat → Rr → Nat → List (Nat × AV) → List AV → Mm → Prop} (h : EK shC yX2_drawThrough cX2_drawThrough 6 none 5 NN NN (QV RRC P) K) (b : Nat) (hb : At shC NN b (.inl 1)) (b1 : Nat) (hb1 : At shC NN b1 (.inl 7)) (b2 : Nat) (hb2 : At shC NN b2 (.inl 5)) (M : Mm)
    (H : ∀ M1 : Mm, M1 = (upr M b (up1 (M b) 0 0)) → ∀ M2 : Mm, M2 = (upr M1 b (up1 (M1 b) 1 0)) → K NN RRC 15 [(0, vr b), (1, vr b1), (2, vr b2), (3, vi (-1)), (4, vi 0)] [] M2) :
    K NN RRC 0 [(0, vr b), (1, vr b1), (2, vr b2)] [] M := by
  refine r_aloadn h (q := 0) 0 rfl (by decide +kernel : decode cX2_drawThrough 0 = .ok (.aload_n 0, 1)) ?_
  refine r_iconst h (v := 0) (by decide +kernel : decode cX2_drawThrough 1 = .ok (.iconst 0, 1)) ?_
  refine r_putI h f_Mangle_9 hb rfl rfl (by decide +kernel : decode cX2_drawThrough 2 = .ok (.putfield 9, 3)) ?_
  have H := H _ rfl
  revert H
  generalize (upr M b (up1 (M b) 0 0)) = M1
  intro H
  refine r_aloadn h (q := 0) 0 rfl (by decide +kernel : decode cX2_drawThrough 5 = .ok (.aload_n 0, 1)) ?_
  refine r_iconst h (v := 0) (by decide +kernel : decode cX2_drawThrough 6 = .ok (.iconst 0, 1)) ?_
  refine r_putI h f_Mangle_15 hb rfl rfl (by decide +kernel : decode cX2_drawThrough 7 = .ok (.putfield 15, 3)) ?_
  have H := H _ rfl
  revert H
  generalize (upr M1 b (up1 (M1 b) 1 0)) = M2
  intro H
  refine r_iconst h (v := (-1)) (by decide +kernel : decode cX2_drawThrough 10 = .ok (.iconst (-1), 1)) ?_
  refine r_istoren h (q := 3) (L' := [(3, vi (-1)), (0, vr b), (1, vr b1), (2, vr b2)]) (by decide) rfl (by decide +kernel : decode cX2_drawThrough 11 = .ok (.istore_n 3, 1)) ?_
  refine r_iconst h (v := 0) (by decide +kernel : decode cX2_drawThrough 12 = .ok (.iconst 0, 1)) ?_
  refine r_istore h (L' := [(4, vi 0), (3, vi (-1)), (0, vr b), (1, vr b1), (2, vr b2)]) (by decide) rfl (by decide +kernel : decode cX2_drawThrough 13 = .ok (.istore 4, 2)) ?_
  refine r_drop h [2, 3, 4, 1, 0] rfl ?_
  exact H
set_option maxHeartbeats 4000000 in
set_option maxRecDepth 100000 in
theorem w_Mangle_drawThrough_15 {P : Mm → Prop} {K : Nat → Rr → Nat → List (Nat × AV) → List AV → Mm → Prop} (h : EK shC yX2_drawThrough cX2_drawThrough 6 none 5 NN NN (QV RRC P) K) (b : Nat) (hb : At shC NN b (.inl 1)) (b1 : Nat) (hb1 : At shC NN b1 (.inl 7)) (b2 : Nat) (hb2 : At shC NN b2 (.inl 5)) (x3 : Int) (x4 : Int) (M : Mm)
    (H : (rng x4) ∧ (rng (M b1 9)) ∧ ((M b1 9) ≤ x4 → (∃ P1 : Int → Mm → Prop, S_Town_rainOf b1 (M b2 6) M P1 ∧ ∀ (r1 : Int) (M1 : Mm), P1 r1 M1 → K NN RRC 86 [(1, vr b1), (2, vr b2), (4, vi r1), (5, vi 0)] [] M1)) ∧ (¬ ((M b1 9) ≤ x4) → ((0 ≤ x4 ∧ x4 < 7) ∧ ∃ P2 : Int → Mm → Prop, S_State_goes b2 (M (b2 + 4) x4.toNat) M P2 ∧ ∀ (r2 : Int) (M2 : Mm), P2 r2 M2 → (rng r2) ∧ (r2 = 0 → (K NN RRC 15 [(0, vr b), (1, vr b1), (2, vr b2), (3, vi x3), (4, vi (x4 + 1))] [] M2)) ∧ (r2 ≠ 0 → (∃ P3 : Mm → Prop, S_Mangle_pressOne b b1 b2 x3 (M (b2 + 4) x4.toNat) M2 P3 ∧ ∀ M3 : Mm, P3 M3 → ∃ P4 : Int → Mm → Prop, S_Town_isCat b1 (M (b2 + 4) x4.toNat) M3 P4 ∧ ∀ (r4 : Int) (M4 : Mm), P4 r4 M4 → (rng r4) ∧ (r4 = 0 → (K NN RRC 15 [(0, vr b), (1, vr b1), (2, vr b2), (3, vi (M (b2 + 4) x4.toNat)), (4, vi (x4 + 1))] [] M4)) ∧ (r4 ≠ 0 → (K NN RRC 15 [(0, vr b), (1, vr b1), (2, vr b2), (3, vi x3), (4, vi (x4 + 1))] [] M4))))))) :
    K NN RRC 15 [(0, vr b), (1, vr b1), (2, vr b2), (3, vi x3), (4, vi x4)] [] M := by
  refine r_iload h 4 rfl (by decide +kernel : decode cX2_drawThrough 15 = .ok (.iload 4, 2)) ?_
  refine r_aloadn h (q := 1) 1 rfl (by decide +kernel : decode cX2_drawThrough 17 = .ok (.aload_n 1, 1)) ?_
  refine r_getI h f_Mangle_18 hb1 (by decide +kernel : decode cX2_drawThrough 18 = .ok (.getfield 18, 3)) ?_
  obtain ⟨g1, g2, H⟩ := H
  obtain ⟨H1, H2⟩ := H
  refine r_icmp_ge h 73 g1 g2 (by decide) (by decide +kernel : decode cX2_drawThrough 21 = .ok (.if_icmp .ge 52, 3)) (fun hc => ?_) (fun hc => ?_)
  · have H := H1 hc
    refine r_aloadn h (q := 1) 1 rfl (by decide +kernel : decode cX2_drawThrough 73 = .ok (.aload_n 1, 1)) ?_
    refine r_aloadn h (q := 2) 2 rfl (by decide +kernel : decode cX2_drawThrough 74 = .ok (.aload_n 2, 1)) ?_
    refine r_getI h f_Mangle_40 hb2 (by decide +kernel : decode cX2_drawThrough 75 = .ok (.getfield 40, 3)) ?_
    obtain ⟨P1, hSP1, H⟩ := H
    refine r_callV h (as := [vi (M b2 6)]) (S := []) (b := b1) m_Mangle_43 hSP1 (by decide) (Nat.le_refl _) rfl hb1 rfl (Nat.le_of_ble_eq_true rfl) (by decide +kernel : decode cX2_drawThrough 78 = .ok (.invokevirtual 43, 3)) ?_
    rintro _ _ M1 ⟨rfl, r1, rfl, hP⟩
    have H := H r1 M1 hP
    show K NN RRC _ _ [vi r1] _
    refine r_istore h (L' := [(4, vi r1), (0, vr b), (1, vr b1), (2, vr b2), (3, vi x3)]) (by decide) rfl (by decide +kernel : decode cX2_drawThrough 81 = .ok (.istore 4, 2)) ?_
    refine r_iconst h (v := 0) (by decide +kernel : decode cX2_drawThrough 83 = .ok (.iconst 0, 1)) ?_
    refine r_istore h (L' := [(5, vi 0), (4, vi r1), (0, vr b), (1, vr b1), (2, vr b2), (3, vi x3)]) (by decide) rfl (by decide +kernel : decode cX2_drawThrough 84 = .ok (.istore 5, 2)) ?_
    refine r_drop h [3, 4, 1, 0] rfl ?_
    exact H
  · have H := H2 hc
    refine r_aloadn h (q := 2) 2 rfl (by decide +kernel : decode cX2_drawThrough 24 = .ok (.aload_n 2, 1)) ?_
    refine r_getR h (r := (b2 + 4)) f_Mangle_23 hb2 (rr_5_3 hb2) (by omega) (by decide +kernel : decode cX2_drawThrough 25 = .ok (.getfield 23, 3)) ?_
    refine r_iload h 4 rfl (by decide +kernel : decode cX2_drawThrough 28 = .ok (.iload 4, 2)) ?_
    obtain ⟨g1, H⟩ := H
    refine r_iald h x4.toNat rfl (at_5_3 hb2) g1 (by decide) (by decide +kernel : decode cX2_drawThrough 30 = .ok (.iaload, 1)) ?_
    refine r_istore h (L' := [(5, vi (M (b2 + 4) x4.toNat)), (0, vr b), (1, vr b1), (2, vr b2), (3, vi x3), (4, vi x4)]) (by decide) rfl (by decide +kernel : decode cX2_drawThrough 31 = .ok (.istore 5, 2)) ?_
    refine r_aloadn h (q := 2) 3 rfl (by decide +kernel : decode cX2_drawThrough 33 = .ok (.aload_n 2, 1)) ?_
    refine r_iload h 0 rfl (by decide +kernel : decode cX2_drawThrough 34 = .ok (.iload 5, 2)) ?_
    obtain ⟨P2, hSP2, H⟩ := H
    refine r_callV h (as := [vi (M (b2 + 4) x4.toNat)]) (S := []) (b := b2) m_Mangle_29 hSP2 (by decide) (Nat.le_refl _) rfl hb2 rfl (Nat.le_of_ble_eq_true rfl) (by decide +kernel : decode cX2_drawThrough 36 = .ok (.invokevirtual 29, 3)) ?_
    rintro _ _ M2 ⟨rfl, r2, rfl, hP⟩
    have H := H r2 M2 hP
    show K NN RRC _ _ [vi r2] _
    obtain ⟨g1, H⟩ := H
    obtain ⟨H1, H2⟩ := H
    refine r_if_eq h 67 g1 (by decide) (by decide +kernel : decode cX2_drawThrough 39 = .ok (.ifCond .eq 28, 3)) (fun hc => ?_) (fun hc => ?_)
    · have H := H1 hc
      refine r_iinc h (i := 4) (v := 1) (L' := [(4, vi (x4 + 1)), (5, vi (M (b2 + 4) x4.toNat)), (0, vr b), (1, vr b1), (2, vr b2), (3, vi x3)]) 5 rfl (by decide) rfl (by decide +kernel : decode cX2_drawThrough 67 = .ok (.iinc 4 1, 3)) ?_
      refine r_goto h 15 (by decide) (by decide +kernel : decode cX2_drawThrough 70 = .ok (.goto (-55), 3)) ?_
      refine r_drop h [2, 3, 4, 5, 0] rfl ?_
      exact H
    · have H := H2 hc
      refine r_aloadn h (q := 0) 1 rfl (by decide +kernel : decode cX2_drawThrough 42 = .ok (.aload_n 0, 1)) ?_
      refine r_aloadn h (q := 1) 2 rfl (by decide +kernel : decode cX2_drawThrough 43 = .ok (.aload_n 1, 1)) ?_
      refine r_aloadn h (q := 2) 3 rfl (by decide +kernel : decode cX2_drawThrough 44 = .ok (.aload_n 2, 1)) ?_
      refine r_iloadn h (q := 3) 4 rfl (by decide +kernel : decode cX2_drawThrough 45 = .ok (.iload_n 3, 1)) ?_
      refine r_iload h 0 rfl (by decide +kernel : decode cX2_drawThrough 46 = .ok (.iload 5, 2)) ?_
      obtain ⟨P3, hSP3, H⟩ := H
      refine r_callV h (as := [vr b1, vr b2, vi x3, vi (M (b2 + 4) x4.toNat)]) (S := []) (b := b) m_Mangle_33 hSP3 (by decide) (Nat.le_refl _) rfl hb rfl (Nat.le_of_ble_eq_true rfl) (by decide +kernel : decode cX2_drawThrough 48 = .ok (.invokevirtual 33, 3)) ?_
      rintro _ _ M3 ⟨rfl, rfl, hP⟩
      have H := H M3 hP
      show K NN RRC _ _ [] _
      refine r_aloadn h (q := 1) 2 rfl (by decide +kernel : decode cX2_drawThrough 51 = .ok (.aload_n 1, 1)) ?_
      refine r_iload h 0 rfl (by decide +kernel : decode cX2_drawThrough 52 = .ok (.iload 5, 2)) ?_
      obtain ⟨P4, hSP4, H⟩ := H
      refine r_callV h (as := [vi (M (b2 + 4) x4.toNat)]) (S := []) (b := b1) m_Mangle_37 hSP4 (by decide) (Nat.le_refl _) rfl hb1 rfl (Nat.le_of_ble_eq_true rfl) (by decide +kernel : decode cX2_drawThrough 54 = .ok (.invokevirtual 37, 3)) ?_
      rintro _ _ M4 ⟨rfl, r4, rfl, hP⟩
      have H := H r4 M4 hP
      show K NN RRC _ _ [vi r4] _
      obtain ⟨g1, H⟩ := H
      obtain ⟨H1, H2⟩ := H
      refine r_if_eq h 64 g1 (by decide) (by decide +kernel : decode cX2_drawThrough 57 = .ok (.ifCond .eq 7, 3)) (fun hc => ?_) (fun hc => ?_)
      · have H := H1 hc
        refine r_iload h 0 rfl (by decide +kernel : decode cX2_drawThrough 64 = .ok (.iload 5, 2)) ?_
        refine r_istoren h (q := 3) (L' := [(3, vi (M (b2 + 4) x4.toNat)), (5, vi (M (b2 + 4) x4.toNat)), (0, vr b), (1, vr b1), (2, vr b2), (4, vi x4)]) (by decide) rfl (by decide +kernel : decode cX2_drawThrough 66 = .ok (.istore_n 3, 1)) ?_
        refine r_iinc h (i := 4) (v := 1) (L' := [(4, vi (x4 + 1)), (3, vi (M (b2 + 4) x4.toNat)), (5, vi (M (b2 + 4) x4.toNat)), (0, vr b), (1, vr b1), (2, vr b2)]) 5 rfl (by decide) rfl (by decide +kernel : decode cX2_drawThrough 67 = .ok (.iinc 4 1, 3)) ?_
        refine r_goto h 15 (by decide) (by decide +kernel : decode cX2_drawThrough 70 = .ok (.goto (-55), 3)) ?_
        refine r_drop h [3, 4, 5, 1, 0] rfl ?_
        exact H
      · have H := H2 hc
        refine r_iloadn h (q := 3) 4 rfl (by decide +kernel : decode cX2_drawThrough 60 = .ok (.iload_n 3, 1)) ?_
        refine r_goto h 66 (by decide) (by decide +kernel : decode cX2_drawThrough 61 = .ok (.goto 5, 3)) ?_
        refine r_istoren h (q := 3) (L' := [(3, vi x3), (5, vi (M (b2 + 4) x4.toNat)), (0, vr b), (1, vr b1), (2, vr b2), (4, vi x4)]) (by decide) rfl (by decide +kernel : decode cX2_drawThrough 66 = .ok (.istore_n 3, 1)) ?_
        refine r_iinc h (i := 4) (v := 1) (L' := [(4, vi (x4 + 1)), (3, vi x3), (5, vi (M (b2 + 4) x4.toNat)), (0, vr b), (1, vr b1), (2, vr b2)]) 5 rfl (by decide) rfl (by decide +kernel : decode cX2_drawThrough 67 = .ok (.iinc 4 1, 3)) ?_
        refine r_goto h 15 (by decide) (by decide +kernel : decode cX2_drawThrough 70 = .ok (.goto (-55), 3)) ?_
        refine r_drop h [3, 4, 5, 1, 0] rfl ?_
        exact H
set_option maxHeartbeats 4000000 in
set_option maxRecDepth 100000 in
theorem w_Mangle_drawThrough_86 {P : Mm → Prop} {K : Nat → Rr → Nat → List (Nat × AV) → List AV → Mm → Prop} (h : EK shC yX2_drawThrough cX2_drawThrough 6 none 5 NN NN (QV RRC P) K) (b1 : Nat) (hb1 : At shC NN b1 (.inl 7)) (b2 : Nat) (hb2 : At shC NN b2 (.inl 5)) (x4 : Int) (x5 : Int) (M : Mm)
    (H : (rng x5) ∧ (rng (M b1 9)) ∧ ((M b1 9) ≤ x5 → (∀ M1 : Mm, M1 = (upr M b2 (up1 (M b2) 6 ((M b2 6) + 1))) → P M1)) ∧ (¬ ((M b1 9) ≤ x5) → (∃ P2 : Mm → Prop, S_State_rainOn b2 x5 x4 M P2 ∧ ∀ M2 : Mm, P2 M2 → K NN RRC 86 [(1, vr b1), (2, vr b2), (4, vi x4), (5, vi (x5 + 1))] [] M2))) :
    K NN RRC 86 [(1, vr b1), (2, vr b2), (4, vi x4), (5, vi x5)] [] M := by
  refine r_iload h 3 rfl (by decide +kernel : decode cX2_drawThrough 86 = .ok (.iload 5, 2)) ?_
  refine r_aloadn h (q := 1) 0 rfl (by decide +kernel : decode cX2_drawThrough 88 = .ok (.aload_n 1, 1)) ?_
  refine r_getI h f_Mangle_18 hb1 (by decide +kernel : decode cX2_drawThrough 89 = .ok (.getfield 18, 3)) ?_
  obtain ⟨g1, g2, H⟩ := H
  obtain ⟨H1, H2⟩ := H
  refine r_icmp_ge h 109 g1 g2 (by decide) (by decide +kernel : decode cX2_drawThrough 92 = .ok (.if_icmp .ge 17, 3)) (fun hc => ?_) (fun hc => ?_)
  · have H := H1 hc
    refine r_aloadn h (q := 2) 1 rfl (by decide +kernel : decode cX2_drawThrough 109 = .ok (.aload_n 2, 1)) ?_
    refine r_dup h rfl (by decide +kernel : decode cX2_drawThrough 110 = .ok (.dup, 1)) ?_
    refine r_getI h f_Mangle_40 hb2 (by decide +kernel : decode cX2_drawThrough 111 = .ok (.getfield 40, 3)) ?_
    refine r_iconst h (v := 1) (by decide +kernel : decode cX2_drawThrough 114 = .ok (.iconst 1, 1)) ?_
    refine r_iadd h (by decide +kernel : decode cX2_drawThrough 115 = .ok (.iadd, 1)) ?_
    refine r_putI h f_Mangle_40 hb2 rfl rfl (by decide +kernel : decode cX2_drawThrough 116 = .ok (.putfield 40, 3)) ?_
    have H := H _ rfl
    revert H
    generalize (upr M b2 (up1 (M b2) 6 ((M b2 6) + 1))) = M1
    intro H
    exact r_vret h rfl (by decide +kernel : decode cX2_drawThrough 119 = .ok (.return_, 1)) rfl ⟨rfl, rfl, H⟩
  · have H := H2 hc
    refine r_aloadn h (q := 2) 1 rfl (by decide +kernel : decode cX2_drawThrough 95 = .ok (.aload_n 2, 1)) ?_
    refine r_iload h 3 rfl (by decide +kernel : decode cX2_drawThrough 96 = .ok (.iload 5, 2)) ?_
    refine r_iload h 2 rfl (by decide +kernel : decode cX2_drawThrough 98 = .ok (.iload 4, 2)) ?_
    obtain ⟨P2, hSP2, H⟩ := H
    refine r_callV h (as := [vi x5, vi x4]) (S := []) (b := b2) m_Mangle_47 hSP2 (by decide) (Nat.le_refl _) rfl hb2 rfl (Nat.le_of_ble_eq_true rfl) (by decide +kernel : decode cX2_drawThrough 100 = .ok (.invokevirtual 47, 3)) ?_
    rintro _ _ M2 ⟨rfl, rfl, hP⟩
    have H := H M2 hP
    show K NN RRC _ _ [] _
    refine r_iinc h (i := 5) (v := 1) (L' := [(5, vi (x5 + 1)), (1, vr b1), (2, vr b2), (4, vi x4)]) 3 rfl (by decide) rfl (by decide +kernel : decode cX2_drawThrough 103 = .ok (.iinc 5 1, 3)) ?_
    refine r_goto h 86 (by decide) (by decide +kernel : decode cX2_drawThrough 106 = .ok (.goto (-20), 3)) ?_
    refine r_drop h [1, 2, 3, 0] rfl ?_
    exact H
set_option maxHeartbeats 4000000 in
set_option maxRecDepth 100000 in
theorem w_Rows_leastRoad_0 {P : Int → Mm → Prop} {K : Nat → Rr → Nat → List (Nat × AV) → List AV → Mm → Prop} (h : EK shC yX3_leastRoad cX3_leastRoad 7 (some .int) 5 NN NN (QI RRC P) K) (b : Nat) (hb : At shC NN b (.inl 2)) (b1 : Nat) (hb1 : At shC NN b1 (.inl 7)) (b2 : Nat) (hb2 : At shC NN b2 (.inl 5)) (M : Mm)
    (H : ∃ P1 : Mm → Prop, S_Rows_findLasts b b1 M P1 ∧ ∀ M1 : Mm, P1 M1 → ∃ P2 : Int → Mm → Prop, S_State_goingSet b2 (M1 b1 9) M1 P2 ∧ ∀ (r2 : Int) (M2 : Mm), P2 r2 M2 → K NN RRC 20 [(0, vr b), (3, vi r2), (4, vi r2), (5, vi r2)] [] M2) :
    K NN RRC 0 [(0, vr b), (1, vr b1), (2, vr b2)] [] M := by
  refine r_aloadn h (q := 0) 0 rfl (by decide +kernel : decode cX3_leastRoad 0 = .ok (.aload_n 0, 1)) ?_
  refine r_aloadn h (q := 1) 1 rfl (by decide +kernel : decode cX3_leastRoad 1 = .ok (.aload_n 1, 1)) ?_
  obtain ⟨P1, hSP1, H⟩ := H
  refine r_callV h (as := [vr b1]) (S := []) (b := b) m_Rows_30 hSP1 (by decide) (Nat.le_refl _) rfl hb rfl (Nat.le_of_ble_eq_true rfl) (by decide +kernel : decode cX3_leastRoad 2 = .ok (.invokevirtual 30, 3)) ?_
  rintro _ _ M1 ⟨rfl, rfl, hP⟩
  have H := H M1 hP
  show K NN RRC _ _ [] _
  refine r_aloadn h (q := 2) 2 rfl (by decide +kernel : decode cX3_leastRoad 5 = .ok (.aload_n 2, 1)) ?_
  refine r_aloadn h (q := 1) 1 rfl (by decide +kernel : decode cX3_leastRoad 6 = .ok (.aload_n 1, 1)) ?_
  refine r_getI h f_Rows_34 hb1 (by decide +kernel : decode cX3_leastRoad 7 = .ok (.getfield 34, 3)) ?_
  obtain ⟨P2, hSP2, H⟩ := H
  refine r_callV h (as := [vi (M1 b1 9)]) (S := []) (b := b2) m_Rows_40 hSP2 (by decide) (Nat.le_refl _) rfl hb2 rfl (Nat.le_of_ble_eq_true rfl) (by decide +kernel : decode cX3_leastRoad 10 = .ok (.invokevirtual 40, 3)) ?_
  rintro _ _ M2 ⟨rfl, r2, rfl, hP⟩
  have H := H r2 M2 hP
  show K NN RRC _ _ [vi r2] _
  refine r_istoren h (q := 3) (L' := [(3, vi r2), (0, vr b), (1, vr b1), (2, vr b2)]) (by decide) rfl (by decide +kernel : decode cX3_leastRoad 13 = .ok (.istore_n 3, 1)) ?_
  refine r_iloadn h (q := 3) 0 rfl (by decide +kernel : decode cX3_leastRoad 14 = .ok (.iload_n 3, 1)) ?_
  refine r_istore h (L' := [(4, vi r2), (3, vi r2), (0, vr b), (1, vr b1), (2, vr b2)]) (by decide) rfl (by decide +kernel : decode cX3_leastRoad 15 = .ok (.istore 4, 2)) ?_
  refine r_iloadn h (q := 3) 1 rfl (by decide +kernel : decode cX3_leastRoad 17 = .ok (.iload_n 3, 1)) ?_
  refine r_istore h (L' := [(5, vi r2), (4, vi r2), (3, vi r2), (0, vr b), (1, vr b1), (2, vr b2)]) (by decide) rfl (by decide +kernel : decode cX3_leastRoad 18 = .ok (.istore 5, 2)) ?_
  refine r_drop h [3, 2, 1, 0] rfl ?_
  exact H
set_option maxHeartbeats 4000000 in
set_option maxRecDepth 100000 in
theorem w_Rows_leastRoad_20 {P : Int → Mm → Prop} {K : Nat → Rr → Nat → List (Nat × AV) → List AV → Mm → Prop} (h : EK shC yX3_leastRoad cX3_leastRoad 7 (some .int) 5 NN NN (QI RRC P) K) (b : Nat) (hb : At shC NN b (.inl 2)) (x3 : Int) (x4 : Int) (x5 : Int) (M : Mm)
    (H : (rng x5) ∧ (x5 < 0 → (P x4 M)) ∧ (¬ (x5 < 0) → (((andI x5 (xorI x3 (-1))) ≠ 0 → (K NN RRC 53 [(0, vr b), (3, vi x3), (4, vi x4), (5, vi x5)] [vi 0] M)) ∧ ((andI x5 (xorI x3 (-1))) = 0 → ((0 ≤ (andI x3 (xorI x5 (-1))) ∧ (andI x3 (xorI x5 (-1))) < 128) ∧ (rng (M (b + 4) (andI x3 (xorI x5 (-1))).toNat)) ∧ ((M (b + 4) (andI x3 (xorI x5 (-1))).toNat) = 0 → (K NN RRC 53 [(0, vr b), (3, vi x3), (4, vi x4), (5, vi x5)] [vi 0] M)) ∧ ((M (b + 4) (andI x3 (xorI x5 (-1))).toNat) ≠ 0 → (K NN RRC 53 [(0, vr b), (3, vi x3), (4, vi x4), (5, vi x5)] [vi 1] M))))))) :
    K NN RRC 20 [(0, vr b), (3, vi x3), (4, vi x4), (5, vi x5)] [] M := by
  refine r_iload h 3 rfl (by decide +kernel : decode cX3_leastRoad 20 = .ok (.iload 5, 2)) ?_
  obtain ⟨g1, H⟩ := H
  obtain ⟨H1, H2⟩ := H
  refine r_if_lt h 83 g1 (by decide) (by decide +kernel : decode cX3_leastRoad 22 = .ok (.ifCond .lt 61, 3)) (fun hc => ?_) (fun hc => ?_)
  · have H := H1 hc
    refine r_iload h 2 rfl (by decide +kernel : decode cX3_leastRoad 83 = .ok (.iload 4, 2)) ?_
    exact r_iret h rfl (by decide +kernel : decode cX3_leastRoad 85 = .ok (.ireturn, 1)) rfl ⟨rfl, _, rfl, H⟩
  · have H := H2 hc
    refine r_iload h 3 rfl (by decide +kernel : decode cX3_leastRoad 25 = .ok (.iload 5, 2)) ?_
    refine r_iloadn h (q := 3) 1 rfl (by decide +kernel : decode cX3_leastRoad 27 = .ok (.iload_n 3, 1)) ?_
    refine r_iconst h (v := (-1)) (by decide +kernel : decode cX3_leastRoad 28 = .ok (.iconst (-1), 1)) ?_
    refine r_ixor h (by decide +kernel : decode cX3_leastRoad 29 = .ok (.ixor, 1)) ?_
    refine r_iand h (by decide +kernel : decode cX3_leastRoad 30 = .ok (.iand, 1)) ?_
    obtain ⟨H1, H2⟩ := H
    refine r_if_ne h 52 (rng_toInt _) (by decide) (by decide +kernel : decode cX3_leastRoad 31 = .ok (.ifCond .ne 21, 3)) (fun hc => ?_) (fun hc => ?_)
    · have H := H1 hc
      refine r_iconst h (v := 0) (by decide +kernel : decode cX3_leastRoad 52 = .ok (.iconst 0, 1)) ?_
      exact H
    · have H := H2 hc
      refine r_aloadn h (q := 0) 0 rfl (by decide +kernel : decode cX3_leastRoad 34 = .ok (.aload_n 0, 1)) ?_
      refine r_getR h (r := (b + 4)) f_Rows_21 hb (rr_2_4 hb) (by omega) (by decide +kernel : decode cX3_leastRoad 35 = .ok (.getfield 21, 3)) ?_
      refine r_iloadn h (q := 3) 1 rfl (by decide +kernel : decode cX3_leastRoad 38 = .ok (.iload_n 3, 1)) ?_
      refine r_iload h 3 rfl (by decide +kernel : decode cX3_leastRoad 39 = .ok (.iload 5, 2)) ?_
      refine r_iconst h (v := (-1)) (by decide +kernel : decode cX3_leastRoad 41 = .ok (.iconst (-1), 1)) ?_
      refine r_ixor h (by decide +kernel : decode cX3_leastRoad 42 = .ok (.ixor, 1)) ?_
      refine r_iand h (by decide +kernel : decode cX3_leastRoad 43 = .ok (.iand, 1)) ?_
      obtain ⟨g1, H⟩ := H
      refine r_iald h (andI x3 (xorI x5 (-1))).toNat rfl (at_2_4 hb) g1 (by decide) (by decide +kernel : decode cX3_leastRoad 44 = .ok (.iaload, 1)) ?_
      obtain ⟨g1, H⟩ := H
      obtain ⟨H1, H2⟩ := H
      refine r_if_eq h 52 g1 (by decide) (by decide +kernel : decode cX3_leastRoad 45 = .ok (.ifCond .eq 7, 3)) (fun hc => ?_) (fun hc => ?_)
      · have H := H1 hc
        refine r_iconst h (v := 0) (by decide +kernel : decode cX3_leastRoad 52 = .ok (.iconst 0, 1)) ?_
        exact H
      · have H := H2 hc
        refine r_iconst h (v := 1) (by decide +kernel : decode cX3_leastRoad 48 = .ok (.iconst 1, 1)) ?_
        refine r_goto h 53 (by decide) (by decide +kernel : decode cX3_leastRoad 49 = .ok (.goto 4, 3)) ?_
        exact H
set_option maxHeartbeats 4000000 in
set_option maxRecDepth 100000 in
theorem w_Rows_leastRoad_53 {P : Int → Mm → Prop} {K : Nat → Rr → Nat → List (Nat × AV) → List AV → Mm → Prop} (h : EK shC yX3_leastRoad cX3_leastRoad 7 (some .int) 5 NN NN (QI RRC P) K) (b : Nat) (hb : At shC NN b (.inl 2)) (x3 : Int) (x4 : Int) (x5 : Int) (s0 : Int) (M : Mm)
    (H : (rng s0) ∧ (s0 = 0 → (K NN RRC 20 [(0, vr b), (3, vi x3), (4, vi x4), (5, vi (x5 + (-1)))] [] M)) ∧ (s0 ≠ 0 → (∃ P1 : Int → Mm → Prop, S_JInt_bitCount x5 M P1 ∧ ∀ (r1 : Int) (M1 : Mm), P1 r1 M1 → ∃ P2 : Int → Mm → Prop, S_JInt_bitCount x4 M1 P2 ∧ ∀ (r2 : Int) (M2 : Mm), P2 r2 M2 → (rng r1) ∧ (rng r2) ∧ (r2 < r1 → (K NN RRC 20 [(0, vr b), (3, vi x3), (4, vi x4), (5, vi (x5 + (-1)))] [] M2)) ∧ (¬ (r2 < r1) → (K NN RRC 20 [(0, vr b), (3, vi x3), (4, vi x5), (5, vi (x5 + (-1)))] [] M2))))) :
    K NN RRC 53 [(0, vr b), (3, vi x3), (4, vi x4), (5, vi x5)] [vi s0] M := by
  refine r_istore h (L' := [(6, vi s0), (0, vr b), (3, vi x3), (4, vi x4), (5, vi x5)]) (by decide) rfl (by decide +kernel : decode cX3_leastRoad 53 = .ok (.istore 6, 2)) ?_
  refine r_iload h 0 rfl (by decide +kernel : decode cX3_leastRoad 55 = .ok (.iload 6, 2)) ?_
  obtain ⟨g1, H⟩ := H
  obtain ⟨H1, H2⟩ := H
  refine r_if_eq h 77 g1 (by decide) (by decide +kernel : decode cX3_leastRoad 57 = .ok (.ifCond .eq 20, 3)) (fun hc => ?_) (fun hc => ?_)
  · have H := H1 hc
    refine r_iinc h (i := 5) (v := (-1)) (L' := [(5, vi (x5 + (-1))), (6, vi s0), (0, vr b), (3, vi x3), (4, vi x4)]) 4 rfl (by decide) rfl (by decide +kernel : decode cX3_leastRoad 77 = .ok (.iinc 5 (-1), 3)) ?_
    refine r_goto h 20 (by decide) (by decide +kernel : decode cX3_leastRoad 80 = .ok (.goto (-60), 3)) ?_
    refine r_drop h [2, 3, 4, 0] rfl ?_
    exact H
  · have H := H2 hc
    refine r_iload h 4 rfl (by decide +kernel : decode cX3_leastRoad 60 = .ok (.iload 5, 2)) ?_
    obtain ⟨P1, hSP1, H⟩ := H
    refine r_callS h (as := [vi x5]) (S := []) m_Rows_46 hSP1 (by decide) (Nat.le_refl _) rfl rfl (Nat.le_of_ble_eq_true rfl) (by decide +kernel : decode cX3_leastRoad 62 = .ok (.invokestatic 46, 3)) ?_
    rintro _ _ M1 ⟨rfl, r1, rfl, hP⟩
    have H := H r1 M1 hP
    show K NN RRC _ _ [vi r1] _
    refine r_iload h 3 rfl (by decide +kernel : decode cX3_leastRoad 65 = .ok (.iload 4, 2)) ?_
    obtain ⟨P2, hSP2, H⟩ := H
    refine r_callS h (as := [vi x4]) (S := [vi r1]) m_Rows_46 hSP2 (by decide) (Nat.le_refl _) rfl rfl (Nat.le_of_ble_eq_true rfl) (by decide +kernel : decode cX3_leastRoad 67 = .ok (.invokestatic 46, 3)) ?_
    rintro _ _ M2 ⟨rfl, r2, rfl, hP⟩
    have H := H r2 M2 hP
    show K NN RRC _ _ [vi r2, vi r1] _
    obtain ⟨g1, g2, H⟩ := H
    obtain ⟨H1, H2⟩ := H
    refine r_icmp_gt h 77 g1 g2 (by decide) (by decide +kernel : decode cX3_leastRoad 70 = .ok (.if_icmp .gt 7, 3)) (fun hc => ?_) (fun hc => ?_)
    · have H := H1 hc
      refine r_iinc h (i := 5) (v := (-1)) (L' := [(5, vi (x5 + (-1))), (6, vi s0), (0, vr b), (3, vi x3), (4, vi x4)]) 4 rfl (by decide) rfl (by decide +kernel : decode cX3_leastRoad 77 = .ok (.iinc 5 (-1), 3)) ?_
      refine r_goto h 20 (by decide) (by decide +kernel : decode cX3_leastRoad 80 = .ok (.goto (-60), 3)) ?_
      refine r_drop h [2, 3, 4, 0] rfl ?_
      exact H
    · have H := H2 hc
      refine r_iload h 4 rfl (by decide +kernel : decode cX3_leastRoad 73 = .ok (.iload 5, 2)) ?_
      refine r_istore h (L' := [(4, vi x5), (6, vi s0), (0, vr b), (3, vi x3), (5, vi x5)]) (by decide) rfl (by decide +kernel : decode cX3_leastRoad 75 = .ok (.istore 4, 2)) ?_
      refine r_iinc h (i := 5) (v := (-1)) (L' := [(5, vi (x5 + (-1))), (4, vi x5), (6, vi s0), (0, vr b), (3, vi x3)]) 4 rfl (by decide) rfl (by decide +kernel : decode cX3_leastRoad 77 = .ok (.iinc 5 (-1), 3)) ?_
      refine r_goto h 20 (by decide) (by decide +kernel : decode cX3_leastRoad 80 = .ok (.goto (-60), 3)) ?_
      refine r_drop h [3, 4, 1, 0] rfl ?_
      exact H
set_option maxHeartbeats 4000000 in
set_option maxRecDepth 100000 in
theorem w_Rows_layBestRow_0 {P : Mm → Prop} {K : Nat → Rr → Nat → List (Nat × AV) → List AV → Mm → Prop} (h : EK shC yX3_layBestRow cX3_layBestRow 9 none 5 NN NN (QV RRC P) K) (b : Nat) (hb : At shC NN b (.inl 2)) (b1 : Nat) (hb1 : At shC NN b1 (.inl 7)) (x2 : Int) (x3 : Int) (M : Mm)
    (H : K NN RRC 13 [(0, vr b), (1, vr b1), (2, vi x2), (3, vi x3), (4, vi 0), (5, vi 7), (6, vi 0), (7, vi 0)] [] M) :
    K NN RRC 0 [(0, vr b), (1, vr b1), (2, vi x2), (3, vi x3)] [] M := by
  refine r_iconst h (v := 0) (by decide +kernel : decode cX3_layBestRow 0 = .ok (.iconst 0, 1)) ?_
  refine r_istore h (L' := [(4, vi 0), (0, vr b), (1, vr b1), (2, vi x2), (3, vi x3)]) (by decide) rfl (by decide +kernel : decode cX3_layBestRow 1 = .ok (.istore 4, 2)) ?_
  refine r_bipush h (v := 7) (by decide) (by decide +kernel : decode cX3_layBestRow 3 = .ok (.bipush 7, 2)) ?_
  refine r_istore h (L' := [(5, vi 7), (4, vi 0), (0, vr b), (1, vr b1), (2, vi x2), (3, vi x3)]) (by decide) rfl (by decide +kernel : decode cX3_layBestRow 5 = .ok (.istore 5, 2)) ?_
  refine r_iconst h (v := 0) (by decide +kernel : decode cX3_layBestRow 7 = .ok (.iconst 0, 1)) ?_
  refine r_istore h (L' := [(6, vi 0), (5, vi 7), (4, vi 0), (0, vr b), (1, vr b1), (2, vi x2), (3, vi x3)]) (by decide) rfl (by decide +kernel : decode cX3_layBestRow 8 = .ok (.istore 6, 2)) ?_
  refine r_iconst h (v := 0) (by decide +kernel : decode cX3_layBestRow 10 = .ok (.iconst 0, 1)) ?_
  refine r_istore h (L' := [(7, vi 0), (6, vi 0), (5, vi 7), (4, vi 0), (0, vr b), (1, vr b1), (2, vi x2), (3, vi x3)]) (by decide) rfl (by decide +kernel : decode cX3_layBestRow 11 = .ok (.istore 7, 2)) ?_
  refine r_drop h [4, 5, 6, 7, 3, 2, 1, 0] rfl ?_
  exact H
set_option maxHeartbeats 4000000 in
set_option maxRecDepth 100000 in
theorem w_Rows_layBestRow_13 {P : Mm → Prop} {K : Nat → Rr → Nat → List (Nat × AV) → List AV → Mm → Prop} (h : EK shC yX3_layBestRow cX3_layBestRow 9 none 5 NN NN (QV RRC P) K) (b : Nat) (hb : At shC NN b (.inl 2)) (b1 : Nat) (hb1 : At shC NN b1 (.inl 7)) (x2 : Int) (x3 : Int) (x4 : Int) (x5 : Int) (x6 : Int) (x7 : Int) (M : Mm)
    (H : (rng x7) ∧ (rng (M b1 9)) ∧ ((M b1 9) ≤ x7 → (K NN RRC 95 [(0, vr b), (1, vr b1), (2, vi x2), (6, vi x6), (7, vi 0)] [] M)) ∧ (¬ ((M b1 9) ≤ x7) → ((rng x4) ∧ (rng x2) ∧ (x4 = x2 → (K NN RRC 95 [(0, vr b), (1, vr b1), (2, vi x2), (6, vi x6), (7, vi 0)] [] M)) ∧ (x4 ≠ x2 → (∃ P1 : Int → Mm → Prop, S_Rows_firstOfLeast b b1 x4 x5 x2 x3 M P1 ∧ ∀ (r1 : Int) (M1 : Mm), P1 r1 M1 → (rng r1) ∧ (r1 = (-1) → (K NN RRC 13 [(0, vr b), (1, vr b1), (2, vi x2), (3, vi x3), (4, vi x4), (5, vi x5), (6, vi x6), (7, vi (x7 + 1))] [] M1)) ∧ (r1 ≠ (-1) → ((0 ≤ x6 ∧ x6 < 7) ∧ ∀ M2 : Mm, M2 = (upr M1 (b + 1) (up1 (M1 (b + 1)) x6.toNat r1)) → ∃ P3 : Int → Mm → Prop, S_Town_isCat b1 r1 M2 P3 ∧ ∀ (r2 : Int) (M3 : Mm), P3 r2 M3 → (rng r2) ∧ (r2 = 0 → (K NN RRC 13 [(0, vr b), (1, vr b1), (2, vi x2), (3, vi x3), (4, vi (orI x4 (shlI 1 r1))), (5, vi r1), (6, vi (x6 + 1)), (7, vi (x7 + 1))] [] M3)) ∧ (r2 ≠ 0 → (K NN RRC 13 [(0, vr b), (1, vr b1), (2, vi x2), (3, vi x3), (4, vi (orI x4 (shlI 1 r1))), (5, vi x5), (6, vi (x6 + 1)), (7, vi (x7 + 1))] [] M3))))))))) :
    K NN RRC 13 [(0, vr b), (1, vr b1), (2, vi x2), (3, vi x3), (4, vi x4), (5, vi x5), (6, vi x6), (7, vi x7)] [] M := by
  refine r_iload h 7 rfl (by decide +kernel : decode cX3_layBestRow 13 = .ok (.iload 7, 2)) ?_
  refine r_aloadn h (q := 1) 1 rfl (by decide +kernel : decode cX3_layBestRow 15 = .ok (.aload_n 1, 1)) ?_
  refine r_getI h f_Rows_34 hb1 (by decide +kernel : decode cX3_layBestRow 16 = .ok (.getfield 34, 3)) ?_
  obtain ⟨g1, g2, H⟩ := H
  obtain ⟨H1, H2⟩ := H
  refine r_icmp_ge h 92 g1 g2 (by decide) (by decide +kernel : decode cX3_layBestRow 19 = .ok (.if_icmp .ge 73, 3)) (fun hc => ?_) (fun hc => ?_)
  · have H := H1 hc
    refine r_iconst h (v := 0) (by decide +kernel : decode cX3_layBestRow 92 = .ok (.iconst 0, 1)) ?_
    refine r_istore h (L' := [(7, vi 0), (0, vr b), (1, vr b1), (2, vi x2), (3, vi x3), (4, vi x4), (5, vi x5), (6, vi x6)]) (by decide) rfl (by decide +kernel : decode cX3_layBestRow 93 = .ok (.istore 7, 2)) ?_
    refine r_drop h [1, 2, 3, 7, 0] rfl ?_
    exact H
  · have H := H2 hc
    refine r_iload h 4 rfl (by decide +kernel : decode cX3_layBestRow 22 = .ok (.iload 4, 2)) ?_
    refine r_iloadn h (q := 2) 2 rfl (by decide +kernel : decode cX3_layBestRow 24 = .ok (.iload_n 2, 1)) ?_
    obtain ⟨g1, g2, H⟩ := H
    obtain ⟨H1, H2⟩ := H
    refine r_icmp_eq h 92 g1 g2 (by decide) (by decide +kernel : decode cX3_layBestRow 25 = .ok (.if_icmp .eq 67, 3)) (fun hc => ?_) (fun hc => ?_)
    · have H := H1 hc
      refine r_iconst h (v := 0) (by decide +kernel : decode cX3_layBestRow 92 = .ok (.iconst 0, 1)) ?_
      refine r_istore h (L' := [(7, vi 0), (0, vr b), (1, vr b1), (2, vi x2), (3, vi x3), (4, vi x4), (5, vi x5), (6, vi x6)]) (by decide) rfl (by decide +kernel : decode cX3_layBestRow 93 = .ok (.istore 7, 2)) ?_
      refine r_drop h [1, 2, 3, 7, 0] rfl ?_
      exact H
    · have H := H2 hc
      refine r_aloadn h (q := 0) 0 rfl (by decide +kernel : decode cX3_layBestRow 28 = .ok (.aload_n 0, 1)) ?_
      refine r_aloadn h (q := 1) 1 rfl (by decide +kernel : decode cX3_layBestRow 29 = .ok (.aload_n 1, 1)) ?_
      refine r_iload h 4 rfl (by decide +kernel : decode cX3_layBestRow 30 = .ok (.iload 4, 2)) ?_
      refine r_iload h 5 rfl (by decide +kernel : decode cX3_layBestRow 32 = .ok (.iload 5, 2)) ?_
      refine r_iloadn h (q := 2) 2 rfl (by decide +kernel : decode cX3_layBestRow 34 = .ok (.iload_n 2, 1)) ?_
      refine r_iloadn h (q := 3) 3 rfl (by decide +kernel : decode cX3_layBestRow 35 = .ok (.iload_n 3, 1)) ?_
      obtain ⟨P1, hSP1, H⟩ := H
      refine r_callV h (as := [vr b1, vi x4, vi x5, vi x2, vi x3]) (S := []) (b := b) m_Rows_96 hSP1 (by decide) (Nat.le_refl _) rfl hb rfl (Nat.le_of_ble_eq_true rfl) (by decide +kernel : decode cX3_layBestRow 36 = .ok (.invokevirtual 96, 3)) ?_
      rintro _ _ M1 ⟨rfl, r1, rfl, hP⟩
      have H := H r1 M1 hP
      show K NN RRC _ _ [vi r1] _
      refine r_istore h (L' := [(8, vi r1), (0, vr b), (1, vr b1), (2, vi x2), (3, vi x3), (4, vi x4), (5, vi x5), (6, vi x6), (7, vi x7)]) (by decide) rfl (by decide +kernel : decode cX3_layBestRow 39 = .ok (.istore 8, 2)) ?_
      refine r_iload h 0 rfl (by decide +kernel : decode cX3_layBestRow 41 = .ok (.iload 8, 2)) ?_
      refine r_iconst h (v := (-1)) (by decide +kernel : decode cX3_layBestRow 43 = .ok (.iconst (-1), 1)) ?_
      obtain ⟨g1, H⟩ := H
      obtain ⟨H1, H2⟩ := H
      refine r_icmp_eq h 86 g1 (by decide) (by decide) (by decide +kernel : decode cX3_layBestRow 44 = .ok (.if_icmp .eq 42, 3)) (fun hc => ?_) (fun hc => ?_)
      · have H := H1 hc
        refine r_iinc h (i := 7) (v := 1) (L' := [(7, vi (x7 + 1)), (8, vi r1), (0, vr b), (1, vr b1), (2, vi x2), (3, vi x3), (4, vi x4), (5, vi x5), (6, vi x6)]) 8 rfl (by decide) rfl (by decide +kernel : decode cX3_layBestRow 86 = .ok (.iinc 7 1, 3)) ?_
        refine r_goto h 13 (by decide) (by decide +kernel : decode cX3_layBestRow 89 = .ok (.goto (-76), 3)) ?_
        refine r_drop h [2, 3, 4, 5, 6, 7, 8, 0] rfl ?_
        exact H
      · have H := H2 hc
        refine r_aloadn h (q := 0) 1 rfl (by decide +kernel : decode cX3_layBestRow 47 = .ok (.aload_n 0, 1)) ?_
        refine r_getR h (r := (b + 1)) f_Rows_9 hb (rr_2_0 hb) (by omega) (by decide +kernel : decode cX3_layBestRow 48 = .ok (.getfield 9, 3)) ?_
        refine r_iload h 7 rfl (by decide +kernel : decode cX3_layBestRow 51 = .ok (.iload 6, 2)) ?_
        refine r_iload h 0 rfl (by decide +kernel : decode cX3_layBestRow 53 = .ok (.iload 8, 2)) ?_
        obtain ⟨g1, H⟩ := H
        refine r_iast h x6.toNat rfl (at_2_0 hb) g1 (by decide) (by decide +kernel : decode cX3_layBestRow 55 = .ok (.iastore, 1)) ?_
        have H := H _ rfl
        revert H
        generalize (upr M1 (b + 1) (up1 (M1 (b + 1)) x6.toNat r1)) = M2
        intro H
        refine r_iinc h (i := 6) (v := 1) (L' := [(6, vi (x6 + 1)), (8, vi r1), (0, vr b), (1, vr b1), (2, vi x2), (3, vi x3), (4, vi x4), (5, vi x5), (7, vi x7)]) 7 rfl (by decide) rfl (by decide +kernel : decode cX3_layBestRow 56 = .ok (.iinc 6 1, 3)) ?_
        refine r_iload h 6 rfl (by decide +kernel : decode cX3_layBestRow 59 = .ok (.iload 4, 2)) ?_
        refine r_iconst h (v := 1) (by decide +kernel : decode cX3_layBestRow 61 = .ok (.iconst 1, 1)) ?_
        refine r_iload h 1 rfl (by decide +kernel : decode cX3_layBestRow 62 = .ok (.iload 8, 2)) ?_
        refine r_ishl h (by decide +kernel : decode cX3_layBestRow 64 = .ok (.ishl, 1)) ?_
        refine r_ior h (by decide +kernel : decode cX3_layBestRow 65 = .ok (.ior, 1)) ?_
        refine r_istore h (L' := [(4, vi (orI x4 (shlI 1 r1))), (6, vi (x6 + 1)), (8, vi r1), (0, vr b), (1, vr b1), (2, vi x2), (3, vi x3), (5, vi x5), (7, vi x7)]) (by decide) rfl (by decide +kernel : decode cX3_layBestRow 66 = .ok (.istore 4, 2)) ?_
        refine r_aloadn h (q := 1) 4 rfl (by decide +kernel : decode cX3_layBestRow 68 = .ok (.aload_n 1, 1)) ?_
        refine r_iload h 2 rfl (by decide +kernel : decode cX3_layBestRow 69 = .ok (.iload 8, 2)) ?_
        obtain ⟨P3, hSP3, H⟩ := H
        refine r_callV h (as := [vi r1]) (S := []) (b := b1) m_Rows_59 hSP3 (by decide) (Nat.le_refl _) rfl hb1 rfl (Nat.le_of_ble_eq_true rfl) (by decide +kernel : decode cX3_layBestRow 71 = .ok (.invokevirtual 59, 3)) ?_
        rintro _ _ M3 ⟨rfl, r2, rfl, hP⟩
        have H := H r2 M3 hP
        show K NN RRC _ _ [vi r2] _
        obtain ⟨g1, H⟩ := H
        obtain ⟨H1, H2⟩ := H
        refine r_if_eq h 82 g1 (by decide) (by decide +kernel : decode cX3_layBestRow 74 = .ok (.ifCond .eq 8, 3)) (fun hc => ?_) (fun hc => ?_)
        · have H := H1 hc
          refine r_iload h 2 rfl (by decide +kernel : decode cX3_layBestRow 82 = .ok (.iload 8, 2)) ?_
          refine r_istore h (L' := [(5, vi r1), (4, vi (orI x4 (shlI 1 r1))), (6, vi (x6 + 1)), (8, vi r1), (0, vr b), (1, vr b1), (2, vi x2), (3, vi x3), (7, vi x7)]) (by decide) rfl (by decide +kernel : decode cX3_layBestRow 84 = .ok (.istore 5, 2)) ?_
          refine r_iinc h (i := 7) (v := 1) (L' := [(7, vi (x7 + 1)), (5, vi r1), (4, vi (orI x4 (shlI 1 r1))), (6, vi (x6 + 1)), (8, vi r1), (0, vr b), (1, vr b1), (2, vi x2), (3, vi x3)]) 8 rfl (by decide) rfl (by decide +kernel : decode cX3_layBestRow 86 = .ok (.iinc 7 1, 3)) ?_
          refine r_goto h 13 (by decide) (by decide +kernel : decode cX3_layBestRow 89 = .ok (.goto (-76), 3)) ?_
          refine r_drop h [5, 6, 7, 8, 2, 1, 3, 0] rfl ?_
          exact H
        · have H := H2 hc
          refine r_iload h 7 rfl (by decide +kernel : decode cX3_layBestRow 77 = .ok (.iload 5, 2)) ?_
          refine r_goto h 84 (by decide) (by decide +kernel : decode cX3_layBestRow 79 = .ok (.goto 5, 3)) ?_
          refine r_istore h (L' := [(5, vi x5), (4, vi (orI x4 (shlI 1 r1))), (6, vi (x6 + 1)), (8, vi r1), (0, vr b), (1, vr b1), (2, vi x2), (3, vi x3), (7, vi x7)]) (by decide) rfl (by decide +kernel : decode cX3_layBestRow 84 = .ok (.istore 5, 2)) ?_
          refine r_iinc h (i := 7) (v := 1) (L' := [(7, vi (x7 + 1)), (5, vi x5), (4, vi (orI x4 (shlI 1 r1))), (6, vi (x6 + 1)), (8, vi r1), (0, vr b), (1, vr b1), (2, vi x2), (3, vi x3)]) 8 rfl (by decide) rfl (by decide +kernel : decode cX3_layBestRow 86 = .ok (.iinc 7 1, 3)) ?_
          refine r_goto h 13 (by decide) (by decide +kernel : decode cX3_layBestRow 89 = .ok (.goto (-76), 3)) ?_
          refine r_drop h [5, 6, 7, 8, 2, 1, 3, 0] rfl ?_
          exact H
set_option maxHeartbeats 4000000 in
set_option maxRecDepth 100000 in
theorem w_Rows_layBestRow_95 {P : Mm → Prop} {K : Nat → Rr → Nat → List (Nat × AV) → List AV → Mm → Prop} (h : EK shC yX3_layBestRow cX3_layBestRow 9 none 5 NN NN (QV RRC P) K) (b : Nat) (hb : At shC NN b (.inl 2)) (b1 : Nat) (hb1 : At shC NN b1 (.inl 7)) (x2 : Int) (x6 : Int) (x7 : Int) (M : Mm)
    (H : (rng x7) ∧ (rng (M b1 9)) ∧ ((M b1 9) ≤ x7 → (P M)) ∧ (¬ ((M b1 9) ≤ x7) → (((andI (shrI x2 x7) 1) ≠ 0 → (K NN RRC 95 [(0, vr b), (1, vr b1), (2, vi x2), (6, vi x6), (7, vi (x7 + 1))] [] M)) ∧ ((andI (shrI x2 x7) 1) = 0 → ((rng x6) ∧ (7 ≤ x6 → (K NN RRC 95 [(0, vr b), (1, vr b1), (2, vi x2), (6, vi x6), (7, vi (x7 + 1))] [] M)) ∧ (¬ (7 ≤ x6) → ((0 ≤ x6 ∧ x6 < 7) ∧ ∀ M1 : Mm, M1 = (upr M (b + 1) (up1 (M (b + 1)) x6.toNat x7)) → K NN RRC 95 [(0, vr b), (1, vr b1), (2, vi x2), (6, vi (x6 + 1)), (7, vi (x7 + 1))] [] M1))))))) :
    K NN RRC 95 [(0, vr b), (1, vr b1), (2, vi x2), (6, vi x6), (7, vi x7)] [] M := by
  refine r_iload h 4 rfl (by decide +kernel : decode cX3_layBestRow 95 = .ok (.iload 7, 2)) ?_
  refine r_aloadn h (q := 1) 1 rfl (by decide +kernel : decode cX3_layBestRow 97 = .ok (.aload_n 1, 1)) ?_
  refine r_getI h f_Rows_34 hb1 (by decide +kernel : decode cX3_layBestRow 98 = .ok (.getfield 34, 3)) ?_
  obtain ⟨g1, g2, H⟩ := H
  obtain ⟨H1, H2⟩ := H
  refine r_icmp_ge h 138 g1 g2 (by decide) (by decide +kernel : decode cX3_layBestRow 101 = .ok (.if_icmp .ge 37, 3)) (fun hc => ?_) (fun hc => ?_)
  · have H := H1 hc
    exact r_vret h rfl (by decide +kernel : decode cX3_layBestRow 138 = .ok (.return_, 1)) rfl ⟨rfl, rfl, H⟩
  · have H := H2 hc
    refine r_iloadn h (q := 2) 2 rfl (by decide +kernel : decode cX3_layBestRow 104 = .ok (.iload_n 2, 1)) ?_
    refine r_iload h 4 rfl (by decide +kernel : decode cX3_layBestRow 105 = .ok (.iload 7, 2)) ?_
    refine r_ishr h (by decide +kernel : decode cX3_layBestRow 107 = .ok (.ishr, 1)) ?_
    refine r_iconst h (v := 1) (by decide +kernel : decode cX3_layBestRow 108 = .ok (.iconst 1, 1)) ?_
    refine r_iand h (by decide +kernel : decode cX3_layBestRow 109 = .ok (.iand, 1)) ?_
    obtain ⟨H1, H2⟩ := H
    refine r_if_ne h 132 (rng_toInt _) (by decide) (by decide +kernel : decode cX3_layBestRow 110 = .ok (.ifCond .ne 22, 3)) (fun hc => ?_) (fun hc => ?_)
    · have H := H1 hc
      refine r_iinc h (i := 7) (v := 1) (L' := [(7, vi (x7 + 1)), (0, vr b), (1, vr b1), (2, vi x2), (6, vi x6)]) 4 rfl (by decide) rfl (by decide +kernel : decode cX3_layBestRow 132 = .ok (.iinc 7 1, 3)) ?_
      refine r_goto h 95 (by decide) (by decide +kernel : decode cX3_layBestRow 135 = .ok (.goto (-40), 3)) ?_
      refine r_drop h [1, 2, 3, 4, 0] rfl ?_
      exact H
    · have H := H2 hc
      refine r_iload h 3 rfl (by decide +kernel : decode cX3_layBestRow 113 = .ok (.iload 6, 2)) ?_
      refine r_bipush h (v := 7) (by decide) (by decide +kernel : decode cX3_layBestRow 115 = .ok (.bipush 7, 2)) ?_
      obtain ⟨g1, H⟩ := H
      obtain ⟨H1, H2⟩ := H
      refine r_icmp_ge h 132 g1 (by decide) (by decide) (by decide +kernel : decode cX3_layBestRow 117 = .ok (.if_icmp .ge 15, 3)) (fun hc => ?_) (fun hc => ?_)
      · have H := H1 hc
        refine r_iinc h (i := 7) (v := 1) (L' := [(7, vi (x7 + 1)), (0, vr b), (1, vr b1), (2, vi x2), (6, vi x6)]) 4 rfl (by decide) rfl (by decide +kernel : decode cX3_layBestRow 132 = .ok (.iinc 7 1, 3)) ?_
        refine r_goto h 95 (by decide) (by decide +kernel : decode cX3_layBestRow 135 = .ok (.goto (-40), 3)) ?_
        refine r_drop h [1, 2, 3, 4, 0] rfl ?_
        exact H
      · have H := H2 hc
        refine r_aloadn h (q := 0) 0 rfl (by decide +kernel : decode cX3_layBestRow 120 = .ok (.aload_n 0, 1)) ?_
        refine r_getR h (r := (b + 1)) f_Rows_9 hb (rr_2_0 hb) (by omega) (by decide +kernel : decode cX3_layBestRow 121 = .ok (.getfield 9, 3)) ?_
        refine r_iload h 3 rfl (by decide +kernel : decode cX3_layBestRow 124 = .ok (.iload 6, 2)) ?_
        refine r_iload h 4 rfl (by decide +kernel : decode cX3_layBestRow 126 = .ok (.iload 7, 2)) ?_
        obtain ⟨g1, H⟩ := H
        refine r_iast h x6.toNat rfl (at_2_0 hb) g1 (by decide) (by decide +kernel : decode cX3_layBestRow 128 = .ok (.iastore, 1)) ?_
        have H := H _ rfl
        revert H
        generalize (upr M (b + 1) (up1 (M (b + 1)) x6.toNat x7)) = M1
        intro H
        refine r_iinc h (i := 6) (v := 1) (L' := [(6, vi (x6 + 1)), (0, vr b), (1, vr b1), (2, vi x2), (7, vi x7)]) 3 rfl (by decide) rfl (by decide +kernel : decode cX3_layBestRow 129 = .ok (.iinc 6 1, 3)) ?_
        refine r_iinc h (i := 7) (v := 1) (L' := [(7, vi (x7 + 1)), (6, vi (x6 + 1)), (0, vr b), (1, vr b1), (2, vi x2)]) 4 rfl (by decide) rfl (by decide +kernel : decode cX3_layBestRow 132 = .ok (.iinc 7 1, 3)) ?_
        refine r_goto h 95 (by decide) (by decide +kernel : decode cX3_layBestRow 135 = .ok (.goto (-40), 3)) ?_
        refine r_drop h [2, 3, 4, 1, 0] rfl ?_
        exact H
set_option maxHeartbeats 4000000 in
set_option maxRecDepth 100000 in
theorem w_Mangle_follow_0 {P : Int → Mm → Prop} {K : Nat → Rr → Nat → List (Nat × AV) → List AV → Mm → Prop} (h : EK shC yX2_follow cX2_follow 5 (some .boolean) 6 NN NN (QI RRC P) K) (b : Nat) (hb : At shC NN b (.inl 1)) (b1 : Nat) (hb1 : At shC NN b1 (.inl 7)) (b2 : Nat) (hb2 : At shC NN b2 (.inl 8)) (x3 : Int) (b4 : Nat) (hb4 : At shC NN b4 (.inl 5)) (M : Mm)
    (H : (0 ≤ x3 ∧ x3 < 40) ∧ (rng (M (b2 + 1) x3.toNat)) ∧ ((M (b2 + 1) x3.toNat) = 0 → ((0 ≤ x3 ∧ x3 < 40) ∧ (0 ≤ x3 ∧ x3 < 40) ∧ ∃ P1 : Int → Mm → Prop, S_State_moveTo b4 (M (b2 + 2) x3.toNat) (M (b2 + 3) x3.toNat) (M b1 9) M P1 ∧ ∀ (r1 : Int) (M1 : Mm), P1 r1 M1 → (r1 = 0 ∨ r1 = 1) ∧ P r1 M1)) ∧ ((M (b2 + 1) x3.toNat) = 1 → ((0 ≤ x3 ∧ x3 < 40) ∧ ∃ P2 : Mm → Prop, S_State_turnRoad b4 (M (b2 + 2) x3.toNat) M P2 ∧ ∀ M2 : Mm, P2 M2 → P 1 M2)) ∧ ((M (b2 + 1) x3.toNat) = 3 → ((0 ≤ x3 ∧ x3 < 40) ∧ ∃ P3 : Int → Mm → Prop, S_State_sellPints b4 (M (b2 + 3) x3.toNat) (M b1 11) M P3 ∧ ∀ (r3 : Int) (M3 : Mm), P3 r3 M3 → (r3 = 0 ∨ r3 = 1) ∧ P r3 M3)) ∧ ((M (b2 + 1) x3.toNat) ≠ 0 ∧ (M (b2 + 1) x3.toNat) ≠ 1 ∧ (M (b2 + 1) x3.toNat) ≠ 3 → (∃ P5 : Mm → Prop, S_Mangle_drawThrough b b1 b4 M P5 ∧ ∀ M5 : Mm, P5 M5 → P 1 M5))) :
    K NN RRC 0 [(0, vr b), (1, vr b1), (2, vr b2), (3, vi x3), (4, vr b4)] [] M := by
  refine r_aloadn h (q := 2) 2 rfl (by decide +kernel : decode cX2_follow 0 = .ok (.aload_n 2, 1)) ?_
  refine r_getR h (r := (b2 + 1)) f_Mangle_91 hb2 (rr_8_0 hb2) (by omega) (by decide +kernel : decode cX2_follow 1 = .ok (.getfield 91, 3)) ?_
  refine r_iloadn h (q := 3) 3 rfl (by decide +kernel : decode cX2_follow 4 = .ok (.iload_n 3, 1)) ?_
  obtain ⟨g1, H⟩ := H
  refine r_iald h x3.toNat rfl (at_8_0 hb2) g1 (by decide) (by decide +kernel : decode cX2_follow 5 = .ok (.iaload, 1)) ?_
  obtain ⟨g1, H⟩ := H
  obtain ⟨H1, H⟩ := H
  by_cases hk0 : (M (b2 + 1) x3.toNat) = 0
  · have H := H1 hk0
    refine r_tabIn h 36 g1 (by rw [hk0]; decide) (by rw [hk0]; rfl) (by decide) (by decide +kernel : decode cX2_follow 6 = .ok (.tableswitch 81 0 3 #[30, 52, 81, 65], 30)) ?_
    refine r_aload h 4 rfl (by decide +kernel : decode cX2_follow 36 = .ok (.aload 4, 2)) ?_
    refine r_aloadn h (q := 2) 2 rfl (by decide +kernel : decode cX2_follow 38 = .ok (.aload_n 2, 1)) ?_
    refine r_getR h (r := (b2 + 2)) f_Mangle_102 hb2 (rr_8_1 hb2) (by omega) (by decide +kernel : decode cX2_follow 39 = .ok (.getfield 102, 3)) ?_
    refine r_iloadn h (q := 3) 3 rfl (by decide +kernel : decode cX2_follow 42 = .ok (.iload_n 3, 1)) ?_
    obtain ⟨g1, H⟩ := H
    refine r_iald h x3.toNat rfl (at_8_1 hb2) g1 (by decide) (by decide +kernel : decode cX2_follow 43 = .ok (.iaload, 1)) ?_
    refine r_aloadn h (q := 2) 2 rfl (by decide +kernel : decode cX2_follow 44 = .ok (.aload_n 2, 1)) ?_
    refine r_getR h (r := (b2 + 3)) f_Mangle_105 hb2 (rr_8_2 hb2) (by omega) (by decide +kernel : decode cX2_follow 45 = .ok (.getfield 105, 3)) ?_
    refine r_iloadn h (q := 3) 3 rfl (by decide +kernel : decode cX2_follow 48 = .ok (.iload_n 3, 1)) ?_
    obtain ⟨g1, H⟩ := H
    refine r_iald h x3.toNat rfl (at_8_2 hb2) g1 (by decide) (by decide +kernel : decode cX2_follow 49 = .ok (.iaload, 1)) ?_
    refine r_aloadn h (q := 1) 1 rfl (by decide +kernel : decode cX2_follow 50 = .ok (.aload_n 1, 1)) ?_
    refine r_getI h f_Mangle_18 hb1 (by decide +kernel : decode cX2_follow 51 = .ok (.getfield 18, 3)) ?_
    obtain ⟨P1, hSP1, H⟩ := H
    refine r_callV h (as := [vi (M (b2 + 2) x3.toNat), vi (M (b2 + 3) x3.toNat), vi (M b1 9)]) (S := []) (b := b4) m_Mangle_108 hSP1 (by decide) (Nat.le_refl _) rfl hb4 rfl (Nat.le_of_ble_eq_true rfl) (by decide +kernel : decode cX2_follow 54 = .ok (.invokevirtual 108, 3)) ?_
    rintro _ _ M1 ⟨rfl, r1, rfl, hP⟩
    have H := H r1 M1 hP
    show K NN RRC _ _ [vi r1] _
    exact r_zret h rfl H.1 (by decide +kernel : decode cX2_follow 57 = .ok (.ireturn, 1)) rfl ⟨rfl, _, rfl, H.2⟩
  obtain ⟨H1, H⟩ := H
  by_cases hk1 : (M (b2 + 1) x3.toNat) = 1
  · have H := H1 hk1
    refine r_tabIn h 58 g1 (by rw [hk1]; decide) (by rw [hk1]; rfl) (by decide) (by decide +kernel : decode cX2_follow 6 = .ok (.tableswitch 81 0 3 #[30, 52, 81, 65], 30)) ?_
    refine r_aload h 4 rfl (by decide +kernel : decode cX2_follow 58 = .ok (.aload 4, 2)) ?_
    refine r_aloadn h (q := 2) 2 rfl (by decide +kernel : decode cX2_follow 60 = .ok (.aload_n 2, 1)) ?_
    refine r_getR h (r := (b2 + 2)) f_Mangle_102 hb2 (rr_8_1 hb2) (by omega) (by decide +kernel : decode cX2_follow 61 = .ok (.getfield 102, 3)) ?_
    refine r_iloadn h (q := 3) 3 rfl (by decide +kernel : decode cX2_follow 64 = .ok (.iload_n 3, 1)) ?_
    obtain ⟨g1, H⟩ := H
    refine r_iald h x3.toNat rfl (at_8_1 hb2) g1 (by decide) (by decide +kernel : decode cX2_follow 65 = .ok (.iaload, 1)) ?_
    obtain ⟨P2, hSP2, H⟩ := H
    refine r_callV h (as := [vi (M (b2 + 2) x3.toNat)]) (S := []) (b := b4) m_Mangle_112 hSP2 (by decide) (Nat.le_refl _) rfl hb4 rfl (Nat.le_of_ble_eq_true rfl) (by decide +kernel : decode cX2_follow 66 = .ok (.invokevirtual 112, 3)) ?_
    rintro _ _ M2 ⟨rfl, rfl, hP⟩
    have H := H M2 hP
    show K NN RRC _ _ [] _
    refine r_iconst h (v := 1) (by decide +kernel : decode cX2_follow 69 = .ok (.iconst 1, 1)) ?_
    exact r_zret h rfl (by decide) (by decide +kernel : decode cX2_follow 70 = .ok (.ireturn, 1)) rfl ⟨rfl, _, rfl, H⟩
  obtain ⟨H1, H⟩ := H
  by_cases hk2 : (M (b2 + 1) x3.toNat) = 3
  · have H := H1 hk2
    refine r_tabIn h 71 g1 (by rw [hk2]; decide) (by rw [hk2]; rfl) (by decide) (by decide +kernel : decode cX2_follow 6 = .ok (.tableswitch 81 0 3 #[30, 52, 81, 65], 30)) ?_
    refine r_aload h 4 rfl (by decide +kernel : decode cX2_follow 71 = .ok (.aload 4, 2)) ?_
    refine r_aloadn h (q := 2) 2 rfl (by decide +kernel : decode cX2_follow 73 = .ok (.aload_n 2, 1)) ?_
    refine r_getR h (r := (b2 + 3)) f_Mangle_105 hb2 (rr_8_2 hb2) (by omega) (by decide +kernel : decode cX2_follow 74 = .ok (.getfield 105, 3)) ?_
    refine r_iloadn h (q := 3) 3 rfl (by decide +kernel : decode cX2_follow 77 = .ok (.iload_n 3, 1)) ?_
    obtain ⟨g1, H⟩ := H
    refine r_iald h x3.toNat rfl (at_8_2 hb2) g1 (by decide) (by decide +kernel : decode cX2_follow 78 = .ok (.iaload, 1)) ?_
    refine r_aloadn h (q := 1) 1 rfl (by decide +kernel : decode cX2_follow 79 = .ok (.aload_n 1, 1)) ?_
    refine r_getI h f_Mangle_116 hb1 (by decide +kernel : decode cX2_follow 80 = .ok (.getfield 116, 3)) ?_
    obtain ⟨P3, hSP3, H⟩ := H
    refine r_callV h (as := [vi (M (b2 + 3) x3.toNat), vi (M b1 11)]) (S := []) (b := b4) m_Mangle_119 hSP3 (by decide) (Nat.le_refl _) rfl hb4 rfl (Nat.le_of_ble_eq_true rfl) (by decide +kernel : decode cX2_follow 83 = .ok (.invokevirtual 119, 3)) ?_
    rintro _ _ M3 ⟨rfl, r3, rfl, hP⟩
    have H := H r3 M3 hP
    show K NN RRC _ _ [vi r3] _
    exact r_zret h rfl H.1 (by decide +kernel : decode cX2_follow 86 = .ok (.ireturn, 1)) rfl ⟨rfl, _, rfl, H.2⟩
  have H := H ⟨hk0, hk1, hk2⟩
  by_cases hj0 : (M (b2 + 1) x3.toNat) = 2
  · refine r_tabIn h 87 g1 (by rw [hj0]; decide) (by rw [hj0]; rfl) (by decide) (by decide +kernel : decode cX2_follow 6 = .ok (.tableswitch 81 0 3 #[30, 52, 81, 65], 30)) ?_
    refine r_aloadn h (q := 0) 0 rfl (by decide +kernel : decode cX2_follow 87 = .ok (.aload_n 0, 1)) ?_
    refine r_aloadn h (q := 1) 1 rfl (by decide +kernel : decode cX2_follow 88 = .ok (.aload_n 1, 1)) ?_
    refine r_aload h 4 rfl (by decide +kernel : decode cX2_follow 89 = .ok (.aload 4, 2)) ?_
    obtain ⟨P4, hSP4, H⟩ := H
    refine r_callV h (as := [vr b1, vr b4]) (S := []) (b := b) m_Mangle_123 hSP4 (by decide) (Nat.le_refl _) rfl hb rfl (Nat.le_of_ble_eq_true rfl) (by decide +kernel : decode cX2_follow 91 = .ok (.invokevirtual 123, 3)) ?_
    rintro _ _ M4 ⟨rfl, rfl, hP⟩
    have H := H M4 hP
    show K NN RRC _ _ [] _
    refine r_iconst h (v := 1) (by decide +kernel : decode cX2_follow 94 = .ok (.iconst 1, 1)) ?_
    exact r_zret h rfl (by decide) (by decide +kernel : decode cX2_follow 95 = .ok (.ireturn, 1)) rfl ⟨rfl, _, rfl, H⟩
  refine r_tabOut h 87 g1 (tout_0_3 hk0 hk1 hj0 hk2) (by decide) (by decide +kernel : decode cX2_follow 6 = .ok (.tableswitch 81 0 3 #[30, 52, 81, 65], 30)) ?_
  refine r_aloadn h (q := 0) 0 rfl (by decide +kernel : decode cX2_follow 87 = .ok (.aload_n 0, 1)) ?_
  refine r_aloadn h (q := 1) 1 rfl (by decide +kernel : decode cX2_follow 88 = .ok (.aload_n 1, 1)) ?_
  refine r_aload h 4 rfl (by decide +kernel : decode cX2_follow 89 = .ok (.aload 4, 2)) ?_
  obtain ⟨P5, hSP5, H⟩ := H
  refine r_callV h (as := [vr b1, vr b4]) (S := []) (b := b) m_Mangle_123 hSP5 (by decide) (Nat.le_refl _) rfl hb rfl (Nat.le_of_ble_eq_true rfl) (by decide +kernel : decode cX2_follow 91 = .ok (.invokevirtual 123, 3)) ?_
  rintro _ _ M5 ⟨rfl, rfl, hP⟩
  have H := H M5 hP
  show K NN RRC _ _ [] _
  refine r_iconst h (v := 1) (by decide +kernel : decode cX2_follow 94 = .ok (.iconst 1, 1)) ?_
  exact r_zret h rfl (by decide) (by decide +kernel : decode cX2_follow 95 = .ok (.ireturn, 1)) rfl ⟨rfl, _, rfl, H⟩
theorem W_Mangle_follow (b : Nat) (hb : At shC NN b (.inl 1)) (b1 : Nat) (hb1 : At shC NN b1 (.inl 7)) (b2 : Nat) (hb2 : At shC NN b2 (.inl 8)) (x3 : Int) (b4 : Nat) (hb4 : At shC NN b4 (.inl 5)) (M : Mm) {P : Int → Mm → Prop} (H : (0 ≤ x3 ∧ x3 < 40) ∧ (rng (M (b2 + 1) x3.toNat)) ∧ ((M (b2 + 1) x3.toNat) = 0 → ((0 ≤ x3 ∧ x3 < 40) ∧ (0 ≤ x3 ∧ x3 < 40) ∧ ∃ P1 : Int → Mm → Prop, S_State_moveTo b4 (M (b2 + 2) x3.toNat) (M (b2 + 3) x3.toNat) (M b1 9) M P1 ∧ ∀ (r1 : Int) (M1 : Mm), P1 r1 M1 → (r1 = 0 ∨ r1 = 1) ∧ P r1 M1)) ∧ ((M (b2 + 1) x3.toNat) = 1 → ((0 ≤ x3 ∧ x3 < 40) ∧ ∃ P2 : Mm → Prop, S_State_turnRoad b4 (M (b2 + 2) x3.toNat) M P2 ∧ ∀ M2 : Mm, P2 M2 → P 1 M2)) ∧ ((M (b2 + 1) x3.toNat) = 3 → ((0 ≤ x3 ∧ x3 < 40) ∧ ∃ P3 : Int → Mm → Prop, S_State_sellPints b4 (M (b2 + 3) x3.toNat) (M b1 11) M P3 ∧ ∀ (r3 : Int) (M3 : Mm), P3 r3 M3 → (r3 = 0 ∨ r3 = 1) ∧ P r3 M3)) ∧ ((M (b2 + 1) x3.toNat) ≠ 0 ∧ (M (b2 + 1) x3.toNat) ≠ 1 ∧ (M (b2 + 1) x3.toNat) ≠ 3 → (∃ P5 : Mm → Prop, S_Mangle_drawThrough b b1 b4 M P5 ∧ ∀ M5 : Mm, P5 M5 → P 1 M5))) : S_Mangle_follow b b1 b2 x3 b4 M P := e_Mangle_follow b b1 b2 x3 b4 M (fun _ h => w_Mangle_follow_0 h b hb b1 hb1 b2 hb2 x3 b4 hb4 M H)
set_option maxHeartbeats 4000000 in
set_option maxRecDepth 100000 in
theorem w_Mangle_passDecades_0 {P : Mm → Prop} {K : Nat → Rr → Nat → List (Nat × AV) → List AV → Mm → Prop} (h : EK shC yX2_passDecades cX2_passDecades 6 none 6 NN NN (QV RRC P) K) (b : Nat) (hb : At shC NN b (.inl 1)) (b1 : Nat) (hb1 : At shC NN b1 (.inl 7)) (b2 : Nat) (hb2 : At shC NN b2 (.inl 5)) (x3 : Int) (x4 : Int) (M : Mm)
    (H : (rng x3) ∧ ∀ M1 : Mm, M1 = (upr M b (up1 (M b) 6 x3)) → ∀ M2 : Mm, M2 = (upr M1 b (up1 (M1 b) 4 0)) → ∀ M3 : Mm, M3 = (upr M2 b (up1 (M2 b) 5 0)) → K NN RRC 19 [(0, vr b), (1, vr b1), (2, vr b2), (4, vi x4), (5, vi 0)] [] M3) :
    K NN RRC 0 [(0, vr b), (1, vr b1), (2, vr b2), (3, vi x3), (4, vi x4)] [] M := by
  refine r_aloadn h (q := 0) 0 rfl (by decide +kernel : decode cX2_passDecades 0 = .ok (.aload_n 0, 1)) ?_
  refine r_iloadn h (q := 3) 3 rfl (by decide +kernel : decode cX2_passDecades 1 = .ok (.iload_n 3, 1)) ?_
  obtain ⟨g1, H⟩ := H
  refine r_i2l h g1 (by decide +kernel : decode cX2_passDecades 2 = .ok (.i2l, 1)) ?_
  refine r_putL h f_Mangle_127 hb rfl rfl (by decide +kernel : decode cX2_passDecades 3 = .ok (.putfield 127, 3)) ?_
  have H := H _ rfl
  revert H
  generalize (upr M b (up1 (M b) 6 x3)) = M1
  intro H
  refine r_aloadn h (q := 0) 0 rfl (by decide +kernel : decode cX2_passDecades 6 = .ok (.aload_n 0, 1)) ?_
  refine r_iconst h (v := 0) (by decide +kernel : decode cX2_passDecades 7 = .ok (.iconst 0, 1)) ?_
  refine r_putI h f_Mangle_131 hb rfl rfl (by decide +kernel : decode cX2_passDecades 8 = .ok (.putfield 131, 3)) ?_
  have H := H _ rfl
  revert H
  generalize (upr M1 b (up1 (M1 b) 4 0)) = M2
  intro H
  refine r_aloadn h (q := 0) 0 rfl (by decide +kernel : decode cX2_passDecades 11 = .ok (.aload_n 0, 1)) ?_
  refine r_iconst h (v := 0) (by decide +kernel : decode cX2_passDecades 12 = .ok (.iconst 0, 1)) ?_
  refine r_putI h f_Mangle_134 hb rfl rfl (by decide +kernel : decode cX2_passDecades 13 = .ok (.putfield 134, 3)) ?_
  have H := H _ rfl
  revert H
  generalize (upr M2 b (up1 (M2 b) 5 0)) = M3
  intro H
  refine r_iconst h (v := 0) (by decide +kernel : decode cX2_passDecades 16 = .ok (.iconst 0, 1)) ?_
  refine r_istore h (L' := [(5, vi 0), (0, vr b), (1, vr b1), (2, vr b2), (3, vi x3), (4, vi x4)]) (by decide) rfl (by decide +kernel : decode cX2_passDecades 17 = .ok (.istore 5, 2)) ?_
  refine r_drop h [1, 2, 3, 5, 0] rfl ?_
  exact H
set_option maxHeartbeats 4000000 in
set_option maxRecDepth 100000 in
theorem w_Mangle_passDecades_19 {P : Mm → Prop} {K : Nat → Rr → Nat → List (Nat × AV) → List AV → Mm → Prop} (h : EK shC yX2_passDecades cX2_passDecades 6 none 6 NN NN (QV RRC P) K) (b : Nat) (hb : At shC NN b (.inl 1)) (b1 : Nat) (hb1 : At shC NN b1 (.inl 7)) (b2 : Nat) (hb2 : At shC NN b2 (.inl 5)) (x4 : Int) (x5 : Int) (M : Mm)
    (H : (rng x5) ∧ (rng x4) ∧ (x4 ≤ x5 → (P M)) ∧ (¬ (x4 ≤ x5) → ((rng (M b1 9)) ∧ ((M b1 9) ≤ 0 → (K NN RRC 39 [(0, vr b), (1, vr b1), (2, vr b2), (4, vi x4), (5, vi x5)] [] M)) ∧ (¬ ((M b1 9) ≤ 0) → (∃ P1 : Mm → Prop, S_Mangle_shuffle b b1 b2 M P1 ∧ ∀ M1 : Mm, P1 M1 → K NN RRC 39 [(0, vr b), (1, vr b1), (2, vr b2), (4, vi x4), (5, vi x5)] [] M1))))) :
    K NN RRC 19 [(0, vr b), (1, vr b1), (2, vr b2), (4, vi x4), (5, vi x5)] [] M := by
  refine r_iload h 4 rfl (by decide +kernel : decode cX2_passDecades 19 = .ok (.iload 5, 2)) ?_
  refine r_iload h 3 rfl (by decide +kernel : decode cX2_passDecades 21 = .ok (.iload 4, 2)) ?_
  obtain ⟨g1, g2, H⟩ := H
  obtain ⟨H1, H2⟩ := H
  refine r_icmp_ge h 88 g1 g2 (by decide) (by decide +kernel : decode cX2_passDecades 23 = .ok (.if_icmp .ge 65, 3)) (fun hc => ?_) (fun hc => ?_)
  · have H := H1 hc
    exact r_vret h rfl (by decide +kernel : decode cX2_passDecades 88 = .ok (.return_, 1)) rfl ⟨rfl, rfl, H⟩
  · have H := H2 hc
    refine r_aloadn h (q := 1) 1 rfl (by decide +kernel : decode cX2_passDecades 26 = .ok (.aload_n 1, 1)) ?_
    refine r_getI h f_Mangle_18 hb1 (by decide +kernel : decode cX2_passDecades 27 = .ok (.getfield 18, 3)) ?_
    obtain ⟨g1, H⟩ := H
    obtain ⟨H1, H2⟩ := H
    refine r_if_le h 39 g1 (by decide) (by decide +kernel : decode cX2_passDecades 30 = .ok (.ifCond .le 9, 3)) (fun hc => ?_) (fun hc => ?_)
    · have H := H1 hc
      exact H
    · have H := H2 hc
      refine r_aloadn h (q := 0) 0 rfl (by decide +kernel : decode cX2_passDecades 33 = .ok (.aload_n 0, 1)) ?_
      refine r_aloadn h (q := 1) 1 rfl (by decide +kernel : decode cX2_passDecades 34 = .ok (.aload_n 1, 1)) ?_
      refine r_aloadn h (q := 2) 2 rfl (by decide +kernel : decode cX2_passDecades 35 = .ok (.aload_n 2, 1)) ?_
      obtain ⟨P1, hSP1, H⟩ := H
      refine r_callV h (as := [vr b1, vr b2]) (S := []) (b := b) m_Mangle_137 hSP1 (by decide) (Nat.le_refl _) rfl hb rfl (Nat.le_of_ble_eq_true rfl) (by decide +kernel : decode cX2_passDecades 36 = .ok (.invokevirtual 137, 3)) ?_
      rintro _ _ M1 ⟨rfl, rfl, hP⟩
      have H := H M1 hP
      show K NN RRC _ _ [] _
      exact H
set_option maxHeartbeats 4000000 in
set_option maxRecDepth 100000 in
theorem w_Mangle_passDecades_39 {P : Mm → Prop} {K : Nat → Rr → Nat → List (Nat × AV) → List AV → Mm → Prop} (h : EK shC yX2_passDecades cX2_passDecades 6 none 6 NN NN (QV RRC P) K) (b : Nat) (hb : At shC NN b (.inl 1)) (b1 : Nat) (hb1 : At shC NN b1 (.inl 7)) (b2 : Nat) (hb2 : At shC NN b2 (.inl 5)) (x4 : Int) (x5 : Int) (M : Mm)
    (H : ∃ P1 : Mm → Prop, S_Mangle_drawThrough b b1 b2 M P1 ∧ ∀ M1 : Mm, P1 M1 → ∀ M2 : Mm, M2 = (upr M1 b (up1 (M1 b) 4 ((M1 b 4) + (M1 b 0)))) → ∀ M3 : Mm, M3 = (upr M2 b (up1 (M2 b) 5 ((M2 b 5) + (M2 b 1)))) → ∃ P4 : Int → Mm → Prop, S_State_sellPints b2 9 (M3 b1 11) M3 P4 ∧ ∀ (r2 : Int) (M4 : Mm), P4 r2 M4 → K NN RRC 19 [(0, vr b), (1, vr b1), (2, vr b2), (4, vi x4), (5, vi (x5 + 1))] [] M4) :
    K NN RRC 39 [(0, vr b), (1, vr b1), (2, vr b2), (4, vi x4), (5, vi x5)] [] M := by
  refine r_aloadn h (q := 0) 0 rfl (by decide +kernel : decode cX2_passDecades 39 = .ok (.aload_n 0, 1)) ?_
  refine r_aloadn h (q := 1) 1 rfl (by decide +kernel : decode cX2_passDecades 40 = .ok (.aload_n 1, 1)) ?_
  refine r_aloadn h (q := 2) 2 rfl (by decide +kernel : decode cX2_passDecades 41 = .ok (.aload_n 2, 1)) ?_
  obtain ⟨P1, hSP1, H⟩ := H
  refine r_callV h (as := [vr b1, vr b2]) (S := []) (b := b) m_Mangle_123 hSP1 (by decide) (Nat.le_refl _) rfl hb rfl (Nat.le_of_ble_eq_true rfl) (by decide +kernel : decode cX2_passDecades 42 = .ok (.invokevirtual 123, 3)) ?_
  rintro _ _ M1 ⟨rfl, rfl, hP⟩
  have H := H M1 hP
  show K NN RRC _ _ [] _
  refine r_aloadn h (q := 0) 0 rfl (by decide +kernel : decode cX2_passDecades 45 = .ok (.aload_n 0, 1)) ?_
  refine r_dup h rfl (by decide +kernel : decode cX2_passDecades 46 = .ok (.dup, 1)) ?_
  refine r_getI h f_Mangle_131 hb (by decide +kernel : decode cX2_passDecades 47 = .ok (.getfield 131, 3)) ?_
  refine r_aloadn h (q := 0) 0 rfl (by decide +kernel : decode cX2_passDecades 50 = .ok (.aload_n 0, 1)) ?_
  refine r_getI h f_Mangle_9 hb (by decide +kernel : decode cX2_passDecades 51 = .ok (.getfield 9, 3)) ?_
  refine r_iadd h (by decide +kernel : decode cX2_passDecades 54 = .ok (.iadd, 1)) ?_
  refine r_putI h f_Mangle_131 hb rfl rfl (by decide +kernel : decode cX2_passDecades 55 = .ok (.putfield 131, 3)) ?_
  have H := H _ rfl
  revert H
  generalize (upr M1 b (up1 (M1 b) 4 ((M1 b 4) + (M1 b 0)))) = M2
  intro H
  refine r_aloadn h (q := 0) 0 rfl (by decide +kernel : decode cX2_passDecades 58 = .ok (.aload_n 0, 1)) ?_
  refine r_dup h rfl (by decide +kernel : decode cX2_passDecades 59 = .ok (.dup, 1)) ?_
  refine r_getI h f_Mangle_134 hb (by decide +kernel : decode cX2_passDecades 60 = .ok (.getfield 134, 3)) ?_
  refine r_aloadn h (q := 0) 0 rfl (by decide +kernel : decode cX2_passDecades 63 = .ok (.aload_n 0, 1)) ?_
  refine r_getI h f_Mangle_15 hb (by decide +kernel : decode cX2_passDecades 64 = .ok (.getfield 15, 3)) ?_
  refine r_iadd h (by decide +kernel : decode cX2_passDecades 67 = .ok (.iadd, 1)) ?_
  refine r_putI h f_Mangle_134 hb rfl rfl (by decide +kernel : decode cX2_passDecades 68 = .ok (.putfield 134, 3)) ?_
  have H := H _ rfl
  revert H
  generalize (upr M2 b (up1 (M2 b) 5 ((M2 b 5) + (M2 b 1)))) = M3
  intro H
  refine r_aloadn h (q := 2) 2 rfl (by decide +kernel : decode cX2_passDecades 71 = .ok (.aload_n 2, 1)) ?_
  refine r_bipush h (v := 9) (by decide) (by decide +kernel : decode cX2_passDecades 72 = .ok (.bipush 9, 2)) ?_
  refine r_aloadn h (q := 1) 1 rfl (by decide +kernel : decode cX2_passDecades 74 = .ok (.aload_n 1, 1)) ?_
  refine r_getI h f_Mangle_116 hb1 (by decide +kernel : decode cX2_passDecades 75 = .ok (.getfield 116, 3)) ?_
  obtain ⟨P4, hSP4, H⟩ := H
  refine r_callV h (as := [vi 9, vi (M3 b1 11)]) (S := []) (b := b2) m_Mangle_119 hSP4 (by decide) (Nat.le_refl _) rfl hb2 rfl (Nat.le_of_ble_eq_true rfl) (by decide +kernel : decode cX2_passDecades 78 = .ok (.invokevirtual 119, 3)) ?_
  rintro _ _ M4 ⟨rfl, r2, rfl, hP⟩
  have H := H r2 M4 hP
  show K NN RRC _ _ [vi r2] _
  refine r_pop h rfl (by decide +kernel : decode cX2_passDecades 81 = .ok (.pop, 1)) ?_
  refine r_iinc h (i := 5) (v := 1) (L' := [(5, vi (x5 + 1)), (0, vr b), (1, vr b1), (2, vr b2), (4, vi x4)]) 4 rfl (by decide) rfl (by decide +kernel : decode cX2_passDecades 82 = .ok (.iinc 5 1, 3)) ?_
  refine r_goto h 19 (by decide) (by decide +kernel : decode cX2_passDecades 85 = .ok (.goto (-66), 3)) ?_
  refine r_drop h [1, 2, 3, 4, 0] rfl ?_
  exact H
set_option maxHeartbeats 4000000 in
set_option maxRecDepth 100000 in
theorem w_Rows_findBest_0 {P : Mm → Prop} {K : Nat → Rr → Nat → List (Nat × AV) → List AV → Mm → Prop} (h : EK shC yX3_findBest cX3_findBest 6 none 6 NN NN (QV RRC P) K) (b : Nat) (hb : At shC NN b (.inl 2)) (b1 : Nat) (hb1 : At shC NN b1 (.inl 7)) (b2 : Nat) (hb2 : At shC NN b2 (.inl 5)) (M : Mm)
    (H : ∃ P1 : Mm → Prop, S_Rows_findLasts b b1 M P1 ∧ ∀ M1 : Mm, P1 M1 → ∃ P2 : Mm → Prop, S_Rows_findBlots b b1 b2 M1 P2 ∧ ∀ M2 : Mm, P2 M2 → ∃ P3 : Int → Mm → Prop, S_State_goingSet b2 (M2 b1 9) M2 P3 ∧ ∀ (r3 : Int) (M3 : Mm), P3 r3 M3 → (0 ≤ r3 ∧ r3 < 128) ∧ (rng (M3 (b + 4) r3.toNat)) ∧ ((M3 (b + 4) r3.toNat) = 0 → (K NN RRC 39 [(0, vr b), (1, vr b1), (3, vi r3), (4, vi 0), (5, vi r3)] [] M3)) ∧ ((M3 (b + 4) r3.toNat) ≠ 0 → (K NN RRC 39 [(0, vr b), (1, vr b1), (3, vi r3), (4, vi 1), (5, vi r3)] [] M3))) :
    K NN RRC 0 [(0, vr b), (1, vr b1), (2, vr b2)] [] M := by
  refine r_aloadn h (q := 0) 0 rfl (by decide +kernel : decode cX3_findBest 0 = .ok (.aload_n 0, 1)) ?_
  refine r_aloadn h (q := 1) 1 rfl (by decide +kernel : decode cX3_findBest 1 = .ok (.aload_n 1, 1)) ?_
  obtain ⟨P1, hSP1, H⟩ := H
  refine r_callV h (as := [vr b1]) (S := []) (b := b) m_Rows_30 hSP1 (by decide) (Nat.le_refl _) rfl hb rfl (Nat.le_of_ble_eq_true rfl) (by decide +kernel : decode cX3_findBest 2 = .ok (.invokevirtual 30, 3)) ?_
  rintro _ _ M1 ⟨rfl, rfl, hP⟩
  have H := H M1 hP
  show K NN RRC _ _ [] _
  refine r_aloadn h (q := 0) 0 rfl (by decide +kernel : decode cX3_findBest 5 = .ok (.aload_n 0, 1)) ?_
  refine r_aloadn h (q := 1) 1 rfl (by decide +kernel : decode cX3_findBest 6 = .ok (.aload_n 1, 1)) ?_
  refine r_aloadn h (q := 2) 2 rfl (by decide +kernel : decode cX3_findBest 7 = .ok (.aload_n 2, 1)) ?_
  obtain ⟨P2, hSP2, H⟩ := H
  refine r_callV h (as := [vr b1, vr b2]) (S := []) (b := b) m_Rows_67 hSP2 (by decide) (Nat.le_refl _) rfl hb rfl (Nat.le_of_ble_eq_true rfl) (by decide +kernel : decode cX3_findBest 8 = .ok (.invokevirtual 67, 3)) ?_
  rintro _ _ M2 ⟨rfl, rfl, hP⟩
  have H := H M2 hP
  show K NN RRC _ _ [] _
  refine r_aloadn h (q := 2) 2 rfl (by decide +kernel : decode cX3_findBest 11 = .ok (.aload_n 2, 1)) ?_
  refine r_aloadn h (q := 1) 1 rfl (by decide +kernel : decode cX3_findBest 12 = .ok (.aload_n 1, 1)) ?_
  refine r_getI h f_Rows_34 hb1 (by decide +kernel : decode cX3_findBest 13 = .ok (.getfield 34, 3)) ?_
  obtain ⟨P3, hSP3, H⟩ := H
  refine r_callV h (as := [vi (M2 b1 9)]) (S := []) (b := b2) m_Rows_40 hSP3 (by decide) (Nat.le_refl _) rfl hb2 rfl (Nat.le_of_ble_eq_true rfl) (by decide +kernel : decode cX3_findBest 16 = .ok (.invokevirtual 40, 3)) ?_
  rintro _ _ M3 ⟨rfl, r3, rfl, hP⟩
  have H := H r3 M3 hP
  show K NN RRC _ _ [vi r3] _
  refine r_istoren h (q := 3) (L' := [(3, vi r3), (0, vr b), (1, vr b1), (2, vr b2)]) (by decide) rfl (by decide +kernel : decode cX3_findBest 19 = .ok (.istore_n 3, 1)) ?_
  refine r_aloadn h (q := 0) 1 rfl (by decide +kernel : decode cX3_findBest 20 = .ok (.aload_n 0, 1)) ?_
  refine r_getR h (r := (b + 4)) f_Rows_21 hb (rr_2_4 hb) (by omega) (by decide +kernel : decode cX3_findBest 21 = .ok (.getfield 21, 3)) ?_
  refine r_iloadn h (q := 3) 0 rfl (by decide +kernel : decode cX3_findBest 24 = .ok (.iload_n 3, 1)) ?_
  obtain ⟨g1, H⟩ := H
  refine r_iald h r3.toNat rfl (at_2_4 hb) g1 (by decide) (by decide +kernel : decode cX3_findBest 25 = .ok (.iaload, 1)) ?_
  obtain ⟨g1, H⟩ := H
  obtain ⟨H1, H2⟩ := H
  refine r_if_eq h 33 g1 (by decide) (by decide +kernel : decode cX3_findBest 26 = .ok (.ifCond .eq 7, 3)) (fun hc => ?_) (fun hc => ?_)
  · have H := H1 hc
    refine r_iconst h (v := 0) (by decide +kernel : decode cX3_findBest 33 = .ok (.iconst 0, 1)) ?_
    refine r_istore h (L' := [(4, vi 0), (3, vi r3), (0, vr b), (1, vr b1), (2, vr b2)]) (by decide) rfl (by decide +kernel : decode cX3_findBest 34 = .ok (.istore 4, 2)) ?_
    refine r_iloadn h (q := 3) 1 rfl (by decide +kernel : decode cX3_findBest 36 = .ok (.iload_n 3, 1)) ?_
    refine r_istore h (L' := [(5, vi r3), (4, vi 0), (3, vi r3), (0, vr b), (1, vr b1), (2, vr b2)]) (by decide) rfl (by decide +kernel : decode cX3_findBest 37 = .ok (.istore 5, 2)) ?_
    refine r_drop h [3, 4, 2, 1, 0] rfl ?_
    exact H
  · have H := H2 hc
    refine r_iconst h (v := 1) (by decide +kernel : decode cX3_findBest 29 = .ok (.iconst 1, 1)) ?_
    refine r_goto h 34 (by decide) (by decide +kernel : decode cX3_findBest 30 = .ok (.goto 4, 3)) ?_
    refine r_istore h (L' := [(4, vi 1), (3, vi r3), (0, vr b), (1, vr b1), (2, vr b2)]) (by decide) rfl (by decide +kernel : decode cX3_findBest 34 = .ok (.istore 4, 2)) ?_
    refine r_iloadn h (q := 3) 1 rfl (by decide +kernel : decode cX3_findBest 36 = .ok (.iload_n 3, 1)) ?_
    refine r_istore h (L' := [(5, vi r3), (4, vi 1), (3, vi r3), (0, vr b), (1, vr b1), (2, vr b2)]) (by decide) rfl (by decide +kernel : decode cX3_findBest 37 = .ok (.istore 5, 2)) ?_
    refine r_drop h [3, 4, 2, 1, 0] rfl ?_
    exact H
set_option maxHeartbeats 4000000 in
set_option maxRecDepth 100000 in
theorem w_Rows_findBest_39 {P : Mm → Prop} {K : Nat → Rr → Nat → List (Nat × AV) → List AV → Mm → Prop} (h : EK shC yX3_findBest cX3_findBest 6 none 6 NN NN (QV RRC P) K) (b : Nat) (hb : At shC NN b (.inl 2)) (b1 : Nat) (hb1 : At shC NN b1 (.inl 7)) (x3 : Int) (x4 : Int) (x5 : Int) (M : Mm)
    (H : (rng x5) ∧ (x5 < 0 → (∀ M1 : Mm, M1 = (upr M b (up1 (M b) 1 (M (b + 3) 7))) → ∃ P2 : Mm → Prop, S_Rows_layBestRow b b1 x3 x4 M1 P2 ∧ ∀ M2 : Mm, P2 M2 → P M2)) ∧ (¬ (x5 < 0) → (((andI x5 (xorI x3 (-1))) ≠ 0 → (K NN RRC 39 [(0, vr b), (1, vr b1), (3, vi x3), (4, vi x4), (5, vi (x5 + (-1)))] [] M)) ∧ ((andI x5 (xorI x3 (-1))) = 0 → (∃ P3 : Mm → Prop, S_Rows_findRest b b1 x5 x3 x4 M P3 ∧ ∀ M3 : Mm, P3 M3 → K NN RRC 39 [(0, vr b), (1, vr b1), (3, vi x3), (4, vi x4), (5, vi (x5 + (-1)))] [] M3))))) :
    K NN RRC 39 [(0, vr b), (1, vr b1), (3, vi x3), (4, vi x4), (5, vi x5)] [] M := by
  refine r_iload h 4 rfl (by decide +kernel : decode cX3_findBest 39 = .ok (.iload 5, 2)) ?_
  obtain ⟨g1, H⟩ := H
  obtain ⟨H1, H2⟩ := H
  refine r_if_lt h 69 g1 (by decide) (by decide +kernel : decode cX3_findBest 41 = .ok (.ifCond .lt 28, 3)) (fun hc => ?_) (fun hc => ?_)
  · have H := H1 hc
    refine r_aloadn h (q := 0) 0 rfl (by decide +kernel : decode cX3_findBest 69 = .ok (.aload_n 0, 1)) ?_
    refine r_aloadn h (q := 0) 0 rfl (by decide +kernel : decode cX3_findBest 70 = .ok (.aload_n 0, 1)) ?_
    refine r_getR h (r := (b + 3)) f_Rows_18 hb (rr_2_3 hb) (by omega) (by decide +kernel : decode cX3_findBest 71 = .ok (.getfield 18, 3)) ?_
    refine r_bipush h (v := 7) (by decide) (by decide +kernel : decode cX3_findBest 74 = .ok (.bipush 7, 2)) ?_
    refine r_iald h 7 rfl (at_2_3 hb) (by decide) (by decide) (by decide +kernel : decode cX3_findBest 76 = .ok (.iaload, 1)) ?_
    refine r_putI h f_Rows_75 hb rfl rfl (by decide +kernel : decode cX3_findBest 77 = .ok (.putfield 75, 3)) ?_
    have H := H _ rfl
    revert H
    generalize (upr M b (up1 (M b) 1 (M (b + 3) 7))) = M1
    intro H
    refine r_aloadn h (q := 0) 0 rfl (by decide +kernel : decode cX3_findBest 80 = .ok (.aload_n 0, 1)) ?_
    refine r_aloadn h (q := 1) 1 rfl (by decide +kernel : decode cX3_findBest 81 = .ok (.aload_n 1, 1)) ?_
    refine r_iloadn h (q := 3) 2 rfl (by decide +kernel : decode cX3_findBest 82 = .ok (.iload_n 3, 1)) ?_
    refine r_iload h 3 rfl (by decide +kernel : decode cX3_findBest 83 = .ok (.iload 4, 2)) ?_
    obtain ⟨P2, hSP2, H⟩ := H
    refine r_callV h (as := [vr b1, vi x3, vi x4]) (S := []) (b := b) m_Rows_78 hSP2 (by decide) (Nat.le_refl _) rfl hb rfl (Nat.le_of_ble_eq_true rfl) (by decide +kernel : decode cX3_findBest 85 = .ok (.invokevirtual 78, 3)) ?_
    rintro _ _ M2 ⟨rfl, rfl, hP⟩
    have H := H M2 hP
    show K NN RRC _ _ [] _
    exact r_vret h rfl (by decide +kernel : decode cX3_findBest 88 = .ok (.return_, 1)) rfl ⟨rfl, rfl, H⟩
  · have H := H2 hc
    refine r_iload h 4 rfl (by decide +kernel : decode cX3_findBest 44 = .ok (.iload 5, 2)) ?_
    refine r_iloadn h (q := 3) 2 rfl (by decide +kernel : decode cX3_findBest 46 = .ok (.iload_n 3, 1)) ?_
    refine r_iconst h (v := (-1)) (by decide +kernel : decode cX3_findBest 47 = .ok (.iconst (-1), 1)) ?_
    refine r_ixor h (by decide +kernel : decode cX3_findBest 48 = .ok (.ixor, 1)) ?_
    refine r_iand h (by decide +kernel : decode cX3_findBest 49 = .ok (.iand, 1)) ?_
    obtain ⟨H1, H2⟩ := H
    refine r_if_ne h 63 (rng_toInt _) (by decide) (by decide +kernel : decode cX3_findBest 50 = .ok (.ifCond .ne 13, 3)) (fun hc => ?_) (fun hc => ?_)
    · have H := H1 hc
      refine r_iinc h (i := 5) (v := (-1)) (L' := [(5, vi (x5 + (-1))), (0, vr b), (1, vr b1), (3, vi x3), (4, vi x4)]) 4 rfl (by decide) rfl (by decide +kernel : decode cX3_findBest 63 = .ok (.iinc 5 (-1), 3)) ?_
      refine r_goto h 39 (by decide) (by decide +kernel : decode cX3_findBest 66 = .ok (.goto (-27), 3)) ?_
      refine r_drop h [1, 2, 3, 4, 0] rfl ?_
      exact H
    · have H := H2 hc
      refine r_aloadn h (q := 0) 0 rfl (by decide +kernel : decode cX3_findBest 53 = .ok (.aload_n 0, 1)) ?_
      refine r_aloadn h (q := 1) 1 rfl (by decide +kernel : decode cX3_findBest 54 = .ok (.aload_n 1, 1)) ?_
      refine r_iload h 4 rfl (by decide +kernel : decode cX3_findBest 55 = .ok (.iload 5, 2)) ?_
      refine r_iloadn h (q := 3) 2 rfl (by decide +kernel : decode cX3_findBest 57 = .ok (.iload_n 3, 1)) ?_
      refine r_iload h 3 rfl (by decide +kernel : decode cX3_findBest 58 = .ok (.iload 4, 2)) ?_
      obtain ⟨P3, hSP3, H⟩ := H
      refine r_callV h (as := [vr b1, vi x5, vi x3, vi x4]) (S := []) (b := b) m_Rows_71 hSP3 (by decide) (Nat.le_refl _) rfl hb rfl (Nat.le_of_ble_eq_true rfl) (by decide +kernel : decode cX3_findBest 60 = .ok (.invokevirtual 71, 3)) ?_
      rintro _ _ M3 ⟨rfl, rfl, hP⟩
      have H := H M3 hP
      show K NN RRC _ _ [] _
      refine r_iinc h (i := 5) (v := (-1)) (L' := [(5, vi (x5 + (-1))), (0, vr b), (1, vr b1), (3, vi x3), (4, vi x4)]) 4 rfl (by decide) rfl (by decide +kernel : decode cX3_findBest 63 = .ok (.iinc 5 (-1), 3)) ?_
      refine r_goto h 39 (by decide) (by decide +kernel : decode cX3_findBest 66 = .ok (.goto (-27), 3)) ?_
      refine r_drop h [1, 2, 3, 4, 0] rfl ?_
      exact H
set_option maxHeartbeats 4000000 in
set_option maxRecDepth 100000 in
theorem w_Mangle_judge_0 {P : Mm → Prop} {K : Nat → Rr → Nat → List (Nat × AV) → List AV → Mm → Prop} (h : EK shC yX2_judge cX2_judge 5 none 7 NN NN (QV RRC P) K) (b : Nat) (hb : At shC NN b (.inl 1)) (b1 : Nat) (hb1 : At shC NN b1 (.inl 7)) (b2 : Nat) (hb2 : At shC NN b2 (.inl 8)) (b3 : Nat) (hb3 : At shC NN b3 (.inl 5)) (M : Mm)
    (H : ∀ M1 : Mm, M1 = (upr M b (up1 (M b) 2 (-1))) → ∀ M2 : Mm, M2 = (upr M1 b (up1 (M1 b) 3 (-1))) → K NN RRC 13 [(0, vr b), (1, vr b1), (2, vr b2), (3, vr b3), (4, vi 0)] [] M2) :
    K NN RRC 0 [(0, vr b), (1, vr b1), (2, vr b2), (3, vr b3)] [] M := by
  refine r_aloadn h (q := 0) 0 rfl (by decide +kernel : decode cX2_judge 0 = .ok (.aload_n 0, 1)) ?_
  refine r_iconst h (v := (-1)) (by decide +kernel : decode cX2_judge 1 = .ok (.iconst (-1), 1)) ?_
  refine r_putI h f_Mangle_80 hb rfl rfl (by decide +kernel : decode cX2_judge 2 = .ok (.putfield 80, 3)) ?_
  have H := H _ rfl
  revert H
  generalize (upr M b (up1 (M b) 2 (-1))) = M1
  intro H
  refine r_aloadn h (q := 0) 0 rfl (by decide +kernel : decode cX2_judge 5 = .ok (.aload_n 0, 1)) ?_
  refine r_iconst h (v := (-1)) (by decide +kernel : decode cX2_judge 6 = .ok (.iconst (-1), 1)) ?_
  refine r_putI h f_Mangle_83 hb rfl rfl (by decide +kernel : decode cX2_judge 7 = .ok (.putfield 83, 3)) ?_
  have H := H _ rfl
  revert H
  generalize (upr M1 b (up1 (M1 b) 3 (-1))) = M2
  intro H
  refine r_iconst h (v := 0) (by decide +kernel : decode cX2_judge 10 = .ok (.iconst 0, 1)) ?_
  refine r_istore h (L' := [(4, vi 0), (0, vr b), (1, vr b1), (2, vr b2), (3, vr b3)]) (by decide) rfl (by decide +kernel : decode cX2_judge 11 = .ok (.istore 4, 2)) ?_
  refine r_drop h [1, 2, 3, 4, 0] rfl ?_
  exact H
set_option maxHeartbeats 4000000 in
set_option maxRecDepth 100000 in
theorem w_Mangle_judge_13 {P : Mm → Prop} {K : Nat → Rr → Nat → List (Nat × AV) → List AV → Mm → Prop} (h : EK shC yX2_judge cX2_judge 5 none 7 NN NN (QV RRC P) K) (b : Nat) (hb : At shC NN b (.inl 1)) (b1 : Nat) (hb1 : At shC NN b1 (.inl 7)) (b2 : Nat) (hb2 : At shC NN b2 (.inl 8)) (b3 : Nat) (hb3 : At shC NN b3 (.inl 5)) (x4 : Int) (M : Mm)
    (H : (rng x4) ∧ (rng (M b2 3)) ∧ ((M b2 3) ≤ x4 → (P M)) ∧ (¬ ((M b2 3) ≤ x4) → ((0 ≤ x4 ∧ x4 < 40) ∧ (rng (M (b2 + 1) x4.toNat)) ∧ ((M (b2 + 1) x4.toNat) ≠ 2 → (K NN RRC 55 [(0, vr b), (1, vr b1), (2, vr b2), (3, vr b3), (4, vi x4)] [] M)) ∧ ((M (b2 + 1) x4.toNat) = 2 → ((rng (M b 3)) ∧ ((M b 3) ≠ (-1) → (K NN RRC 55 [(0, vr b), (1, vr b1), (2, vr b2), (3, vr b3), (4, vi x4)] [] M)) ∧ ((M b 3) = (-1) → (∃ P1 : Int → Mm → Prop, S_State_shunnedBy b3 b1 M P1 ∧ ∀ (r1 : Int) (M1 : Mm), P1 r1 M1 → (rng r1) ∧ (r1 ≤ 0 → (K NN RRC 55 [(0, vr b), (1, vr b1), (2, vr b2), (3, vr b3), (4, vi x4)] [] M1)) ∧ (¬ (r1 ≤ 0) → (∀ M2 : Mm, M2 = (upr M1 b (up1 (M1 b) 3 x4)) → K NN RRC 55 [(0, vr b), (1, vr b1), (2, vr b2), (3, vr b3), (4, vi x4)] [] M2))))))))) :
    K NN RRC 13 [(0, vr b), (1, vr b1), (2, vr b2), (3, vr b3), (4, vi x4)] [] M := by
  refine r_iload h 4 rfl (by decide +kernel : decode cX2_judge 13 = .ok (.iload 4, 2)) ?_
  refine r_aloadn h (q := 2) 2 rfl (by decide +kernel : decode cX2_judge 15 = .ok (.aload_n 2, 1)) ?_
  refine r_getI h f_Mangle_86 hb2 (by decide +kernel : decode cX2_judge 16 = .ok (.getfield 86, 3)) ?_
  obtain ⟨g1, g2, H⟩ := H
  obtain ⟨H1, H2⟩ := H
  refine r_icmp_ge h 87 g1 g2 (by decide) (by decide +kernel : decode cX2_judge 19 = .ok (.if_icmp .ge 68, 3)) (fun hc => ?_) (fun hc => ?_)
  · have H := H1 hc
    exact r_vret h rfl (by decide +kernel : decode cX2_judge 87 = .ok (.return_, 1)) rfl ⟨rfl, rfl, H⟩
  · have H := H2 hc
    refine r_aloadn h (q := 2) 2 rfl (by decide +kernel : decode cX2_judge 22 = .ok (.aload_n 2, 1)) ?_
    refine r_getR h (r := (b2 + 1)) f_Mangle_91 hb2 (rr_8_0 hb2) (by omega) (by decide +kernel : decode cX2_judge 23 = .ok (.getfield 91, 3)) ?_
    refine r_iload h 4 rfl (by decide +kernel : decode cX2_judge 26 = .ok (.iload 4, 2)) ?_
    obtain ⟨g1, H⟩ := H
    refine r_iald h x4.toNat rfl (at_8_0 hb2) g1 (by decide) (by decide +kernel : decode cX2_judge 28 = .ok (.iaload, 1)) ?_
    refine r_iconst h (v := 2) (by decide +kernel : decode cX2_judge 29 = .ok (.iconst 2, 1)) ?_
    obtain ⟨g1, H⟩ := H
    obtain ⟨H1, H2⟩ := H
    refine r_icmp_ne h 55 g1 (by decide) (by decide) (by decide +kernel : decode cX2_judge 30 = .ok (.if_icmp .ne 25, 3)) (fun hc => ?_) (fun hc => ?_)
    · have H := H1 hc
      exact H
    · have H := H2 hc
      refine r_aloadn h (q := 0) 0 rfl (by decide +kernel : decode cX2_judge 33 = .ok (.aload_n 0, 1)) ?_
      refine r_getI h f_Mangle_83 hb (by decide +kernel : decode cX2_judge 34 = .ok (.getfield 83, 3)) ?_
      refine r_iconst h (v := (-1)) (by decide +kernel : decode cX2_judge 37 = .ok (.iconst (-1), 1)) ?_
      obtain ⟨g1, H⟩ := H
      obtain ⟨H1, H2⟩ := H
      refine r_icmp_ne h 55 g1 (by decide) (by decide) (by decide +kernel : decode cX2_judge 38 = .ok (.if_icmp .ne 17, 3)) (fun hc => ?_) (fun hc => ?_)
      · have H := H1 hc
        exact H
      · have H := H2 hc
        refine r_aloadn h (q := 3) 3 rfl (by decide +kernel : decode cX2_judge 41 = .ok (.aload_n 3, 1)) ?_
        refine r_aloadn h (q := 1) 1 rfl (by decide +kernel : decode cX2_judge 42 = .ok (.aload_n 1, 1)) ?_
        obtain ⟨P1, hSP1, H⟩ := H
        refine r_callV h (as := [vr b1]) (S := []) (b := b3) m_Mangle_94 hSP1 (by decide) (Nat.le_refl _) rfl hb3 rfl (Nat.le_of_ble_eq_true rfl) (by decide +kernel : decode cX2_judge 43 = .ok (.invokevirtual 94, 3)) ?_
        rintro _ _ M1 ⟨rfl, r1, rfl, hP⟩
        have H := H r1 M1 hP
        show K NN RRC _ _ [vi r1] _
        obtain ⟨g1, H⟩ := H
        obtain ⟨H1, H2⟩ := H
        refine r_if_le h 55 g1 (by decide) (by decide +kernel : decode cX2_judge 46 = .ok (.ifCond .le 9, 3)) (fun hc => ?_) (fun hc => ?_)
        · have H := H1 hc
          exact H
        · have H := H2 hc
          refine r_aloadn h (q := 0) 0 rfl (by decide +kernel : decode cX2_judge 49 = .ok (.aload_n 0, 1)) ?_
          refine r_iload h 4 rfl (by decide +kernel : decode cX2_judge 50 = .ok (.iload 4, 2)) ?_
          refine r_putI h f_Mangle_83 hb rfl rfl (by decide +kernel : decode cX2_judge 52 = .ok (.putfield 83, 3)) ?_
          have H := H _ rfl
          revert H
          generalize (upr M1 b (up1 (M1 b) 3 x4)) = M2
          intro H
          exact H
set_option maxHeartbeats 4000000 in
set_option maxRecDepth 100000 in
theorem w_Mangle_judge_55 {P : Mm → Prop} {K : Nat → Rr → Nat → List (Nat × AV) → List AV → Mm → Prop} (h : EK shC yX2_judge cX2_judge 5 none 7 NN NN (QV RRC P) K) (b : Nat) (hb : At shC NN b (.inl 1)) (b1 : Nat) (hb1 : At shC NN b1 (.inl 7)) (b2 : Nat) (hb2 : At shC NN b2 (.inl 8)) (b3 : Nat) (hb3 : At shC NN b3 (.inl 5)) (x4 : Int) (M : Mm)
    (H : ∃ P1 : Int → Mm → Prop, S_Mangle_follow b b1 b2 x4 b3 M P1 ∧ ∀ (r1 : Int) (M1 : Mm), P1 r1 M1 → (rng r1) ∧ (r1 ≠ 0 → (K NN RRC 13 [(0, vr b), (1, vr b1), (2, vr b2), (3, vr b3), (4, vi (x4 + 1))] [] M1)) ∧ (r1 = 0 → ((rng (M1 b 2)) ∧ ((M1 b 2) ≠ (-1) → (K NN RRC 13 [(0, vr b), (1, vr b1), (2, vr b2), (3, vr b3), (4, vi (x4 + 1))] [] M1)) ∧ ((M1 b 2) = (-1) → (∀ M2 : Mm, M2 = (upr M1 b (up1 (M1 b) 2 x4)) → K NN RRC 13 [(0, vr b), (1, vr b1), (2, vr b2), (3, vr b3), (4, vi (x4 + 1))] [] M2))))) :
    K NN RRC 55 [(0, vr b), (1, vr b1), (2, vr b2), (3, vr b3), (4, vi x4)] [] M := by
  refine r_aloadn h (q := 0) 0 rfl (by decide +kernel : decode cX2_judge 55 = .ok (.aload_n 0, 1)) ?_
  refine r_aloadn h (q := 1) 1 rfl (by decide +kernel : decode cX2_judge 56 = .ok (.aload_n 1, 1)) ?_
  refine r_aloadn h (q := 2) 2 rfl (by decide +kernel : decode cX2_judge 57 = .ok (.aload_n 2, 1)) ?_
  refine r_iload h 4 rfl (by decide +kernel : decode cX2_judge 58 = .ok (.iload 4, 2)) ?_
  refine r_aloadn h (q := 3) 3 rfl (by decide +kernel : decode cX2_judge 60 = .ok (.aload_n 3, 1)) ?_
  obtain ⟨P1, hSP1, H⟩ := H
  refine r_callV h (as := [vr b1, vr b2, vi x4, vr b3]) (S := []) (b := b) m_Mangle_98 hSP1 (by decide) (Nat.le_refl _) rfl hb rfl (Nat.le_of_ble_eq_true rfl) (by decide +kernel : decode cX2_judge 61 = .ok (.invokevirtual 98, 3)) ?_
  rintro _ _ M1 ⟨rfl, r1, rfl, hP⟩
  have H := H r1 M1 hP
  show K NN RRC _ _ [vi r1] _
  obtain ⟨g1, H⟩ := H
  obtain ⟨H1, H2⟩ := H
  refine r_if_ne h 81 g1 (by decide) (by decide +kernel : decode cX2_judge 64 = .ok (.ifCond .ne 17, 3)) (fun hc => ?_) (fun hc => ?_)
  · have H := H1 hc
    refine r_iinc h (i := 4) (v := 1) (L' := [(4, vi (x4 + 1)), (0, vr b), (1, vr b1), (2, vr b2), (3, vr b3)]) 4 rfl (by decide) rfl (by decide +kernel : decode cX2_judge 81 = .ok (.iinc 4 1, 3)) ?_
    refine r_goto h 13 (by decide) (by decide +kernel : decode cX2_judge 84 = .ok (.goto (-71), 3)) ?_
    refine r_drop h [1, 2, 3, 4, 0] rfl ?_
    exact H
  · have H := H2 hc
    refine r_aloadn h (q := 0) 0 rfl (by decide +kernel : decode cX2_judge 67 = .ok (.aload_n 0, 1)) ?_
    refine r_getI h f_Mangle_80 hb (by decide +kernel : decode cX2_judge 68 = .ok (.getfield 80, 3)) ?_
    refine r_iconst h (v := (-1)) (by decide +kernel : decode cX2_judge 71 = .ok (.iconst (-1), 1)) ?_
    obtain ⟨g1, H⟩ := H
    obtain ⟨H1, H2⟩ := H
    refine r_icmp_ne h 81 g1 (by decide) (by decide) (by decide +kernel : decode cX2_judge 72 = .ok (.if_icmp .ne 9, 3)) (fun hc => ?_) (fun hc => ?_)
    · have H := H1 hc
      refine r_iinc h (i := 4) (v := 1) (L' := [(4, vi (x4 + 1)), (0, vr b), (1, vr b1), (2, vr b2), (3, vr b3)]) 4 rfl (by decide) rfl (by decide +kernel : decode cX2_judge 81 = .ok (.iinc 4 1, 3)) ?_
      refine r_goto h 13 (by decide) (by decide +kernel : decode cX2_judge 84 = .ok (.goto (-71), 3)) ?_
      refine r_drop h [1, 2, 3, 4, 0] rfl ?_
      exact H
    · have H := H2 hc
      refine r_aloadn h (q := 0) 0 rfl (by decide +kernel : decode cX2_judge 75 = .ok (.aload_n 0, 1)) ?_
      refine r_iload h 4 rfl (by decide +kernel : decode cX2_judge 76 = .ok (.iload 4, 2)) ?_
      refine r_putI h f_Mangle_80 hb rfl rfl (by decide +kernel : decode cX2_judge 78 = .ok (.putfield 80, 3)) ?_
      have H := H _ rfl
      revert H
      generalize (upr M1 b (up1 (M1 b) 2 x4)) = M2
      intro H
      refine r_iinc h (i := 4) (v := 1) (L' := [(4, vi (x4 + 1)), (0, vr b), (1, vr b1), (2, vr b2), (3, vr b3)]) 4 rfl (by decide) rfl (by decide +kernel : decode cX2_judge 81 = .ok (.iinc 4 1, 3)) ?_
      refine r_goto h 13 (by decide) (by decide +kernel : decode cX2_judge 84 = .ok (.goto (-71), 3)) ?_
      refine r_drop h [1, 2, 3, 4, 0] rfl ?_
      exact H
