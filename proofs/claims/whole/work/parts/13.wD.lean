set_option maxHeartbeats 4000000 in
set_option maxRecDepth 100000 in
theorem w_Main_hear_0 {P : Int → Mm → Prop} {K : Nat → Rr → Nat → List (Nat × AV) → List AV → Mm → Prop} (h : EK shC yX11_hear cX11_hear 2 (some .boolean) 1 NN NN (QI RRC P) K) (x1 : Int) (M : Mm)
    (H : (rng x1) ∧ (x1 < 0 → (P 0 M)) ∧ (¬ (x1 < 0) → ((rng x1) ∧ (x1 ≤ 693 → (∀ M1 : Mm, M1 = (upr M 41 (up1 (M 41) 5 x1)) → P 1 M1)) ∧ (¬ (x1 ≤ 693) → (P 0 M))))) :
    K NN RRC 0 [(0, vr 1), (1, vi x1)] [] M := by
  refine r_iloadn h (q := 1) 1 rfl (by decide +kernel : decode cX11_hear 0 = .ok (.iload_n 1, 1)) ?_
  obtain ⟨g1, H⟩ := H
  obtain ⟨H1, H2⟩ := H
  refine r_if_lt h 11 g1 (by decide) (by decide +kernel : decode cX11_hear 1 = .ok (.ifCond .lt 10, 3)) (fun hc => ?_) (fun hc => ?_)
  · have H := H1 hc
    refine r_iconst h (v := 0) (by decide +kernel : decode cX11_hear 11 = .ok (.iconst 0, 1)) ?_
    exact r_zret h rfl (by decide) (by decide +kernel : decode cX11_hear 12 = .ok (.ireturn, 1)) rfl ⟨rfl, _, rfl, H⟩
  · have H := H2 hc
    refine r_iloadn h (q := 1) 1 rfl (by decide +kernel : decode cX11_hear 4 = .ok (.iload_n 1, 1)) ?_
    refine r_sipush h (v := 693) (by decide) (by decide +kernel : decode cX11_hear 5 = .ok (.sipush 693, 3)) ?_
    obtain ⟨g1, H⟩ := H
    obtain ⟨H1, H2⟩ := H
    refine r_icmp_le h 13 g1 (by decide) (by decide) (by decide +kernel : decode cX11_hear 8 = .ok (.if_icmp .le 5, 3)) (fun hc => ?_) (fun hc => ?_)
    · have H := H1 hc
      refine r_aloadn h (q := 0) 0 rfl (by decide +kernel : decode cX11_hear 13 = .ok (.aload_n 0, 1)) ?_
      refine r_getR h (r := 41) f_Main_43 at1C rfl (by decide) (by decide +kernel : decode cX11_hear 14 = .ok (.getfield 43, 3)) ?_
      refine r_iloadn h (q := 1) 1 rfl (by decide +kernel : decode cX11_hear 17 = .ok (.iload_n 1, 1)) ?_
      refine r_putI h f_Main_249 atC_41 rfl rfl (by decide +kernel : decode cX11_hear 18 = .ok (.putfield 249, 3)) ?_
      have H := H _ rfl
      revert H
      generalize (upr M 41 (up1 (M 41) 5 x1)) = M1
      intro H
      refine r_iconst h (v := 1) (by decide +kernel : decode cX11_hear 21 = .ok (.iconst 1, 1)) ?_
      exact r_zret h rfl (by decide) (by decide +kernel : decode cX11_hear 22 = .ok (.ireturn, 1)) rfl ⟨rfl, _, rfl, H⟩
    · have H := H2 hc
      refine r_iconst h (v := 0) (by decide +kernel : decode cX11_hear 11 = .ok (.iconst 0, 1)) ?_
      exact r_zret h rfl (by decide) (by decide +kernel : decode cX11_hear 12 = .ok (.ireturn, 1)) rfl ⟨rfl, _, rfl, H⟩
theorem W_Main_hear (x1 : Int) (M : Mm) {P : Int → Mm → Prop} (H : (rng x1) ∧ (x1 < 0 → (P 0 M)) ∧ (¬ (x1 < 0) → ((rng x1) ∧ (x1 ≤ 693 → (∀ M1 : Mm, M1 = (upr M 41 (up1 (M 41) 5 x1)) → P 1 M1)) ∧ (¬ (x1 ≤ 693) → (P 0 M))))) : S_Main_hear x1 M P := e_Main_hear x1 M (fun _ h => w_Main_hear_0 h x1 M H)
set_option maxHeartbeats 4000000 in
set_option maxRecDepth 100000 in
theorem w_Main_isHouse_0 {P : Int → Mm → Prop} {K : Nat → Rr → Nat → List (Nat × AV) → List AV → Mm → Prop} (h : EK shC yX11_isHouse cX11_isHouse 2 (some .boolean) 1 NN NN (QI RRC P) K) (x1 : Int) (M : Mm)
    (H : (rng x1) ∧ (x1 < 0 → (P 0 M)) ∧ (¬ (x1 < 0) → (∃ t101 : Nat, M 1 1 = (t101 : Int) ∧ At shC NN t101 (.inl 7) ∧ (rng x1) ∧ (rng (M t101 9)) ∧ ((M t101 9) ≤ x1 → (P 0 M)) ∧ (¬ ((M t101 9) ≤ x1) → (P 1 M))))) :
    K NN RRC 0 [(0, vr 1), (1, vi x1)] [] M := by
  refine r_iloadn h (q := 1) 1 rfl (by decide +kernel : decode cX11_isHouse 0 = .ok (.iload_n 1, 1)) ?_
  obtain ⟨g1, H⟩ := H
  obtain ⟨H1, H2⟩ := H
  refine r_if_lt h 19 g1 (by decide) (by decide +kernel : decode cX11_isHouse 1 = .ok (.ifCond .lt 18, 3)) (fun hc => ?_) (fun hc => ?_)
  · have H := H1 hc
    refine r_iconst h (v := 0) (by decide +kernel : decode cX11_isHouse 19 = .ok (.iconst 0, 1)) ?_
    exact r_zret h rfl (by decide) (by decide +kernel : decode cX11_isHouse 20 = .ok (.ireturn, 1)) rfl ⟨rfl, _, rfl, H⟩
  · have H := H2 hc
    refine r_iloadn h (q := 1) 1 rfl (by decide +kernel : decode cX11_isHouse 4 = .ok (.iload_n 1, 1)) ?_
    refine r_aloadn h (q := 0) 0 rfl (by decide +kernel : decode cX11_isHouse 5 = .ok (.aload_n 0, 1)) ?_
    obtain ⟨t101, htt101, hat101, H⟩ := H
    refine r_getM h (r := t101) f_Main_19 at1C htt101 hat101.2.1 (by decide +kernel : decode cX11_isHouse 6 = .ok (.getfield 19, 3)) ?_
    refine r_getI h f_Main_151 hat101 (by decide +kernel : decode cX11_isHouse 9 = .ok (.getfield 151, 3)) ?_
    obtain ⟨g1, g2, H⟩ := H
    obtain ⟨H1, H2⟩ := H
    refine r_icmp_ge h 19 g1 g2 (by decide) (by decide +kernel : decode cX11_isHouse 12 = .ok (.if_icmp .ge 7, 3)) (fun hc => ?_) (fun hc => ?_)
    · have H := H1 hc
      refine r_iconst h (v := 0) (by decide +kernel : decode cX11_isHouse 19 = .ok (.iconst 0, 1)) ?_
      exact r_zret h rfl (by decide) (by decide +kernel : decode cX11_isHouse 20 = .ok (.ireturn, 1)) rfl ⟨rfl, _, rfl, H⟩
    · have H := H2 hc
      refine r_iconst h (v := 1) (by decide +kernel : decode cX11_isHouse 15 = .ok (.iconst 1, 1)) ?_
      refine r_goto h 20 (by decide) (by decide +kernel : decode cX11_isHouse 16 = .ok (.goto 4, 3)) ?_
      exact r_zret h rfl (by decide) (by decide +kernel : decode cX11_isHouse 20 = .ok (.ireturn, 1)) rfl ⟨rfl, _, rfl, H⟩
theorem W_Main_isHouse (x1 : Int) (M : Mm) {P : Int → Mm → Prop} (H : (rng x1) ∧ (x1 < 0 → (P 0 M)) ∧ (¬ (x1 < 0) → (∃ t101 : Nat, M 1 1 = (t101 : Int) ∧ At shC NN t101 (.inl 7) ∧ (rng x1) ∧ (rng (M t101 9)) ∧ ((M t101 9) ≤ x1 → (P 0 M)) ∧ (¬ ((M t101 9) ≤ x1) → (P 1 M))))) : S_Main_isHouse x1 M P := e_Main_isHouse x1 M (fun _ h => w_Main_isHouse_0 h x1 M H)
set_option maxHeartbeats 4000000 in
set_option maxRecDepth 100000 in
theorem w_Main_weighHouses_0 {P : Mm → Prop} {K : Nat → Rr → Nat → List (Nat × AV) → List AV → Mm → Prop} (h : EK shC yX11_weighHouses cX11_weighHouses 2 none 1 NN NN (QV RRC P) K)  (M : Mm)
    (H : K NN RRC 2 [(0, vr 1), (1, vi 0)] [] M) :
    K NN RRC 0 [(0, vr 1)] [] M := by
  refine r_iconst h (v := 0) (by decide +kernel : decode cX11_weighHouses 0 = .ok (.iconst 0, 1)) ?_
  refine r_istoren h (q := 1) (L' := [(1, vi 0), (0, vr 1)]) (by decide) rfl (by decide +kernel : decode cX11_weighHouses 1 = .ok (.istore_n 1, 1)) ?_
  refine r_drop h [1, 0] rfl ?_
  exact H
set_option maxHeartbeats 4000000 in
set_option maxRecDepth 100000 in
theorem w_Main_weighHouses_2 {P : Mm → Prop} {K : Nat → Rr → Nat → List (Nat × AV) → List AV → Mm → Prop} (h : EK shC yX11_weighHouses cX11_weighHouses 2 none 1 NN NN (QV RRC P) K) (x1 : Int) (M : Mm)
    (H : ∃ t101 : Nat, M 1 1 = (t101 : Int) ∧ At shC NN t101 (.inl 7) ∧ (rng x1) ∧ (rng (M t101 9)) ∧ ((M t101 9) ≤ x1 → (P M)) ∧ (¬ ((M t101 9) ≤ x1) → ((0 ≤ x1 ∧ x1 < 7) ∧ (rng (M 43 x1.toNat)) ∧ (0 ≤ x1 ∧ x1 < 7) ∧ ∀ M1 : Mm, M1 = (upr M 72 (up1 (M 72) x1.toNat ((M 43 x1.toNat) * 100000000))) → K NN RRC 2 [(0, vr 1), (1, vi (x1 + 1))] [] M1))) :
    K NN RRC 2 [(0, vr 1), (1, vi x1)] [] M := by
  refine r_iloadn h (q := 1) 1 rfl (by decide +kernel : decode cX11_weighHouses 2 = .ok (.iload_n 1, 1)) ?_
  refine r_aloadn h (q := 0) 0 rfl (by decide +kernel : decode cX11_weighHouses 3 = .ok (.aload_n 0, 1)) ?_
  obtain ⟨t101, htt101, hat101, H⟩ := H
  refine r_getM h (r := t101) f_Main_19 at1C htt101 hat101.2.1 (by decide +kernel : decode cX11_weighHouses 4 = .ok (.getfield 19, 3)) ?_
  refine r_getI h f_Main_151 hat101 (by decide +kernel : decode cX11_weighHouses 7 = .ok (.getfield 151, 3)) ?_
  obtain ⟨g1, g2, H⟩ := H
  obtain ⟨H1, H2⟩ := H
  refine r_icmp_ge h 42 g1 g2 (by decide) (by decide +kernel : decode cX11_weighHouses 10 = .ok (.if_icmp .ge 32, 3)) (fun hc => ?_) (fun hc => ?_)
  · have H := H1 hc
    exact r_vret h rfl (by decide +kernel : decode cX11_weighHouses 42 = .ok (.return_, 1)) rfl ⟨rfl, rfl, H⟩
  · have H := H2 hc
    refine r_aloadn h (q := 0) 0 rfl (by decide +kernel : decode cX11_weighHouses 13 = .ok (.aload_n 0, 1)) ?_
    refine r_getR h (r := 72) f_Main_83 at1C rfl (by decide) (by decide +kernel : decode cX11_weighHouses 14 = .ok (.getfield 83, 3)) ?_
    refine r_iloadn h (q := 1) 1 rfl (by decide +kernel : decode cX11_weighHouses 17 = .ok (.iload_n 1, 1)) ?_
    refine r_aloadn h (q := 0) 0 rfl (by decide +kernel : decode cX11_weighHouses 18 = .ok (.aload_n 0, 1)) ?_
    refine r_getR h (r := 41) f_Main_43 at1C rfl (by decide) (by decide +kernel : decode cX11_weighHouses 19 = .ok (.getfield 43, 3)) ?_
    refine r_getR h (r := 42) f_Main_133 atC_41 rfl (by decide) (by decide +kernel : decode cX11_weighHouses 22 = .ok (.getfield 133, 3)) ?_
    refine r_getR h (r := 43) f_Main_136 atC_42 rfl (by decide) (by decide +kernel : decode cX11_weighHouses 25 = .ok (.getfield 136, 3)) ?_
    refine r_iloadn h (q := 1) 1 rfl (by decide +kernel : decode cX11_weighHouses 28 = .ok (.iload_n 1, 1)) ?_
    obtain ⟨g1, H⟩ := H
    refine r_iald h x1.toNat rfl atC_43 g1 (by decide) (by decide +kernel : decode cX11_weighHouses 29 = .ok (.iaload, 1)) ?_
    obtain ⟨g1, H⟩ := H
    refine r_i2l h g1 (by decide +kernel : decode cX11_weighHouses 30 = .ok (.i2l, 1)) ?_
    refine r_ldc2 h (v := 100000000) kc_Main_358 (by decide +kernel : decode cX11_weighHouses 31 = .ok (.ldc2_w 358, 3)) ?_
    refine r_lmul h (by decide +kernel : decode cX11_weighHouses 34 = .ok (.lmul, 1)) ?_
    obtain ⟨g1, H⟩ := H
    refine r_last h x1.toNat rfl atC_72 g1 (by decide) (by decide +kernel : decode cX11_weighHouses 35 = .ok (.lastore, 1)) ?_
    have H := H _ rfl
    revert H
    generalize (upr M 72 (up1 (M 72) x1.toNat ((M 43 x1.toNat) * 100000000))) = M1
    intro H
    refine r_iinc h (i := 1) (v := 1) (L' := [(1, vi (x1 + 1)), (0, vr 1)]) 1 rfl (by decide) rfl (by decide +kernel : decode cX11_weighHouses 36 = .ok (.iinc 1 1, 3)) ?_
    refine r_goto h 2 (by decide) (by decide +kernel : decode cX11_weighHouses 39 = .ok (.goto (-37), 3)) ?_
    refine r_drop h [1, 0] rfl ?_
    exact H
set_option maxHeartbeats 4000000 in
set_option maxRecDepth 100000 in
theorem w_Main_millionths_0 {P : Int → Mm → Prop} {K : Nat → Rr → Nat → List (Nat × AV) → List AV → Mm → Prop} (h : EK shC yX11_millionths cX11_millionths 5 (some .int) 1 NN NN (QI RRC P) K) (x0 : Int) (x2 : Int) (M : Mm)
    (H : (rng x2) ∧ (rngL ((x2 * 100000000) * 10)) ∧ ((cmpL ((x2 * 100000000) * 10) 0) ≤ 0 → (P 0 M)) ∧ (¬ ((cmpL ((x2 * 100000000) * 10) 0) ≤ 0) → ((rngL ((x2 * 100000000) * 10)) ∧ (((x2 * 100000000) * 10) ≠ 0) ∧ P (divL (x0 * 1000000) ((x2 * 100000000) * 10)) M))) :
    K NN RRC 0 [(0, vl x0), (2, vi x2)] [] M := by
  refine r_iloadn h (q := 2) 1 rfl (by decide +kernel : decode cX11_millionths 0 = .ok (.iload_n 2, 1)) ?_
  obtain ⟨g1, H⟩ := H
  refine r_i2l h g1 (by decide +kernel : decode cX11_millionths 1 = .ok (.i2l, 1)) ?_
  refine r_ldc2 h (v := 100000000) kc_Main_358 (by decide +kernel : decode cX11_millionths 2 = .ok (.ldc2_w 358, 3)) ?_
  refine r_lmul h (by decide +kernel : decode cX11_millionths 5 = .ok (.lmul, 1)) ?_
  refine r_ldc2 h (v := 10) kc_Main_305 (by decide +kernel : decode cX11_millionths 6 = .ok (.ldc2_w 305, 3)) ?_
  refine r_lmul h (by decide +kernel : decode cX11_millionths 9 = .ok (.lmul, 1)) ?_
  refine r_lstoren h (q := 3) (L' := [(3, vl ((x2 * 100000000) * 10)), (0, vl x0), (2, vi x2)]) (by decide) rfl (by decide +kernel : decode cX11_millionths 10 = .ok (.lstore_n 3, 1)) ?_
  refine r_lloadn h (q := 3) 0 rfl (by decide +kernel : decode cX11_millionths 11 = .ok (.lload_n 3, 1)) ?_
  refine r_lconst h (v := 0) (w := 0) (by decide) (by decide +kernel : decode cX11_millionths 12 = .ok (.lconst 0, 1)) ?_
  obtain ⟨g1, H⟩ := H
  refine r_lcmp h g1 (by decide) (by decide +kernel : decode cX11_millionths 13 = .ok (.lcmp, 1)) ?_
  obtain ⟨H1, H2⟩ := H
  refine r_if_le h 28 (rng_cmpL _ _) (by decide) (by decide +kernel : decode cX11_millionths 14 = .ok (.ifCond .le 14, 3)) (fun hc => ?_) (fun hc => ?_)
  · have H := H1 hc
    refine r_iconst h (v := 0) (by decide +kernel : decode cX11_millionths 28 = .ok (.iconst 0, 1)) ?_
    exact r_iret h rfl (by decide +kernel : decode cX11_millionths 29 = .ok (.ireturn, 1)) rfl ⟨rfl, _, rfl, H⟩
  · have H := H2 hc
    refine r_lloadn h (q := 0) 1 rfl (by decide +kernel : decode cX11_millionths 17 = .ok (.lload_n 0, 1)) ?_
    refine r_ldc2 h (v := 1000000) kc_Main_360 (by decide +kernel : decode cX11_millionths 18 = .ok (.ldc2_w 360, 3)) ?_
    refine r_lmul h (by decide +kernel : decode cX11_millionths 21 = .ok (.lmul, 1)) ?_
    refine r_lloadn h (q := 3) 0 rfl (by decide +kernel : decode cX11_millionths 22 = .ok (.lload_n 3, 1)) ?_
    obtain ⟨g1, g2, H⟩ := H
    refine r_ldiv h g1 g2 (by decide +kernel : decode cX11_millionths 23 = .ok (.ldiv, 1)) ?_
    refine r_l2i h (by decide +kernel : decode cX11_millionths 24 = .ok (.l2i, 1)) ?_
    refine r_goto h 29 (by decide) (by decide +kernel : decode cX11_millionths 25 = .ok (.goto 4, 3)) ?_
    exact r_iret h rfl (by decide +kernel : decode cX11_millionths 29 = .ok (.ireturn, 1)) rfl ⟨rfl, _, rfl, H⟩
theorem W_Main_millionths (x0 : Int) (x2 : Int) (M : Mm) {P : Int → Mm → Prop} (H : (rng x2) ∧ (rngL ((x2 * 100000000) * 10)) ∧ ((cmpL ((x2 * 100000000) * 10) 0) ≤ 0 → (P 0 M)) ∧ (¬ ((cmpL ((x2 * 100000000) * 10) 0) ≤ 0) → ((rngL ((x2 * 100000000) * 10)) ∧ (((x2 * 100000000) * 10) ≠ 0) ∧ P (divL (x0 * 1000000) ((x2 * 100000000) * 10)) M))) : S_Main_millionths x0 x2 M P := e_Main_millionths x0 x2 M (fun _ h => w_Main_millionths_0 h x0 x2 M H)
set_option maxHeartbeats 4000000 in
set_option maxRecDepth 100000 in
theorem w_Main_isBid_0 {P : Int → Mm → Prop} {K : Nat → Rr → Nat → List (Nat × AV) → List AV → Mm → Prop} (h : EK shC yX11_isBid cX11_isBid 1 (some .boolean) 1 NN NN (QI RRC P) K) (x0 : Int) (M : Mm)
    (H : (rng x0) ∧ (x0 < 0 → (P 0 M)) ∧ (¬ (x0 < 0) → ((rng x0) ∧ (9 < x0 → (P 0 M)) ∧ (¬ (9 < x0) → (P 1 M))))) :
    K NN RRC 0 [(0, vi x0)] [] M := by
  refine r_iloadn h (q := 0) 0 rfl (by decide +kernel : decode cX11_isBid 0 = .ok (.iload_n 0, 1)) ?_
  obtain ⟨g1, H⟩ := H
  obtain ⟨H1, H2⟩ := H
  refine r_if_lt h 14 g1 (by decide) (by decide +kernel : decode cX11_isBid 1 = .ok (.ifCond .lt 13, 3)) (fun hc => ?_) (fun hc => ?_)
  · have H := H1 hc
    refine r_iconst h (v := 0) (by decide +kernel : decode cX11_isBid 14 = .ok (.iconst 0, 1)) ?_
    exact r_zret h rfl (by decide) (by decide +kernel : decode cX11_isBid 15 = .ok (.ireturn, 1)) rfl ⟨rfl, _, rfl, H⟩
  · have H := H2 hc
    refine r_iloadn h (q := 0) 0 rfl (by decide +kernel : decode cX11_isBid 4 = .ok (.iload_n 0, 1)) ?_
    refine r_bipush h (v := 9) (by decide) (by decide +kernel : decode cX11_isBid 5 = .ok (.bipush 9, 2)) ?_
    obtain ⟨g1, H⟩ := H
    obtain ⟨H1, H2⟩ := H
    refine r_icmp_gt h 14 g1 (by decide) (by decide) (by decide +kernel : decode cX11_isBid 7 = .ok (.if_icmp .gt 7, 3)) (fun hc => ?_) (fun hc => ?_)
    · have H := H1 hc
      refine r_iconst h (v := 0) (by decide +kernel : decode cX11_isBid 14 = .ok (.iconst 0, 1)) ?_
      exact r_zret h rfl (by decide) (by decide +kernel : decode cX11_isBid 15 = .ok (.ireturn, 1)) rfl ⟨rfl, _, rfl, H⟩
    · have H := H2 hc
      refine r_iconst h (v := 1) (by decide +kernel : decode cX11_isBid 10 = .ok (.iconst 1, 1)) ?_
      refine r_goto h 15 (by decide) (by decide +kernel : decode cX11_isBid 11 = .ok (.goto 4, 3)) ?_
      exact r_zret h rfl (by decide) (by decide +kernel : decode cX11_isBid 15 = .ok (.ireturn, 1)) rfl ⟨rfl, _, rfl, H⟩
theorem W_Main_isBid (x0 : Int) (M : Mm) {P : Int → Mm → Prop} (H : (rng x0) ∧ (x0 < 0 → (P 0 M)) ∧ (¬ (x0 < 0) → ((rng x0) ∧ (9 < x0 → (P 0 M)) ∧ (¬ (9 < x0) → (P 1 M))))) : S_Main_isBid x0 M P := e_Main_isBid x0 M (fun _ h => w_Main_isBid_0 h x0 M H)
set_option maxHeartbeats 4000000 in
set_option maxRecDepth 100000 in
theorem w_Main_gainOfFirst_0 {P : Int → Mm → Prop} {K : Nat → Rr → Nat → List (Nat × AV) → List AV → Mm → Prop} (h : EK shC yX11_gainOfFirst cX11_gainOfFirst 3 (some .int) 1 NN NN (QI RRC P) K) (x0 : Int) (x1 : Int) (x2 : Int) (M : Mm)
    (H : (rng x1) ∧ (rng x2) ∧ (x1 < x2 → (P 0 M)) ∧ (¬ (x1 < x2) → (P (x0 - x2) M))) :
    K NN RRC 0 [(0, vi x0), (1, vi x1), (2, vi x2)] [] M := by
  refine r_iloadn h (q := 1) 1 rfl (by decide +kernel : decode cX11_gainOfFirst 0 = .ok (.iload_n 1, 1)) ?_
  refine r_iloadn h (q := 2) 2 rfl (by decide +kernel : decode cX11_gainOfFirst 1 = .ok (.iload_n 2, 1)) ?_
  obtain ⟨g1, g2, H⟩ := H
  obtain ⟨H1, H2⟩ := H
  refine r_icmp_lt h 11 g1 g2 (by decide) (by decide +kernel : decode cX11_gainOfFirst 2 = .ok (.if_icmp .lt 9, 3)) (fun hc => ?_) (fun hc => ?_)
  · have H := H1 hc
    refine r_iconst h (v := 0) (by decide +kernel : decode cX11_gainOfFirst 11 = .ok (.iconst 0, 1)) ?_
    exact r_iret h rfl (by decide +kernel : decode cX11_gainOfFirst 12 = .ok (.ireturn, 1)) rfl ⟨rfl, _, rfl, H⟩
  · have H := H2 hc
    refine r_iloadn h (q := 0) 0 rfl (by decide +kernel : decode cX11_gainOfFirst 5 = .ok (.iload_n 0, 1)) ?_
    refine r_iloadn h (q := 2) 2 rfl (by decide +kernel : decode cX11_gainOfFirst 6 = .ok (.iload_n 2, 1)) ?_
    refine r_isub h (by decide +kernel : decode cX11_gainOfFirst 7 = .ok (.isub, 1)) ?_
    refine r_goto h 12 (by decide) (by decide +kernel : decode cX11_gainOfFirst 8 = .ok (.goto 4, 3)) ?_
    exact r_iret h rfl (by decide +kernel : decode cX11_gainOfFirst 12 = .ok (.ireturn, 1)) rfl ⟨rfl, _, rfl, H⟩
theorem W_Main_gainOfFirst (x0 : Int) (x1 : Int) (x2 : Int) (M : Mm) {P : Int → Mm → Prop} (H : (rng x1) ∧ (rng x2) ∧ (x1 < x2 → (P 0 M)) ∧ (¬ (x1 < x2) → (P (x0 - x2) M))) : S_Main_gainOfFirst x0 x1 x2 M P := e_Main_gainOfFirst x0 x1 x2 M (fun _ h => w_Main_gainOfFirst_0 h x0 x1 x2 M H)
set_option maxHeartbeats 4000000 in
set_option maxRecDepth 100000 in
theorem w_Main_gainOfOther_0 {P : Int → Mm → Prop} {K : Nat → Rr → Nat → List (Nat × AV) → List AV → Mm → Prop} (h : EK shC yX11_gainOfOther cX11_gainOfOther 3 (some .int) 1 NN NN (QI RRC P) K) (x0 : Int) (x1 : Int) (x2 : Int) (M : Mm)
    (H : (rng x2) ∧ (rng x1) ∧ (x2 ≤ x1 → (P 0 M)) ∧ (¬ (x2 ≤ x1) → (P (x0 - x1) M))) :
    K NN RRC 0 [(0, vi x0), (1, vi x1), (2, vi x2)] [] M := by
  refine r_iloadn h (q := 2) 2 rfl (by decide +kernel : decode cX11_gainOfOther 0 = .ok (.iload_n 2, 1)) ?_
  refine r_iloadn h (q := 1) 1 rfl (by decide +kernel : decode cX11_gainOfOther 1 = .ok (.iload_n 1, 1)) ?_
  obtain ⟨g1, g2, H⟩ := H
  obtain ⟨H1, H2⟩ := H
  refine r_icmp_le h 11 g1 g2 (by decide) (by decide +kernel : decode cX11_gainOfOther 2 = .ok (.if_icmp .le 9, 3)) (fun hc => ?_) (fun hc => ?_)
  · have H := H1 hc
    refine r_iconst h (v := 0) (by decide +kernel : decode cX11_gainOfOther 11 = .ok (.iconst 0, 1)) ?_
    exact r_iret h rfl (by decide +kernel : decode cX11_gainOfOther 12 = .ok (.ireturn, 1)) rfl ⟨rfl, _, rfl, H⟩
  · have H := H2 hc
    refine r_iloadn h (q := 0) 0 rfl (by decide +kernel : decode cX11_gainOfOther 5 = .ok (.iload_n 0, 1)) ?_
    refine r_iloadn h (q := 1) 1 rfl (by decide +kernel : decode cX11_gainOfOther 6 = .ok (.iload_n 1, 1)) ?_
    refine r_isub h (by decide +kernel : decode cX11_gainOfOther 7 = .ok (.isub, 1)) ?_
    refine r_goto h 12 (by decide) (by decide +kernel : decode cX11_gainOfOther 8 = .ok (.goto 4, 3)) ?_
    exact r_iret h rfl (by decide +kernel : decode cX11_gainOfOther 12 = .ok (.ireturn, 1)) rfl ⟨rfl, _, rfl, H⟩
theorem W_Main_gainOfOther (x0 : Int) (x1 : Int) (x2 : Int) (M : Mm) {P : Int → Mm → Prop} (H : (rng x2) ∧ (rng x1) ∧ (x2 ≤ x1 → (P 0 M)) ∧ (¬ (x2 ≤ x1) → (P (x0 - x1) M))) : S_Main_gainOfOther x0 x1 x2 M P := e_Main_gainOfOther x0 x1 x2 M (fun _ h => w_Main_gainOfOther_0 h x0 x1 x2 M H)
set_option maxHeartbeats 4000000 in
set_option maxRecDepth 100000 in
theorem w_Main_house_0 {P : Int → Mm → Prop} {K : Nat → Rr → Nat → List (Nat × AV) → List AV → Mm → Prop} (h : EK shC yX11_house cX11_house 3 (some .int) 2 NN NN (QI RRC P) K) (x1 : Int) (x2 : Int) (M : Mm)
    (H : ∃ P1 : Int → Mm → Prop, S_Main_isHouse x1 M P1 ∧ ∀ (r1 : Int) (M1 : Mm), P1 r1 M1 → (rng r1) ∧ (r1 ≠ 0 → ((rng x2) ∧ (x2 = 0 → (∃ t101 : Nat, M1 1 1 = (t101 : Int) ∧ At shC NN t101 (.inl 7) ∧ (0 ≤ x1 ∧ x1 < 7) ∧ P (M1 (t101 + 2) x1.toNat) M1)) ∧ (x2 = 1 → ((0 ≤ x1 ∧ x1 < 7) ∧ P (M1 43 x1.toNat) M1)) ∧ (x2 = 2 → ((0 ≤ x1 ∧ x1 < 7) ∧ P (M1 44 x1.toNat) M1)) ∧ (x2 = 3 → (∃ t102 : Nat, M1 1 1 = (t102 : Int) ∧ At shC NN t102 (.inl 7) ∧ (0 ≤ x1 ∧ x1 < 7) ∧ P (M1 (t102 + 5) x1.toNat) M1)) ∧ (x2 = 4 → ((0 ≤ x1 ∧ x1 < 7) ∧ P (M1 45 x1.toNat) M1)) ∧ (x2 = 5 → (∃ P2 : Int → Mm → Prop, S_State_goes 42 x1 M1 P2 ∧ ∀ (r2 : Int) (M2 : Mm), P2 r2 M2 → (rng r2) ∧ (r2 = 0 → (P 1 M2)) ∧ (r2 ≠ 0 → (P 0 M2)))) ∧ (x2 = 6 → (∃ t103 : Nat, M1 1 1 = (t103 : Int) ∧ At shC NN t103 (.inl 7) ∧ ∃ P3 : Int → Mm → Prop, S_State_placeOf 42 x1 (M1 t103 9) M1 P3 ∧ ∀ (r3 : Int) (M3 : Mm), P3 r3 M3 → P r3 M3)) ∧ (x2 ≠ 0 ∧ x2 ≠ 1 ∧ x2 ≠ 2 ∧ x2 ≠ 3 ∧ x2 ≠ 4 ∧ x2 ≠ 5 ∧ x2 ≠ 6 → (P (-1) M1)))) ∧ (r1 = 0 → (P (-1) M1))) :
    K NN RRC 0 [(0, vr 1), (1, vi x1), (2, vi x2)] [] M := by
  refine r_aloadn h (q := 0) 0 rfl (by decide +kernel : decode cX11_house 0 = .ok (.aload_n 0, 1)) ?_
  refine r_iloadn h (q := 1) 1 rfl (by decide +kernel : decode cX11_house 1 = .ok (.iload_n 1, 1)) ?_
  obtain ⟨P1, hSP1, H⟩ := H
  refine r_callV h (as := [vi x1]) (S := []) (b := 1) m_Main_125 hSP1 (by decide) (Nat.le_refl _) rfl at1C rfl (Nat.le_of_ble_eq_true rfl) (by decide +kernel : decode cX11_house 2 = .ok (.invokevirtual 125, 3)) ?_
  rintro _ _ M1 ⟨rfl, r1, rfl, hP⟩
  have H := H r1 M1 hP
  show K NN RRC _ _ [vi r1] _
  obtain ⟨g1, H⟩ := H
  obtain ⟨H1, H2⟩ := H
  refine r_if_ne h 10 g1 (by decide) (by decide +kernel : decode cX11_house 5 = .ok (.ifCond .ne 5, 3)) (fun hc => ?_) (fun hc => ?_)
  · have H := H1 hc
    refine r_iloadn h (q := 2) 2 rfl (by decide +kernel : decode cX11_house 10 = .ok (.iload_n 2, 1)) ?_
    obtain ⟨g1, H⟩ := H
    obtain ⟨H1, H⟩ := H
    by_cases hk0 : x2 = 0
    · have H := H1 hk0
      refine r_tabIn h 52 g1 (by rw [hk0]; decide) (by rw [hk0]; rfl) (by decide) (by decide +kernel : decode cX11_house 11 = .ok (.tableswitch 139 0 6 #[41, 51, 64, 77, 87, 100, 120], 41)) ?_
      refine r_aloadn h (q := 0) 0 rfl (by decide +kernel : decode cX11_house 52 = .ok (.aload_n 0, 1)) ?_
      obtain ⟨t101, htt101, hat101, H⟩ := H
      refine r_getM h (r := t101) f_Main_19 at1C htt101 hat101.2.1 (by decide +kernel : decode cX11_house 53 = .ok (.getfield 19, 3)) ?_
      refine r_getR h (r := (t101 + 2)) f_Main_129 hat101 (rr_7_1 hat101) (by omega) (by decide +kernel : decode cX11_house 56 = .ok (.getfield 129, 3)) ?_
      refine r_iloadn h (q := 1) 1 rfl (by decide +kernel : decode cX11_house 59 = .ok (.iload_n 1, 1)) ?_
      obtain ⟨g1, H⟩ := H
      refine r_iald h x1.toNat rfl (at_7_1 hat101) g1 (by decide) (by decide +kernel : decode cX11_house 60 = .ok (.iaload, 1)) ?_
      exact r_iret h rfl (by decide +kernel : decode cX11_house 61 = .ok (.ireturn, 1)) rfl ⟨rfl, _, rfl, H⟩
    obtain ⟨H1, H⟩ := H
    by_cases hk1 : x2 = 1
    · have H := H1 hk1
      refine r_tabIn h 62 g1 (by rw [hk1]; decide) (by rw [hk1]; rfl) (by decide) (by decide +kernel : decode cX11_house 11 = .ok (.tableswitch 139 0 6 #[41, 51, 64, 77, 87, 100, 120], 41)) ?_
      refine r_aloadn h (q := 0) 0 rfl (by decide +kernel : decode cX11_house 62 = .ok (.aload_n 0, 1)) ?_
      refine r_getR h (r := 41) f_Main_43 at1C rfl (by decide) (by decide +kernel : decode cX11_house 63 = .ok (.getfield 43, 3)) ?_
      refine r_getR h (r := 42) f_Main_133 atC_41 rfl (by decide) (by decide +kernel : decode cX11_house 66 = .ok (.getfield 133, 3)) ?_
      refine r_getR h (r := 43) f_Main_136 atC_42 rfl (by decide) (by decide +kernel : decode cX11_house 69 = .ok (.getfield 136, 3)) ?_
      refine r_iloadn h (q := 1) 1 rfl (by decide +kernel : decode cX11_house 72 = .ok (.iload_n 1, 1)) ?_
      obtain ⟨g1, H⟩ := H
      refine r_iald h x1.toNat rfl atC_43 g1 (by decide) (by decide +kernel : decode cX11_house 73 = .ok (.iaload, 1)) ?_
      exact r_iret h rfl (by decide +kernel : decode cX11_house 74 = .ok (.ireturn, 1)) rfl ⟨rfl, _, rfl, H⟩
    obtain ⟨H1, H⟩ := H
    by_cases hk2 : x2 = 2
    · have H := H1 hk2
      refine r_tabIn h 75 g1 (by rw [hk2]; decide) (by rw [hk2]; rfl) (by decide) (by decide +kernel : decode cX11_house 11 = .ok (.tableswitch 139 0 6 #[41, 51, 64, 77, 87, 100, 120], 41)) ?_
      refine r_aloadn h (q := 0) 0 rfl (by decide +kernel : decode cX11_house 75 = .ok (.aload_n 0, 1)) ?_
      refine r_getR h (r := 41) f_Main_43 at1C rfl (by decide) (by decide +kernel : decode cX11_house 76 = .ok (.getfield 43, 3)) ?_
      refine r_getR h (r := 42) f_Main_133 atC_41 rfl (by decide) (by decide +kernel : decode cX11_house 79 = .ok (.getfield 133, 3)) ?_
      refine r_getR h (r := 44) f_Main_139 atC_42 rfl (by decide) (by decide +kernel : decode cX11_house 82 = .ok (.getfield 139, 3)) ?_
      refine r_iloadn h (q := 1) 1 rfl (by decide +kernel : decode cX11_house 85 = .ok (.iload_n 1, 1)) ?_
      obtain ⟨g1, H⟩ := H
      refine r_iald h x1.toNat rfl atC_44 g1 (by decide) (by decide +kernel : decode cX11_house 86 = .ok (.iaload, 1)) ?_
      exact r_iret h rfl (by decide +kernel : decode cX11_house 87 = .ok (.ireturn, 1)) rfl ⟨rfl, _, rfl, H⟩
    obtain ⟨H1, H⟩ := H
    by_cases hk3 : x2 = 3
    · have H := H1 hk3
      refine r_tabIn h 88 g1 (by rw [hk3]; decide) (by rw [hk3]; rfl) (by decide) (by decide +kernel : decode cX11_house 11 = .ok (.tableswitch 139 0 6 #[41, 51, 64, 77, 87, 100, 120], 41)) ?_
      refine r_aloadn h (q := 0) 0 rfl (by decide +kernel : decode cX11_house 88 = .ok (.aload_n 0, 1)) ?_
      obtain ⟨t102, htt102, hat102, H⟩ := H
      refine r_getM h (r := t102) f_Main_19 at1C htt102 hat102.2.1 (by decide +kernel : decode cX11_house 89 = .ok (.getfield 19, 3)) ?_
      refine r_getR h (r := (t102 + 5)) f_Main_142 hat102 (rr_7_4 hat102) (by omega) (by decide +kernel : decode cX11_house 92 = .ok (.getfield 142, 3)) ?_
      refine r_iloadn h (q := 1) 1 rfl (by decide +kernel : decode cX11_house 95 = .ok (.iload_n 1, 1)) ?_
      obtain ⟨g1, H⟩ := H
      refine r_iald h x1.toNat rfl (at_7_4 hat102) g1 (by decide) (by decide +kernel : decode cX11_house 96 = .ok (.iaload, 1)) ?_
      exact r_iret h rfl (by decide +kernel : decode cX11_house 97 = .ok (.ireturn, 1)) rfl ⟨rfl, _, rfl, H⟩
    obtain ⟨H1, H⟩ := H
    by_cases hk4 : x2 = 4
    · have H := H1 hk4
      refine r_tabIn h 98 g1 (by rw [hk4]; decide) (by rw [hk4]; rfl) (by decide) (by decide +kernel : decode cX11_house 11 = .ok (.tableswitch 139 0 6 #[41, 51, 64, 77, 87, 100, 120], 41)) ?_
      refine r_aloadn h (q := 0) 0 rfl (by decide +kernel : decode cX11_house 98 = .ok (.aload_n 0, 1)) ?_
      refine r_getR h (r := 41) f_Main_43 at1C rfl (by decide) (by decide +kernel : decode cX11_house 99 = .ok (.getfield 43, 3)) ?_
      refine r_getR h (r := 42) f_Main_133 atC_41 rfl (by decide) (by decide +kernel : decode cX11_house 102 = .ok (.getfield 133, 3)) ?_
      refine r_getR h (r := 45) f_Main_145 atC_42 rfl (by decide) (by decide +kernel : decode cX11_house 105 = .ok (.getfield 145, 3)) ?_
      refine r_iloadn h (q := 1) 1 rfl (by decide +kernel : decode cX11_house 108 = .ok (.iload_n 1, 1)) ?_
      obtain ⟨g1, H⟩ := H
      refine r_iald h x1.toNat rfl atC_45 g1 (by decide) (by decide +kernel : decode cX11_house 109 = .ok (.iaload, 1)) ?_
      exact r_iret h rfl (by decide +kernel : decode cX11_house 110 = .ok (.ireturn, 1)) rfl ⟨rfl, _, rfl, H⟩
    obtain ⟨H1, H⟩ := H
    by_cases hk5 : x2 = 5
    · have H := H1 hk5
      refine r_tabIn h 111 g1 (by rw [hk5]; decide) (by rw [hk5]; rfl) (by decide) (by decide +kernel : decode cX11_house 11 = .ok (.tableswitch 139 0 6 #[41, 51, 64, 77, 87, 100, 120], 41)) ?_
      refine r_aloadn h (q := 0) 0 rfl (by decide +kernel : decode cX11_house 111 = .ok (.aload_n 0, 1)) ?_
      refine r_getR h (r := 41) f_Main_43 at1C rfl (by decide) (by decide +kernel : decode cX11_house 112 = .ok (.getfield 43, 3)) ?_
      refine r_getR h (r := 42) f_Main_133 atC_41 rfl (by decide) (by decide +kernel : decode cX11_house 115 = .ok (.getfield 133, 3)) ?_
      refine r_iloadn h (q := 1) 1 rfl (by decide +kernel : decode cX11_house 118 = .ok (.iload_n 1, 1)) ?_
      obtain ⟨P2, hSP2, H⟩ := H
      refine r_callV h (as := [vi x1]) (S := []) (b := 42) m_Main_148 hSP2 (by decide) (Nat.le_refl _) rfl atC_42 rfl (Nat.le_of_ble_eq_true rfl) (by decide +kernel : decode cX11_house 119 = .ok (.invokevirtual 148, 3)) ?_
      rintro _ _ M2 ⟨rfl, r2, rfl, hP⟩
      have H := H r2 M2 hP
      show K NN RRC _ _ [vi r2] _
      obtain ⟨g1, H⟩ := H
      obtain ⟨H1, H2⟩ := H
      refine r_if_eq h 129 g1 (by decide) (by decide +kernel : decode cX11_house 122 = .ok (.ifCond .eq 7, 3)) (fun hc => ?_) (fun hc => ?_)
      · have H := H1 hc
        refine r_iconst h (v := 1) (by decide +kernel : decode cX11_house 129 = .ok (.iconst 1, 1)) ?_
        exact r_iret h rfl (by decide +kernel : decode cX11_house 130 = .ok (.ireturn, 1)) rfl ⟨rfl, _, rfl, H⟩
      · have H := H2 hc
        refine r_iconst h (v := 0) (by decide +kernel : decode cX11_house 125 = .ok (.iconst 0, 1)) ?_
        refine r_goto h 130 (by decide) (by decide +kernel : decode cX11_house 126 = .ok (.goto 4, 3)) ?_
        exact r_iret h rfl (by decide +kernel : decode cX11_house 130 = .ok (.ireturn, 1)) rfl ⟨rfl, _, rfl, H⟩
    obtain ⟨H1, H⟩ := H
    by_cases hk6 : x2 = 6
    · have H := H1 hk6
      refine r_tabIn h 131 g1 (by rw [hk6]; decide) (by rw [hk6]; rfl) (by decide) (by decide +kernel : decode cX11_house 11 = .ok (.tableswitch 139 0 6 #[41, 51, 64, 77, 87, 100, 120], 41)) ?_
      refine r_aloadn h (q := 0) 0 rfl (by decide +kernel : decode cX11_house 131 = .ok (.aload_n 0, 1)) ?_
      refine r_getR h (r := 41) f_Main_43 at1C rfl (by decide) (by decide +kernel : decode cX11_house 132 = .ok (.getfield 43, 3)) ?_
      refine r_getR h (r := 42) f_Main_133 atC_41 rfl (by decide) (by decide +kernel : decode cX11_house 135 = .ok (.getfield 133, 3)) ?_
      refine r_iloadn h (q := 1) 1 rfl (by decide +kernel : decode cX11_house 138 = .ok (.iload_n 1, 1)) ?_
      refine r_aloadn h (q := 0) 0 rfl (by decide +kernel : decode cX11_house 139 = .ok (.aload_n 0, 1)) ?_
      obtain ⟨t103, htt103, hat103, H⟩ := H
      refine r_getM h (r := t103) f_Main_19 at1C htt103 hat103.2.1 (by decide +kernel : decode cX11_house 140 = .ok (.getfield 19, 3)) ?_
      refine r_getI h f_Main_151 hat103 (by decide +kernel : decode cX11_house 143 = .ok (.getfield 151, 3)) ?_
      obtain ⟨P3, hSP3, H⟩ := H
      refine r_callV h (as := [vi x1, vi (M1 t103 9)]) (S := []) (b := 42) m_Main_154 hSP3 (by decide) (Nat.le_refl _) rfl atC_42 rfl (Nat.le_of_ble_eq_true rfl) (by decide +kernel : decode cX11_house 146 = .ok (.invokevirtual 154, 3)) ?_
      rintro _ _ M3 ⟨rfl, r3, rfl, hP⟩
      have H := H r3 M3 hP
      show K NN RRC _ _ [vi r3] _
      exact r_iret h rfl (by decide +kernel : decode cX11_house 149 = .ok (.ireturn, 1)) rfl ⟨rfl, _, rfl, H⟩
    have H := H ⟨hk0, hk1, hk2, hk3, hk4, hk5, hk6⟩
    refine r_tabOut h 150 g1 (tout_0_6 hk0 hk1 hk2 hk3 hk4 hk5 hk6) (by decide) (by decide +kernel : decode cX11_house 11 = .ok (.tableswitch 139 0 6 #[41, 51, 64, 77, 87, 100, 120], 41)) ?_
    refine r_iconst h (v := (-1)) (by decide +kernel : decode cX11_house 150 = .ok (.iconst (-1), 1)) ?_
    exact r_iret h rfl (by decide +kernel : decode cX11_house 151 = .ok (.ireturn, 1)) rfl ⟨rfl, _, rfl, H⟩
  · have H := H2 hc
    refine r_iconst h (v := (-1)) (by decide +kernel : decode cX11_house 8 = .ok (.iconst (-1), 1)) ?_
    exact r_iret h rfl (by decide +kernel : decode cX11_house 9 = .ok (.ireturn, 1)) rfl ⟨rfl, _, rfl, H⟩
theorem W_Main_house (x1 : Int) (x2 : Int) (M : Mm) {P : Int → Mm → Prop} (H : ∃ P1 : Int → Mm → Prop, S_Main_isHouse x1 M P1 ∧ ∀ (r1 : Int) (M1 : Mm), P1 r1 M1 → (rng r1) ∧ (r1 ≠ 0 → ((rng x2) ∧ (x2 = 0 → (∃ t101 : Nat, M1 1 1 = (t101 : Int) ∧ At shC NN t101 (.inl 7) ∧ (0 ≤ x1 ∧ x1 < 7) ∧ P (M1 (t101 + 2) x1.toNat) M1)) ∧ (x2 = 1 → ((0 ≤ x1 ∧ x1 < 7) ∧ P (M1 43 x1.toNat) M1)) ∧ (x2 = 2 → ((0 ≤ x1 ∧ x1 < 7) ∧ P (M1 44 x1.toNat) M1)) ∧ (x2 = 3 → (∃ t102 : Nat, M1 1 1 = (t102 : Int) ∧ At shC NN t102 (.inl 7) ∧ (0 ≤ x1 ∧ x1 < 7) ∧ P (M1 (t102 + 5) x1.toNat) M1)) ∧ (x2 = 4 → ((0 ≤ x1 ∧ x1 < 7) ∧ P (M1 45 x1.toNat) M1)) ∧ (x2 = 5 → (∃ P2 : Int → Mm → Prop, S_State_goes 42 x1 M1 P2 ∧ ∀ (r2 : Int) (M2 : Mm), P2 r2 M2 → (rng r2) ∧ (r2 = 0 → (P 1 M2)) ∧ (r2 ≠ 0 → (P 0 M2)))) ∧ (x2 = 6 → (∃ t103 : Nat, M1 1 1 = (t103 : Int) ∧ At shC NN t103 (.inl 7) ∧ ∃ P3 : Int → Mm → Prop, S_State_placeOf 42 x1 (M1 t103 9) M1 P3 ∧ ∀ (r3 : Int) (M3 : Mm), P3 r3 M3 → P r3 M3)) ∧ (x2 ≠ 0 ∧ x2 ≠ 1 ∧ x2 ≠ 2 ∧ x2 ≠ 3 ∧ x2 ≠ 4 ∧ x2 ≠ 5 ∧ x2 ≠ 6 → (P (-1) M1)))) ∧ (r1 = 0 → (P (-1) M1))) : S_Main_house x1 x2 M P := e_Main_house x1 x2 M (fun _ h => w_Main_house_0 h x1 x2 M H)
set_option maxHeartbeats 4000000 in
set_option maxRecDepth 100000 in
theorem w_Main_order_0 {P : Int → Mm → Prop} {K : Nat → Rr → Nat → List (Nat × AV) → List AV → Mm → Prop} (h : EK shC yX11_order cX11_order 2 (some .int) 2 NN NN (QI RRC P) K) (x1 : Int) (M : Mm)
    (H : ∃ P1 : Int → Mm → Prop, S_Main_isHouse x1 M P1 ∧ ∀ (r1 : Int) (M1 : Mm), P1 r1 M1 → (rng r1) ∧ (r1 = 0 → (P (-1) M1)) ∧ (r1 ≠ 0 → ((0 ≤ x1 ∧ x1 < 7) ∧ P (M1 46 x1.toNat) M1))) :
    K NN RRC 0 [(0, vr 1), (1, vi x1)] [] M := by
  refine r_aloadn h (q := 0) 0 rfl (by decide +kernel : decode cX11_order 0 = .ok (.aload_n 0, 1)) ?_
  refine r_iloadn h (q := 1) 1 rfl (by decide +kernel : decode cX11_order 1 = .ok (.iload_n 1, 1)) ?_
  obtain ⟨P1, hSP1, H⟩ := H
  refine r_callV h (as := [vi x1]) (S := []) (b := 1) m_Main_125 hSP1 (by decide) (Nat.le_refl _) rfl at1C rfl (Nat.le_of_ble_eq_true rfl) (by decide +kernel : decode cX11_order 2 = .ok (.invokevirtual 125, 3)) ?_
  rintro _ _ M1 ⟨rfl, r1, rfl, hP⟩
  have H := H r1 M1 hP
  show K NN RRC _ _ [vi r1] _
  obtain ⟨g1, H⟩ := H
  obtain ⟨H1, H2⟩ := H
  refine r_if_eq h 23 g1 (by decide) (by decide +kernel : decode cX11_order 5 = .ok (.ifCond .eq 18, 3)) (fun hc => ?_) (fun hc => ?_)
  · have H := H1 hc
    refine r_iconst h (v := (-1)) (by decide +kernel : decode cX11_order 23 = .ok (.iconst (-1), 1)) ?_
    exact r_iret h rfl (by decide +kernel : decode cX11_order 24 = .ok (.ireturn, 1)) rfl ⟨rfl, _, rfl, H⟩
  · have H := H2 hc
    refine r_aloadn h (q := 0) 0 rfl (by decide +kernel : decode cX11_order 8 = .ok (.aload_n 0, 1)) ?_
    refine r_getR h (r := 41) f_Main_43 at1C rfl (by decide) (by decide +kernel : decode cX11_order 9 = .ok (.getfield 43, 3)) ?_
    refine r_getR h (r := 42) f_Main_133 atC_41 rfl (by decide) (by decide +kernel : decode cX11_order 12 = .ok (.getfield 133, 3)) ?_
    refine r_getR h (r := 46) f_Main_158 atC_42 rfl (by decide) (by decide +kernel : decode cX11_order 15 = .ok (.getfield 158, 3)) ?_
    refine r_iloadn h (q := 1) 1 rfl (by decide +kernel : decode cX11_order 18 = .ok (.iload_n 1, 1)) ?_
    obtain ⟨g1, H⟩ := H
    refine r_iald h x1.toNat rfl atC_46 g1 (by decide) (by decide +kernel : decode cX11_order 19 = .ok (.iaload, 1)) ?_
    refine r_goto h 24 (by decide) (by decide +kernel : decode cX11_order 20 = .ok (.goto 4, 3)) ?_
    exact r_iret h rfl (by decide +kernel : decode cX11_order 24 = .ok (.ireturn, 1)) rfl ⟨rfl, _, rfl, H⟩
theorem W_Main_order (x1 : Int) (M : Mm) {P : Int → Mm → Prop} (H : ∃ P1 : Int → Mm → Prop, S_Main_isHouse x1 M P1 ∧ ∀ (r1 : Int) (M1 : Mm), P1 r1 M1 → (rng r1) ∧ (r1 = 0 → (P (-1) M1)) ∧ (r1 ≠ 0 → ((0 ≤ x1 ∧ x1 < 7) ∧ P (M1 46 x1.toNat) M1))) : S_Main_order x1 M P := e_Main_order x1 M (fun _ h => w_Main_order_0 h x1 M H)
set_option maxHeartbeats 4000000 in
set_option maxRecDepth 100000 in
theorem w_Main_undo_0 {P : Int → Mm → Prop} {K : Nat → Rr → Nat → List (Nat × AV) → List AV → Mm → Prop} (h : EK shC yX11_undo cX11_undo 1 (some .boolean) 2 NN NN (QI RRC P) K)  (M : Mm)
    (H : (rng (M 1 11)) ∧ ((M 1 11) ≠ 0 → (∀ M1 : Mm, M1 = (upr M 1 (up1 (M 1) 11 ((M 1 11) - 1))) → ∀ M2 : Mm, M2 = (upr M1 1 (up1 (M1 1) 10 (remI (((M1 1 10) + 16) - 1) 16))) → (0 ≤ (M2 1 10) ∧ (M2 1 10) < 16) ∧ ∃ P3 : Mm → Prop, S_State_copyFrom 42 (121 + 5 * (M2 1 10).toNat) M2 P3 ∧ ∀ M3 : Mm, P3 M3 → P 1 M3)) ∧ ((M 1 11) = 0 → (P 0 M))) :
    K NN RRC 0 [(0, vr 1)] [] M := by
  refine r_aloadn h (q := 0) 0 rfl (by decide +kernel : decode cX11_undo 0 = .ok (.aload_n 0, 1)) ?_
  refine r_getI h f_Main_112 at1C (by decide +kernel : decode cX11_undo 1 = .ok (.getfield 112, 3)) ?_
  obtain ⟨g1, H⟩ := H
  obtain ⟨H1, H2⟩ := H
  refine r_if_ne h 9 g1 (by decide) (by decide +kernel : decode cX11_undo 4 = .ok (.ifCond .ne 5, 3)) (fun hc => ?_) (fun hc => ?_)
  · have H := H1 hc
    refine r_aloadn h (q := 0) 0 rfl (by decide +kernel : decode cX11_undo 9 = .ok (.aload_n 0, 1)) ?_
    refine r_dup h rfl (by decide +kernel : decode cX11_undo 10 = .ok (.dup, 1)) ?_
    refine r_getI h f_Main_112 at1C (by decide +kernel : decode cX11_undo 11 = .ok (.getfield 112, 3)) ?_
    refine r_iconst h (v := 1) (by decide +kernel : decode cX11_undo 14 = .ok (.iconst 1, 1)) ?_
    refine r_isub h (by decide +kernel : decode cX11_undo 15 = .ok (.isub, 1)) ?_
    refine r_putI h f_Main_112 at1C rfl rfl (by decide +kernel : decode cX11_undo 16 = .ok (.putfield 112, 3)) ?_
    have H := H _ rfl
    revert H
    generalize (upr M 1 (up1 (M 1) 11 ((M 1 11) - 1))) = M1
    intro H
    refine r_aloadn h (q := 0) 0 rfl (by decide +kernel : decode cX11_undo 19 = .ok (.aload_n 0, 1)) ?_
    refine r_aloadn h (q := 0) 0 rfl (by decide +kernel : decode cX11_undo 20 = .ok (.aload_n 0, 1)) ?_
    refine r_getI h f_Main_210 at1C (by decide +kernel : decode cX11_undo 21 = .ok (.getfield 210, 3)) ?_
    refine r_bipush h (v := 16) (by decide) (by decide +kernel : decode cX11_undo 24 = .ok (.bipush 16, 2)) ?_
    refine r_iadd h (by decide +kernel : decode cX11_undo 26 = .ok (.iadd, 1)) ?_
    refine r_iconst h (v := 1) (by decide +kernel : decode cX11_undo 27 = .ok (.iconst 1, 1)) ?_
    refine r_isub h (by decide +kernel : decode cX11_undo 28 = .ok (.isub, 1)) ?_
    refine r_bipush h (v := 16) (by decide) (by decide +kernel : decode cX11_undo 29 = .ok (.bipush 16, 2)) ?_
    refine r_irem h (by decide) (by decide) (by decide +kernel : decode cX11_undo 31 = .ok (.irem, 1)) ?_
    refine r_putI h f_Main_210 at1C rfl rfl (by decide +kernel : decode cX11_undo 32 = .ok (.putfield 210, 3)) ?_
    have H := H _ rfl
    revert H
    generalize (upr M1 1 (up1 (M1 1) 10 (remI (((M1 1 10) + 16) - 1) 16))) = M2
    intro H
    refine r_aloadn h (q := 0) 0 rfl (by decide +kernel : decode cX11_undo 35 = .ok (.aload_n 0, 1)) ?_
    refine r_getR h (r := 41) f_Main_43 at1C rfl (by decide) (by decide +kernel : decode cX11_undo 36 = .ok (.getfield 43, 3)) ?_
    refine r_getR h (r := 42) f_Main_133 atC_41 rfl (by decide) (by decide +kernel : decode cX11_undo 39 = .ok (.getfield 133, 3)) ?_
    refine r_aloadn h (q := 0) 0 rfl (by decide +kernel : decode cX11_undo 42 = .ok (.aload_n 0, 1)) ?_
    refine r_getR h (r := 60) f_Main_58 at1C rfl (by decide) (by decide +kernel : decode cX11_undo 43 = .ok (.getfield 58, 3)) ?_
    refine r_aloadn h (q := 0) 0 rfl (by decide +kernel : decode cX11_undo 46 = .ok (.aload_n 0, 1)) ?_
    refine r_getI h f_Main_210 at1C (by decide +kernel : decode cX11_undo 47 = .ok (.getfield 210, 3)) ?_
    obtain ⟨g1, H⟩ := H
    refine r_aald5 h (r := (121 + 5 * (M2 1 10).toNat)) (M2 1 10).toNat rfl atC_60 g1 (by decide) (rra5 _) (by omega) (by decide +kernel : decode cX11_undo 50 = .ok (.aaload, 1)) ?_
    have ga1 := ata5 g1
    obtain ⟨P3, hSP3, H⟩ := H
    refine r_callV h (as := [vr (121 + 5 * (M2 1 10).toNat)]) (S := []) (b := 42) m_Main_213 hSP3 (by decide) (Nat.le_refl _) rfl atC_42 rfl (Nat.le_of_ble_eq_true rfl) (by decide +kernel : decode cX11_undo 51 = .ok (.invokevirtual 213, 3)) ?_
    rintro _ _ M3 ⟨rfl, rfl, hP⟩
    have H := H M3 hP
    show K NN RRC _ _ [] _
    refine r_iconst h (v := 1) (by decide +kernel : decode cX11_undo 54 = .ok (.iconst 1, 1)) ?_
    exact r_zret h rfl (by decide) (by decide +kernel : decode cX11_undo 55 = .ok (.ireturn, 1)) rfl ⟨rfl, _, rfl, H⟩
  · have H := H2 hc
    refine r_iconst h (v := 0) (by decide +kernel : decode cX11_undo 7 = .ok (.iconst 0, 1)) ?_
    exact r_zret h rfl (by decide) (by decide +kernel : decode cX11_undo 8 = .ok (.ireturn, 1)) rfl ⟨rfl, _, rfl, H⟩
theorem W_Main_undo  (M : Mm) {P : Int → Mm → Prop} (H : (rng (M 1 11)) ∧ ((M 1 11) ≠ 0 → (∀ M1 : Mm, M1 = (upr M 1 (up1 (M 1) 11 ((M 1 11) - 1))) → ∀ M2 : Mm, M2 = (upr M1 1 (up1 (M1 1) 10 (remI (((M1 1 10) + 16) - 1) 16))) → (0 ≤ (M2 1 10) ∧ (M2 1 10) < 16) ∧ ∃ P3 : Mm → Prop, S_State_copyFrom 42 (121 + 5 * (M2 1 10).toNat) M2 P3 ∧ ∀ M3 : Mm, P3 M3 → P 1 M3)) ∧ ((M 1 11) = 0 → (P 0 M))) : S_Main_undo  M P := e_Main_undo  M (fun _ h => w_Main_undo_0 h  M H)
set_option maxHeartbeats 4000000 in
set_option maxRecDepth 100000 in
theorem w_Main_see_0 {P : Int → Mm → Prop} {K : Nat → Rr → Nat → List (Nat × AV) → List AV → Mm → Prop} (h : EK shC yX11_see cX11_see 3 (some .boolean) 2 NN NN (QI RRC P) K) (x1 : Int) (x2 : Int) (M : Mm)
    (H : ∃ P1 : Int → Mm → Prop, S_Main_isHouse x1 M P1 ∧ ∀ (r1 : Int) (M1 : Mm), P1 r1 M1 → (rng r1) ∧ (r1 = 0 → (P 0 M1)) ∧ (r1 ≠ 0 → (∃ P2 : Int → Mm → Prop, S_Main_isHouse x2 M1 P2 ∧ ∀ (r2 : Int) (M2 : Mm), P2 r2 M2 → (rng r2) ∧ (r2 = 0 → (P 0 M2)) ∧ (r2 ≠ 0 → ((rng x1) ∧ (rng x2) ∧ (x1 ≠ x2 → (∃ P3 : Int → Mm → Prop, S_Standing_addSeen 41 x1 x2 M2 P3 ∧ ∀ (r3 : Int) (M3 : Mm), P3 r3 M3 → (r3 = 0 ∨ r3 = 1) ∧ P r3 M3)) ∧ (x1 = x2 → (P 0 M2))))))) :
    K NN RRC 0 [(0, vr 1), (1, vi x1), (2, vi x2)] [] M := by
  refine r_aloadn h (q := 0) 0 rfl (by decide +kernel : decode cX11_see 0 = .ok (.aload_n 0, 1)) ?_
  refine r_iloadn h (q := 1) 1 rfl (by decide +kernel : decode cX11_see 1 = .ok (.iload_n 1, 1)) ?_
  obtain ⟨P1, hSP1, H⟩ := H
  refine r_callV h (as := [vi x1]) (S := []) (b := 1) m_Main_125 hSP1 (by decide) (Nat.le_refl _) rfl at1C rfl (Nat.le_of_ble_eq_true rfl) (by decide +kernel : decode cX11_see 2 = .ok (.invokevirtual 125, 3)) ?_
  rintro _ _ M1 ⟨rfl, r1, rfl, hP⟩
  have H := H r1 M1 hP
  show K NN RRC _ _ [vi r1] _
  obtain ⟨g1, H⟩ := H
  obtain ⟨H1, H2⟩ := H
  refine r_if_eq h 21 g1 (by decide) (by decide +kernel : decode cX11_see 5 = .ok (.ifCond .eq 16, 3)) (fun hc => ?_) (fun hc => ?_)
  · have H := H1 hc
    refine r_iconst h (v := 0) (by decide +kernel : decode cX11_see 21 = .ok (.iconst 0, 1)) ?_
    exact r_zret h rfl (by decide) (by decide +kernel : decode cX11_see 22 = .ok (.ireturn, 1)) rfl ⟨rfl, _, rfl, H⟩
  · have H := H2 hc
    refine r_aloadn h (q := 0) 0 rfl (by decide +kernel : decode cX11_see 8 = .ok (.aload_n 0, 1)) ?_
    refine r_iloadn h (q := 2) 2 rfl (by decide +kernel : decode cX11_see 9 = .ok (.iload_n 2, 1)) ?_
    obtain ⟨P2, hSP2, H⟩ := H
    refine r_callV h (as := [vi x2]) (S := []) (b := 1) m_Main_125 hSP2 (by decide) (Nat.le_refl _) rfl at1C rfl (Nat.le_of_ble_eq_true rfl) (by decide +kernel : decode cX11_see 10 = .ok (.invokevirtual 125, 3)) ?_
    rintro _ _ M2 ⟨rfl, r2, rfl, hP⟩
    have H := H r2 M2 hP
    show K NN RRC _ _ [vi r2] _
    obtain ⟨g1, H⟩ := H
    obtain ⟨H1, H2⟩ := H
    refine r_if_eq h 21 g1 (by decide) (by decide +kernel : decode cX11_see 13 = .ok (.ifCond .eq 8, 3)) (fun hc => ?_) (fun hc => ?_)
    · have H := H1 hc
      refine r_iconst h (v := 0) (by decide +kernel : decode cX11_see 21 = .ok (.iconst 0, 1)) ?_
      exact r_zret h rfl (by decide) (by decide +kernel : decode cX11_see 22 = .ok (.ireturn, 1)) rfl ⟨rfl, _, rfl, H⟩
    · have H := H2 hc
      refine r_iloadn h (q := 1) 1 rfl (by decide +kernel : decode cX11_see 16 = .ok (.iload_n 1, 1)) ?_
      refine r_iloadn h (q := 2) 2 rfl (by decide +kernel : decode cX11_see 17 = .ok (.iload_n 2, 1)) ?_
      obtain ⟨g1, g2, H⟩ := H
      obtain ⟨H1, H2⟩ := H
      refine r_icmp_ne h 23 g1 g2 (by decide) (by decide +kernel : decode cX11_see 18 = .ok (.if_icmp .ne 5, 3)) (fun hc => ?_) (fun hc => ?_)
      · have H := H1 hc
        refine r_aloadn h (q := 0) 0 rfl (by decide +kernel : decode cX11_see 23 = .ok (.aload_n 0, 1)) ?_
        refine r_getR h (r := 41) f_Main_43 at1C rfl (by decide) (by decide +kernel : decode cX11_see 24 = .ok (.getfield 43, 3)) ?_
        refine r_iloadn h (q := 1) 1 rfl (by decide +kernel : decode cX11_see 27 = .ok (.iload_n 1, 1)) ?_
        refine r_iloadn h (q := 2) 2 rfl (by decide +kernel : decode cX11_see 28 = .ok (.iload_n 2, 1)) ?_
        obtain ⟨P3, hSP3, H⟩ := H
        refine r_callV h (as := [vi x1, vi x2]) (S := []) (b := 41) m_Main_268 hSP3 (by decide) (Nat.le_refl _) rfl atC_41 rfl (Nat.le_of_ble_eq_true rfl) (by decide +kernel : decode cX11_see 29 = .ok (.invokevirtual 268, 3)) ?_
        rintro _ _ M3 ⟨rfl, r3, rfl, hP⟩
        have H := H r3 M3 hP
        show K NN RRC _ _ [vi r3] _
        exact r_zret h rfl H.1 (by decide +kernel : decode cX11_see 32 = .ok (.ireturn, 1)) rfl ⟨rfl, _, rfl, H.2⟩
      · have H := H2 hc
        refine r_iconst h (v := 0) (by decide +kernel : decode cX11_see 21 = .ok (.iconst 0, 1)) ?_
        exact r_zret h rfl (by decide) (by decide +kernel : decode cX11_see 22 = .ok (.ireturn, 1)) rfl ⟨rfl, _, rfl, H⟩
theorem W_Main_see (x1 : Int) (x2 : Int) (M : Mm) {P : Int → Mm → Prop} (H : ∃ P1 : Int → Mm → Prop, S_Main_isHouse x1 M P1 ∧ ∀ (r1 : Int) (M1 : Mm), P1 r1 M1 → (rng r1) ∧ (r1 = 0 → (P 0 M1)) ∧ (r1 ≠ 0 → (∃ P2 : Int → Mm → Prop, S_Main_isHouse x2 M1 P2 ∧ ∀ (r2 : Int) (M2 : Mm), P2 r2 M2 → (rng r2) ∧ (r2 = 0 → (P 0 M2)) ∧ (r2 ≠ 0 → ((rng x1) ∧ (rng x2) ∧ (x1 ≠ x2 → (∃ P3 : Int → Mm → Prop, S_Standing_addSeen 41 x1 x2 M2 P3 ∧ ∀ (r3 : Int) (M3 : Mm), P3 r3 M3 → (r3 = 0 ∨ r3 = 1) ∧ P r3 M3)) ∧ (x1 = x2 → (P 0 M2))))))) : S_Main_see x1 x2 M P := e_Main_see x1 x2 M (fun _ h => w_Main_see_0 h x1 x2 M H)
set_option maxHeartbeats 4000000 in
set_option maxRecDepth 100000 in
theorem w_Main_feedBytes_0 {P : Mm → Prop} {K : Nat → Rr → Nat → List (Nat × AV) → List AV → Mm → Prop} (h : EK shC yX11_feedBytes cX11_feedBytes 4 none 2 NN NN (QV RRC P) K) (x1 : Int) (M : Mm)
    (H : K NN RRC 3 [(0, vr 1), (1, vl x1), (3, vi 56)] [] M) :
    K NN RRC 0 [(0, vr 1), (1, vl x1)] [] M := by
  refine r_bipush h (v := 56) (by decide) (by decide +kernel : decode cX11_feedBytes 0 = .ok (.bipush 56, 2)) ?_
  refine r_istoren h (q := 3) (L' := [(3, vi 56), (0, vr 1), (1, vl x1)]) (by decide) rfl (by decide +kernel : decode cX11_feedBytes 2 = .ok (.istore_n 3, 1)) ?_
  refine r_drop h [1, 2, 0] rfl ?_
  exact H
set_option maxHeartbeats 4000000 in
set_option maxRecDepth 100000 in
theorem w_Main_feedBytes_3 {P : Mm → Prop} {K : Nat → Rr → Nat → List (Nat × AV) → List AV → Mm → Prop} (h : EK shC yX11_feedBytes cX11_feedBytes 4 none 2 NN NN (QV RRC P) K) (x1 : Int) (x3 : Int) (M : Mm)
    (H : (rng x3) ∧ (x3 < 0 → (P M)) ∧ (¬ (x3 < 0) → (∃ P1 : Mm → Prop, S_Tape_addSign 2 (andI (ushrL x1 x3) 255) M P1 ∧ ∀ M1 : Mm, P1 M1 → K NN RRC 3 [(0, vr 1), (1, vl x1), (3, vi (x3 + (-8)))] [] M1))) :
    K NN RRC 3 [(0, vr 1), (1, vl x1), (3, vi x3)] [] M := by
  refine r_iloadn h (q := 3) 2 rfl (by decide +kernel : decode cX11_feedBytes 3 = .ok (.iload_n 3, 1)) ?_
  obtain ⟨g1, H⟩ := H
  obtain ⟨H1, H2⟩ := H
  refine r_if_lt h 28 g1 (by decide) (by decide +kernel : decode cX11_feedBytes 4 = .ok (.ifCond .lt 24, 3)) (fun hc => ?_) (fun hc => ?_)
  · have H := H1 hc
    exact r_vret h rfl (by decide +kernel : decode cX11_feedBytes 28 = .ok (.return_, 1)) rfl ⟨rfl, rfl, H⟩
  · have H := H2 hc
    refine r_aloadn h (q := 0) 0 rfl (by decide +kernel : decode cX11_feedBytes 7 = .ok (.aload_n 0, 1)) ?_
    refine r_getR h (r := 2) f_Main_10 at1C rfl (by decide) (by decide +kernel : decode cX11_feedBytes 8 = .ok (.getfield 10, 3)) ?_
    refine r_lloadn h (q := 1) 1 rfl (by decide +kernel : decode cX11_feedBytes 11 = .ok (.lload_n 1, 1)) ?_
    refine r_iloadn h (q := 3) 2 rfl (by decide +kernel : decode cX11_feedBytes 12 = .ok (.iload_n 3, 1)) ?_
    refine r_lushr h (by decide +kernel : decode cX11_feedBytes 13 = .ok (.lushr, 1)) ?_
    refine r_l2i h (by decide +kernel : decode cX11_feedBytes 14 = .ok (.l2i, 1)) ?_
    refine r_sipush h (v := 255) (by decide) (by decide +kernel : decode cX11_feedBytes 15 = .ok (.sipush 255, 3)) ?_
    refine r_iand h (by decide +kernel : decode cX11_feedBytes 18 = .ok (.iand, 1)) ?_
    obtain ⟨P1, hSP1, H⟩ := H
    refine r_callV h (as := [vi (andI (ushrL x1 x3) 255)]) (S := []) (b := 2) m_Main_350 hSP1 (by decide) (Nat.le_refl _) rfl atC_2 rfl (Nat.le_of_ble_eq_true rfl) (by decide +kernel : decode cX11_feedBytes 19 = .ok (.invokevirtual 350, 3)) ?_
    rintro _ _ M1 ⟨rfl, rfl, hP⟩
    have H := H M1 hP
    show K NN RRC _ _ [] _
    refine r_iinc h (i := 3) (v := (-8)) (L' := [(3, vi (x3 + (-8))), (0, vr 1), (1, vl x1)]) 2 rfl (by decide) rfl (by decide +kernel : decode cX11_feedBytes 22 = .ok (.iinc 3 (-8), 3)) ?_
    refine r_goto h 3 (by decide) (by decide +kernel : decode cX11_feedBytes 25 = .ok (.goto (-22), 3)) ?_
    refine r_drop h [1, 2, 0] rfl ?_
    exact H
set_option maxHeartbeats 4000000 in
set_option maxRecDepth 100000 in
theorem w_Main_isGoing_0 {P : Int → Mm → Prop} {K : Nat → Rr → Nat → List (Nat × AV) → List AV → Mm → Prop} (h : EK shC yX11_isGoing cX11_isGoing 2 (some .boolean) 2 NN NN (QI RRC P) K) (x1 : Int) (M : Mm)
    (H : ∃ P1 : Int → Mm → Prop, S_Main_isHouse x1 M P1 ∧ ∀ (r1 : Int) (M1 : Mm), P1 r1 M1 → (rng r1) ∧ (r1 = 0 → (P 0 M1)) ∧ (r1 ≠ 0 → (∃ P2 : Int → Mm → Prop, S_State_goes 42 x1 M1 P2 ∧ ∀ (r2 : Int) (M2 : Mm), P2 r2 M2 → (rng r2) ∧ (r2 = 0 → (P 0 M2)) ∧ (r2 ≠ 0 → (P 1 M2))))) :
    K NN RRC 0 [(0, vr 1), (1, vi x1)] [] M := by
  refine r_aloadn h (q := 0) 0 rfl (by decide +kernel : decode cX11_isGoing 0 = .ok (.aload_n 0, 1)) ?_
  refine r_iloadn h (q := 1) 1 rfl (by decide +kernel : decode cX11_isGoing 1 = .ok (.iload_n 1, 1)) ?_
  obtain ⟨P1, hSP1, H⟩ := H
  refine r_callV h (as := [vi x1]) (S := []) (b := 1) m_Main_125 hSP1 (by decide) (Nat.le_refl _) rfl at1C rfl (Nat.le_of_ble_eq_true rfl) (by decide +kernel : decode cX11_isGoing 2 = .ok (.invokevirtual 125, 3)) ?_
  rintro _ _ M1 ⟨rfl, r1, rfl, hP⟩
  have H := H r1 M1 hP
  show K NN RRC _ _ [vi r1] _
  obtain ⟨g1, H⟩ := H
  obtain ⟨H1, H2⟩ := H
  refine r_if_eq h 26 g1 (by decide) (by decide +kernel : decode cX11_isGoing 5 = .ok (.ifCond .eq 21, 3)) (fun hc => ?_) (fun hc => ?_)
  · have H := H1 hc
    refine r_iconst h (v := 0) (by decide +kernel : decode cX11_isGoing 26 = .ok (.iconst 0, 1)) ?_
    exact r_zret h rfl (by decide) (by decide +kernel : decode cX11_isGoing 27 = .ok (.ireturn, 1)) rfl ⟨rfl, _, rfl, H⟩
  · have H := H2 hc
    refine r_aloadn h (q := 0) 0 rfl (by decide +kernel : decode cX11_isGoing 8 = .ok (.aload_n 0, 1)) ?_
    refine r_getR h (r := 41) f_Main_43 at1C rfl (by decide) (by decide +kernel : decode cX11_isGoing 9 = .ok (.getfield 43, 3)) ?_
    refine r_getR h (r := 42) f_Main_133 atC_41 rfl (by decide) (by decide +kernel : decode cX11_isGoing 12 = .ok (.getfield 133, 3)) ?_
    refine r_iloadn h (q := 1) 1 rfl (by decide +kernel : decode cX11_isGoing 15 = .ok (.iload_n 1, 1)) ?_
    obtain ⟨P2, hSP2, H⟩ := H
    refine r_callV h (as := [vi x1]) (S := []) (b := 42) m_Main_148 hSP2 (by decide) (Nat.le_refl _) rfl atC_42 rfl (Nat.le_of_ble_eq_true rfl) (by decide +kernel : decode cX11_isGoing 16 = .ok (.invokevirtual 148, 3)) ?_
    rintro _ _ M2 ⟨rfl, r2, rfl, hP⟩
    have H := H r2 M2 hP
    show K NN RRC _ _ [vi r2] _
    obtain ⟨g1, H⟩ := H
    obtain ⟨H1, H2⟩ := H
    refine r_if_eq h 26 g1 (by decide) (by decide +kernel : decode cX11_isGoing 19 = .ok (.ifCond .eq 7, 3)) (fun hc => ?_) (fun hc => ?_)
    · have H := H1 hc
      refine r_iconst h (v := 0) (by decide +kernel : decode cX11_isGoing 26 = .ok (.iconst 0, 1)) ?_
      exact r_zret h rfl (by decide) (by decide +kernel : decode cX11_isGoing 27 = .ok (.ireturn, 1)) rfl ⟨rfl, _, rfl, H⟩
    · have H := H2 hc
      refine r_iconst h (v := 1) (by decide +kernel : decode cX11_isGoing 22 = .ok (.iconst 1, 1)) ?_
      refine r_goto h 27 (by decide) (by decide +kernel : decode cX11_isGoing 23 = .ok (.goto 4, 3)) ?_
      exact r_zret h rfl (by decide) (by decide +kernel : decode cX11_isGoing 27 = .ok (.ireturn, 1)) rfl ⟨rfl, _, rfl, H⟩
theorem W_Main_isGoing (x1 : Int) (M : Mm) {P : Int → Mm → Prop} (H : ∃ P1 : Int → Mm → Prop, S_Main_isHouse x1 M P1 ∧ ∀ (r1 : Int) (M1 : Mm), P1 r1 M1 → (rng r1) ∧ (r1 = 0 → (P 0 M1)) ∧ (r1 ≠ 0 → (∃ P2 : Int → Mm → Prop, S_State_goes 42 x1 M1 P2 ∧ ∀ (r2 : Int) (M2 : Mm), P2 r2 M2 → (rng r2) ∧ (r2 = 0 → (P 0 M2)) ∧ (r2 ≠ 0 → (P 1 M2))))) : S_Main_isGoing x1 M P := e_Main_isGoing x1 M (fun _ h => w_Main_isGoing_0 h x1 M H)
set_option maxHeartbeats 4000000 in
set_option maxRecDepth 100000 in
theorem w_Main_remember_0 {P : Mm → Prop} {K : Nat → Rr → Nat → List (Nat × AV) → List AV → Mm → Prop} (h : EK shC yX11_remember cX11_remember 1 none 2 NN NN (QV RRC P) K)  (M : Mm)
    (H : (0 ≤ (M 1 10) ∧ (M 1 10) < 16) ∧ ∃ P1 : Mm → Prop, S_State_copyFrom (121 + 5 * (M 1 10).toNat) 42 M P1 ∧ ∀ M1 : Mm, P1 M1 → ∀ M2 : Mm, M2 = (upr M1 1 (up1 (M1 1) 10 (remI ((M1 1 10) + 1) 16))) → (rng ((M2 1 11) + 1)) ∧ ∀ M3 : Mm, M3 = (upr M2 1 (up1 (M2 1) 11 (min ((M2 1 11) + 1) 16))) → P M3) :
    K NN RRC 0 [(0, vr 1)] [] M := by
  refine r_aloadn h (q := 0) 0 rfl (by decide +kernel : decode cX11_remember 0 = .ok (.aload_n 0, 1)) ?_
  refine r_getR h (r := 60) f_Main_58 at1C rfl (by decide) (by decide +kernel : decode cX11_remember 1 = .ok (.getfield 58, 3)) ?_
  refine r_aloadn h (q := 0) 0 rfl (by decide +kernel : decode cX11_remember 4 = .ok (.aload_n 0, 1)) ?_
  refine r_getI h f_Main_210 at1C (by decide +kernel : decode cX11_remember 5 = .ok (.getfield 210, 3)) ?_
  obtain ⟨g1, H⟩ := H
  refine r_aald5 h (r := (121 + 5 * (M 1 10).toNat)) (M 1 10).toNat rfl atC_60 g1 (by decide) (rra5 _) (by omega) (by decide +kernel : decode cX11_remember 8 = .ok (.aaload, 1)) ?_
  have ga1 := ata5 g1
  refine r_aloadn h (q := 0) 0 rfl (by decide +kernel : decode cX11_remember 9 = .ok (.aload_n 0, 1)) ?_
  refine r_getR h (r := 41) f_Main_43 at1C rfl (by decide) (by decide +kernel : decode cX11_remember 10 = .ok (.getfield 43, 3)) ?_
  refine r_getR h (r := 42) f_Main_133 atC_41 rfl (by decide) (by decide +kernel : decode cX11_remember 13 = .ok (.getfield 133, 3)) ?_
  obtain ⟨P1, hSP1, H⟩ := H
  refine r_callV h (as := [vr 42]) (S := []) (b := (121 + 5 * (M 1 10).toNat)) m_Main_213 hSP1 (by decide) (Nat.le_refl _) rfl ga1 rfl (Nat.le_of_ble_eq_true rfl) (by decide +kernel : decode cX11_remember 16 = .ok (.invokevirtual 213, 3)) ?_
  rintro _ _ M1 ⟨rfl, rfl, hP⟩
  have H := H M1 hP
  show K NN RRC _ _ [] _
  refine r_aloadn h (q := 0) 0 rfl (by decide +kernel : decode cX11_remember 19 = .ok (.aload_n 0, 1)) ?_
  refine r_aloadn h (q := 0) 0 rfl (by decide +kernel : decode cX11_remember 20 = .ok (.aload_n 0, 1)) ?_
  refine r_getI h f_Main_210 at1C (by decide +kernel : decode cX11_remember 21 = .ok (.getfield 210, 3)) ?_
  refine r_iconst h (v := 1) (by decide +kernel : decode cX11_remember 24 = .ok (.iconst 1, 1)) ?_
  refine r_iadd h (by decide +kernel : decode cX11_remember 25 = .ok (.iadd, 1)) ?_
  refine r_bipush h (v := 16) (by decide) (by decide +kernel : decode cX11_remember 26 = .ok (.bipush 16, 2)) ?_
  refine r_irem h (by decide) (by decide) (by decide +kernel : decode cX11_remember 28 = .ok (.irem, 1)) ?_
  refine r_putI h f_Main_210 at1C rfl rfl (by decide +kernel : decode cX11_remember 29 = .ok (.putfield 210, 3)) ?_
  have H := H _ rfl
  revert H
  generalize (upr M1 1 (up1 (M1 1) 10 (remI ((M1 1 10) + 1) 16))) = M2
  intro H
  refine r_aloadn h (q := 0) 0 rfl (by decide +kernel : decode cX11_remember 32 = .ok (.aload_n 0, 1)) ?_
  refine r_aloadn h (q := 0) 0 rfl (by decide +kernel : decode cX11_remember 33 = .ok (.aload_n 0, 1)) ?_
  refine r_getI h f_Main_112 at1C (by decide +kernel : decode cX11_remember 34 = .ok (.getfield 112, 3)) ?_
  refine r_iconst h (v := 1) (by decide +kernel : decode cX11_remember 37 = .ok (.iconst 1, 1)) ?_
  refine r_iadd h (by decide +kernel : decode cX11_remember 38 = .ok (.iadd, 1)) ?_
  refine r_bipush h (v := 16) (by decide) (by decide +kernel : decode cX11_remember 39 = .ok (.bipush 16, 2)) ?_
  obtain ⟨g1, H⟩ := H
  refine r_min h g1 (by decide) kM_min_Main (by decide) (Nat.le_refl _) (Nat.le_of_ble_eq_true rfl) (by decide +kernel : decode cX11_remember 41 = .ok (.invokestatic 353, 3)) ?_
  rw [min_if]
  have gm2 : rng (min ((M2 1 11) + 1) 16) := min_rng g1 (by decide)
  refine r_putI h f_Main_112 at1C rfl rfl (by decide +kernel : decode cX11_remember 44 = .ok (.putfield 112, 3)) ?_
  have H := H _ rfl
  revert H
  generalize (upr M2 1 (up1 (M2 1) 11 (min ((M2 1 11) + 1) 16))) = M3
  intro H
  exact r_vret h rfl (by decide +kernel : decode cX11_remember 47 = .ok (.return_, 1)) rfl ⟨rfl, rfl, H⟩
theorem W_Main_remember  (M : Mm) {P : Mm → Prop} (H : (0 ≤ (M 1 10) ∧ (M 1 10) < 16) ∧ ∃ P1 : Mm → Prop, S_State_copyFrom (121 + 5 * (M 1 10).toNat) 42 M P1 ∧ ∀ M1 : Mm, P1 M1 → ∀ M2 : Mm, M2 = (upr M1 1 (up1 (M1 1) 10 (remI ((M1 1 10) + 1) 16))) → (rng ((M2 1 11) + 1)) ∧ ∀ M3 : Mm, M3 = (upr M2 1 (up1 (M2 1) 11 (min ((M2 1 11) + 1) 16))) → P M3) : S_Main_remember  M P := e_Main_remember  M (fun _ h => w_Main_remember_0 h  M H)
set_option maxHeartbeats 4000000 in
set_option maxRecDepth 100000 in
theorem w_Main_goingAsThick_0 {P : Int → Mm → Prop} {K : Nat → Rr → Nat → List (Nat × AV) → List AV → Mm → Prop} (h : EK shC yX11_goingAsThick cX11_goingAsThick 4 (some .int) 2 NN NN (QI RRC P) K) (x1 : Int) (M : Mm)
    (H : K NN RRC 4 [(0, vr 1), (1, vi x1), (2, vi 0), (3, vi 0)] [] M) :
    K NN RRC 0 [(0, vr 1), (1, vi x1)] [] M := by
  refine r_iconst h (v := 0) (by decide +kernel : decode cX11_goingAsThick 0 = .ok (.iconst 0, 1)) ?_
  refine r_istoren h (q := 2) (L' := [(2, vi 0), (0, vr 1), (1, vi x1)]) (by decide) rfl (by decide +kernel : decode cX11_goingAsThick 1 = .ok (.istore_n 2, 1)) ?_
  refine r_iconst h (v := 0) (by decide +kernel : decode cX11_goingAsThick 2 = .ok (.iconst 0, 1)) ?_
  refine r_istoren h (q := 3) (L' := [(3, vi 0), (2, vi 0), (0, vr 1), (1, vi x1)]) (by decide) rfl (by decide +kernel : decode cX11_goingAsThick 3 = .ok (.istore_n 3, 1)) ?_
  refine r_drop h [2, 3, 1, 0] rfl ?_
  exact H
set_option maxHeartbeats 4000000 in
set_option maxRecDepth 100000 in
theorem w_Main_goingAsThick_4 {P : Int → Mm → Prop} {K : Nat → Rr → Nat → List (Nat × AV) → List AV → Mm → Prop} (h : EK shC yX11_goingAsThick cX11_goingAsThick 4 (some .int) 2 NN NN (QI RRC P) K) (x1 : Int) (x2 : Int) (x3 : Int) (M : Mm)
    (H : ∃ t101 : Nat, M 1 1 = (t101 : Int) ∧ At shC NN t101 (.inl 7) ∧ (rng x3) ∧ (rng (M t101 9)) ∧ ((M t101 9) ≤ x3 → (P x2 M)) ∧ (¬ ((M t101 9) ≤ x3) → (∃ P1 : Int → Mm → Prop, S_State_goes 42 x3 M P1 ∧ ∀ (r1 : Int) (M1 : Mm), P1 r1 M1 → (rng r1) ∧ (r1 = 0 → (K NN RRC 4 [(0, vr 1), (1, vi x1), (2, vi x2), (3, vi (x3 + 1))] [] M1)) ∧ (r1 ≠ 0 → ((0 ≤ x3 ∧ x3 < 7) ∧ (rng (M1 43 x3.toNat)) ∧ (rng x1) ∧ ((M1 43 x3.toNat) < x1 → (K NN RRC 4 [(0, vr 1), (1, vi x1), (2, vi x2), (3, vi (x3 + 1))] [] M1)) ∧ (¬ ((M1 43 x3.toNat) < x1) → (K NN RRC 4 [(0, vr 1), (1, vi x1), (2, vi (x2 + 1)), (3, vi (x3 + 1))] [] M1))))))) :
    K NN RRC 4 [(0, vr 1), (1, vi x1), (2, vi x2), (3, vi x3)] [] M := by
  refine r_iloadn h (q := 3) 3 rfl (by decide +kernel : decode cX11_goingAsThick 4 = .ok (.iload_n 3, 1)) ?_
  refine r_aloadn h (q := 0) 0 rfl (by decide +kernel : decode cX11_goingAsThick 5 = .ok (.aload_n 0, 1)) ?_
  obtain ⟨t101, htt101, hat101, H⟩ := H
  refine r_getM h (r := t101) f_Main_19 at1C htt101 hat101.2.1 (by decide +kernel : decode cX11_goingAsThick 6 = .ok (.getfield 19, 3)) ?_
  refine r_getI h f_Main_151 hat101 (by decide +kernel : decode cX11_goingAsThick 9 = .ok (.getfield 151, 3)) ?_
  obtain ⟨g1, g2, H⟩ := H
  obtain ⟨H1, H2⟩ := H
  refine r_icmp_ge h 54 g1 g2 (by decide) (by decide +kernel : decode cX11_goingAsThick 12 = .ok (.if_icmp .ge 42, 3)) (fun hc => ?_) (fun hc => ?_)
  · have H := H1 hc
    refine r_iloadn h (q := 2) 2 rfl (by decide +kernel : decode cX11_goingAsThick 54 = .ok (.iload_n 2, 1)) ?_
    exact r_iret h rfl (by decide +kernel : decode cX11_goingAsThick 55 = .ok (.ireturn, 1)) rfl ⟨rfl, _, rfl, H⟩
  · have H := H2 hc
    refine r_aloadn h (q := 0) 0 rfl (by decide +kernel : decode cX11_goingAsThick 15 = .ok (.aload_n 0, 1)) ?_
    refine r_getR h (r := 41) f_Main_43 at1C rfl (by decide) (by decide +kernel : decode cX11_goingAsThick 16 = .ok (.getfield 43, 3)) ?_
    refine r_getR h (r := 42) f_Main_133 atC_41 rfl (by decide) (by decide +kernel : decode cX11_goingAsThick 19 = .ok (.getfield 133, 3)) ?_
    refine r_iloadn h (q := 3) 3 rfl (by decide +kernel : decode cX11_goingAsThick 22 = .ok (.iload_n 3, 1)) ?_
    obtain ⟨P1, hSP1, H⟩ := H
    refine r_callV h (as := [vi x3]) (S := []) (b := 42) m_Main_148 hSP1 (by decide) (Nat.le_refl _) rfl atC_42 rfl (Nat.le_of_ble_eq_true rfl) (by decide +kernel : decode cX11_goingAsThick 23 = .ok (.invokevirtual 148, 3)) ?_
    rintro _ _ M1 ⟨rfl, r1, rfl, hP⟩
    have H := H r1 M1 hP
    show K NN RRC _ _ [vi r1] _
    obtain ⟨g1, H⟩ := H
    obtain ⟨H1, H2⟩ := H
    refine r_if_eq h 48 g1 (by decide) (by decide +kernel : decode cX11_goingAsThick 26 = .ok (.ifCond .eq 22, 3)) (fun hc => ?_) (fun hc => ?_)
    · have H := H1 hc
      refine r_iinc h (i := 3) (v := 1) (L' := [(3, vi (x3 + 1)), (0, vr 1), (1, vi x1), (2, vi x2)]) 3 rfl (by decide) rfl (by decide +kernel : decode cX11_goingAsThick 48 = .ok (.iinc 3 1, 3)) ?_
      refine r_goto h 4 (by decide) (by decide +kernel : decode cX11_goingAsThick 51 = .ok (.goto (-47), 3)) ?_
      refine r_drop h [1, 2, 3, 0] rfl ?_
      exact H
    · have H := H2 hc
      refine r_aloadn h (q := 0) 0 rfl (by decide +kernel : decode cX11_goingAsThick 29 = .ok (.aload_n 0, 1)) ?_
      refine r_getR h (r := 41) f_Main_43 at1C rfl (by decide) (by decide +kernel : decode cX11_goingAsThick 30 = .ok (.getfield 43, 3)) ?_
      refine r_getR h (r := 42) f_Main_133 atC_41 rfl (by decide) (by decide +kernel : decode cX11_goingAsThick 33 = .ok (.getfield 133, 3)) ?_
      refine r_getR h (r := 43) f_Main_136 atC_42 rfl (by decide) (by decide +kernel : decode cX11_goingAsThick 36 = .ok (.getfield 136, 3)) ?_
      refine r_iloadn h (q := 3) 3 rfl (by decide +kernel : decode cX11_goingAsThick 39 = .ok (.iload_n 3, 1)) ?_
      obtain ⟨g1, H⟩ := H
      refine r_iald h x3.toNat rfl atC_43 g1 (by decide) (by decide +kernel : decode cX11_goingAsThick 40 = .ok (.iaload, 1)) ?_
      refine r_iloadn h (q := 1) 1 rfl (by decide +kernel : decode cX11_goingAsThick 41 = .ok (.iload_n 1, 1)) ?_
      obtain ⟨g1, g2, H⟩ := H
      obtain ⟨H1, H2⟩ := H
      refine r_icmp_lt h 48 g1 g2 (by decide) (by decide +kernel : decode cX11_goingAsThick 42 = .ok (.if_icmp .lt 6, 3)) (fun hc => ?_) (fun hc => ?_)
      · have H := H1 hc
        refine r_iinc h (i := 3) (v := 1) (L' := [(3, vi (x3 + 1)), (0, vr 1), (1, vi x1), (2, vi x2)]) 3 rfl (by decide) rfl (by decide +kernel : decode cX11_goingAsThick 48 = .ok (.iinc 3 1, 3)) ?_
        refine r_goto h 4 (by decide) (by decide +kernel : decode cX11_goingAsThick 51 = .ok (.goto (-47), 3)) ?_
        refine r_drop h [1, 2, 3, 0] rfl ?_
        exact H
      · have H := H2 hc
        refine r_iinc h (i := 2) (v := 1) (L' := [(2, vi (x2 + 1)), (0, vr 1), (1, vi x1), (3, vi x3)]) 2 rfl (by decide) rfl (by decide +kernel : decode cX11_goingAsThick 45 = .ok (.iinc 2 1, 3)) ?_
        refine r_iinc h (i := 3) (v := 1) (L' := [(3, vi (x3 + 1)), (2, vi (x2 + 1)), (0, vr 1), (1, vi x1)]) 3 rfl (by decide) rfl (by decide +kernel : decode cX11_goingAsThick 48 = .ok (.iinc 3 1, 3)) ?_
        refine r_goto h 4 (by decide) (by decide +kernel : decode cX11_goingAsThick 51 = .ok (.goto (-47), 3)) ?_
        refine r_drop h [2, 3, 1, 0] rfl ?_
        exact H
set_option maxHeartbeats 4000000 in
set_option maxRecDepth 100000 in
theorem w_Main_allGoingThickness_0 {P : Int → Mm → Prop} {K : Nat → Rr → Nat → List (Nat × AV) → List AV → Mm → Prop} (h : EK shC yX11_allGoingThickness cX11_allGoingThickness 3 (some .int) 2 NN NN (QI RRC P) K)  (M : Mm)
    (H : K NN RRC 4 [(0, vr 1), (1, vi 0), (2, vi 0)] [] M) :
    K NN RRC 0 [(0, vr 1)] [] M := by
  refine r_iconst h (v := 0) (by decide +kernel : decode cX11_allGoingThickness 0 = .ok (.iconst 0, 1)) ?_
  refine r_istoren h (q := 1) (L' := [(1, vi 0), (0, vr 1)]) (by decide) rfl (by decide +kernel : decode cX11_allGoingThickness 1 = .ok (.istore_n 1, 1)) ?_
  refine r_iconst h (v := 0) (by decide +kernel : decode cX11_allGoingThickness 2 = .ok (.iconst 0, 1)) ?_
  refine r_istoren h (q := 2) (L' := [(2, vi 0), (1, vi 0), (0, vr 1)]) (by decide) rfl (by decide +kernel : decode cX11_allGoingThickness 3 = .ok (.istore_n 2, 1)) ?_
  refine r_drop h [2, 1, 0] rfl ?_
  exact H
set_option maxHeartbeats 4000000 in
set_option maxRecDepth 100000 in
theorem w_Main_allGoingThickness_4 {P : Int → Mm → Prop} {K : Nat → Rr → Nat → List (Nat × AV) → List AV → Mm → Prop} (h : EK shC yX11_allGoingThickness cX11_allGoingThickness 3 (some .int) 2 NN NN (QI RRC P) K) (x1 : Int) (x2 : Int) (M : Mm)
    (H : ∃ t101 : Nat, M 1 1 = (t101 : Int) ∧ At shC NN t101 (.inl 7) ∧ (rng x2) ∧ (rng (M t101 9)) ∧ ((M t101 9) ≤ x2 → (P x1 M)) ∧ (¬ ((M t101 9) ≤ x2) → (∃ P1 : Int → Mm → Prop, S_State_goes 42 x2 M P1 ∧ ∀ (r1 : Int) (M1 : Mm), P1 r1 M1 → (rng r1) ∧ (r1 = 0 → (K NN RRC 4 [(0, vr 1), (1, vi x1), (2, vi (x2 + 1))] [] M1)) ∧ (r1 ≠ 0 → ((0 ≤ x2 ∧ x2 < 7) ∧ K NN RRC 4 [(0, vr 1), (1, vi (x1 + (M1 43 x2.toNat))), (2, vi (x2 + 1))] [] M1))))) :
    K NN RRC 4 [(0, vr 1), (1, vi x1), (2, vi x2)] [] M := by
  refine r_iloadn h (q := 2) 2 rfl (by decide +kernel : decode cX11_allGoingThickness 4 = .ok (.iload_n 2, 1)) ?_
  refine r_aloadn h (q := 0) 0 rfl (by decide +kernel : decode cX11_allGoingThickness 5 = .ok (.aload_n 0, 1)) ?_
  obtain ⟨t101, htt101, hat101, H⟩ := H
  refine r_getM h (r := t101) f_Main_19 at1C htt101 hat101.2.1 (by decide +kernel : decode cX11_allGoingThickness 6 = .ok (.getfield 19, 3)) ?_
  refine r_getI h f_Main_151 hat101 (by decide +kernel : decode cX11_allGoingThickness 9 = .ok (.getfield 151, 3)) ?_
  obtain ⟨g1, g2, H⟩ := H
  obtain ⟨H1, H2⟩ := H
  refine r_icmp_ge h 50 g1 g2 (by decide) (by decide +kernel : decode cX11_allGoingThickness 12 = .ok (.if_icmp .ge 38, 3)) (fun hc => ?_) (fun hc => ?_)
  · have H := H1 hc
    refine r_iloadn h (q := 1) 1 rfl (by decide +kernel : decode cX11_allGoingThickness 50 = .ok (.iload_n 1, 1)) ?_
    exact r_iret h rfl (by decide +kernel : decode cX11_allGoingThickness 51 = .ok (.ireturn, 1)) rfl ⟨rfl, _, rfl, H⟩
  · have H := H2 hc
    refine r_aloadn h (q := 0) 0 rfl (by decide +kernel : decode cX11_allGoingThickness 15 = .ok (.aload_n 0, 1)) ?_
    refine r_getR h (r := 41) f_Main_43 at1C rfl (by decide) (by decide +kernel : decode cX11_allGoingThickness 16 = .ok (.getfield 43, 3)) ?_
    refine r_getR h (r := 42) f_Main_133 atC_41 rfl (by decide) (by decide +kernel : decode cX11_allGoingThickness 19 = .ok (.getfield 133, 3)) ?_
    refine r_iloadn h (q := 2) 2 rfl (by decide +kernel : decode cX11_allGoingThickness 22 = .ok (.iload_n 2, 1)) ?_
    obtain ⟨P1, hSP1, H⟩ := H
    refine r_callV h (as := [vi x2]) (S := []) (b := 42) m_Main_148 hSP1 (by decide) (Nat.le_refl _) rfl atC_42 rfl (Nat.le_of_ble_eq_true rfl) (by decide +kernel : decode cX11_allGoingThickness 23 = .ok (.invokevirtual 148, 3)) ?_
    rintro _ _ M1 ⟨rfl, r1, rfl, hP⟩
    have H := H r1 M1 hP
    show K NN RRC _ _ [vi r1] _
    obtain ⟨g1, H⟩ := H
    obtain ⟨H1, H2⟩ := H
    refine r_if_eq h 44 g1 (by decide) (by decide +kernel : decode cX11_allGoingThickness 26 = .ok (.ifCond .eq 18, 3)) (fun hc => ?_) (fun hc => ?_)
    · have H := H1 hc
      refine r_iinc h (i := 2) (v := 1) (L' := [(2, vi (x2 + 1)), (0, vr 1), (1, vi x1)]) 2 rfl (by decide) rfl (by decide +kernel : decode cX11_allGoingThickness 44 = .ok (.iinc 2 1, 3)) ?_
      refine r_goto h 4 (by decide) (by decide +kernel : decode cX11_allGoingThickness 47 = .ok (.goto (-43), 3)) ?_
      refine r_drop h [1, 2, 0] rfl ?_
      exact H
    · have H := H2 hc
      refine r_iloadn h (q := 1) 1 rfl (by decide +kernel : decode cX11_allGoingThickness 29 = .ok (.iload_n 1, 1)) ?_
      refine r_aloadn h (q := 0) 0 rfl (by decide +kernel : decode cX11_allGoingThickness 30 = .ok (.aload_n 0, 1)) ?_
      refine r_getR h (r := 41) f_Main_43 at1C rfl (by decide) (by decide +kernel : decode cX11_allGoingThickness 31 = .ok (.getfield 43, 3)) ?_
      refine r_getR h (r := 42) f_Main_133 atC_41 rfl (by decide) (by decide +kernel : decode cX11_allGoingThickness 34 = .ok (.getfield 133, 3)) ?_
      refine r_getR h (r := 43) f_Main_136 atC_42 rfl (by decide) (by decide +kernel : decode cX11_allGoingThickness 37 = .ok (.getfield 136, 3)) ?_
      refine r_iloadn h (q := 2) 2 rfl (by decide +kernel : decode cX11_allGoingThickness 40 = .ok (.iload_n 2, 1)) ?_
      obtain ⟨g1, H⟩ := H
      refine r_iald h x2.toNat rfl atC_43 g1 (by decide) (by decide +kernel : decode cX11_allGoingThickness 41 = .ok (.iaload, 1)) ?_
      refine r_iadd h (by decide +kernel : decode cX11_allGoingThickness 42 = .ok (.iadd, 1)) ?_
      refine r_istoren h (q := 1) (L' := [(1, vi (x1 + (M1 43 x2.toNat))), (0, vr 1), (2, vi x2)]) (by decide) rfl (by decide +kernel : decode cX11_allGoingThickness 43 = .ok (.istore_n 1, 1)) ?_
      refine r_iinc h (i := 2) (v := 1) (L' := [(2, vi (x2 + 1)), (1, vi (x1 + (M1 43 x2.toNat))), (0, vr 1)]) 2 rfl (by decide) rfl (by decide +kernel : decode cX11_allGoingThickness 44 = .ok (.iinc 2 1, 3)) ?_
      refine r_goto h 4 (by decide) (by decide +kernel : decode cX11_allGoingThickness 47 = .ok (.goto (-43), 3)) ?_
      refine r_drop h [2, 1, 0] rfl ?_
      exact H
set_option maxHeartbeats 4000000 in
set_option maxRecDepth 100000 in
theorem w_Main_likeliestFind_0 {P : Int → Mm → Prop} {K : Nat → Rr → Nat → List (Nat × AV) → List AV → Mm → Prop} (h : EK shC yX11_likeliestFind cX11_likeliestFind 5 (some .int) 2 NN NN (QI RRC P) K) (x1 : Int) (M : Mm)
    (H : K NN RRC 4 [(0, vr 1), (1, vi x1), (2, vi (-1)), (3, vi 0)] [] M) :
    K NN RRC 0 [(0, vr 1), (1, vi x1)] [] M := by
  refine r_iconst h (v := (-1)) (by decide +kernel : decode cX11_likeliestFind 0 = .ok (.iconst (-1), 1)) ?_
  refine r_istoren h (q := 2) (L' := [(2, vi (-1)), (0, vr 1), (1, vi x1)]) (by decide) rfl (by decide +kernel : decode cX11_likeliestFind 1 = .ok (.istore_n 2, 1)) ?_
  refine r_iconst h (v := 0) (by decide +kernel : decode cX11_likeliestFind 2 = .ok (.iconst 0, 1)) ?_
  refine r_istoren h (q := 3) (L' := [(3, vi 0), (2, vi (-1)), (0, vr 1), (1, vi x1)]) (by decide) rfl (by decide +kernel : decode cX11_likeliestFind 3 = .ok (.istore_n 3, 1)) ?_
  refine r_drop h [2, 3, 1, 0] rfl ?_
  exact H
set_option maxHeartbeats 4000000 in
set_option maxRecDepth 100000 in
theorem w_Main_likeliestFind_4 {P : Int → Mm → Prop} {K : Nat → Rr → Nat → List (Nat × AV) → List AV → Mm → Prop} (h : EK shC yX11_likeliestFind cX11_likeliestFind 5 (some .int) 2 NN NN (QI RRC P) K) (x1 : Int) (x2 : Int) (x3 : Int) (M : Mm)
    (H : ∃ t101 : Nat, M 1 1 = (t101 : Int) ∧ At shC NN t101 (.inl 7) ∧ (rng x3) ∧ (rng (M t101 9)) ∧ ((M t101 9) ≤ x3 → (P x2 M)) ∧ (¬ ((M t101 9) ≤ x3) → ((rng x2) ∧ (x2 = (-1) → (K NN RRC 47 [(0, vr 1), (1, vi x1), (2, vi x2), (3, vi x3)] [vi 1] M)) ∧ (x2 ≠ (-1) → ((0 ≤ x3 ∧ x3 < 7) ∧ (rng x1) ∧ (0 ≤ x2 ∧ x2 < 7) ∧ (rng x1) ∧ (rngL ((M 72 x3.toNat) * x1)) ∧ (rngL ((M 72 x2.toNat) * x1)) ∧ ((cmpL ((M 72 x3.toNat) * x1) ((M 72 x2.toNat) * x1)) ≤ 0 → (K NN RRC 47 [(0, vr 1), (1, vi x1), (2, vi x2), (3, vi x3)] [vi 0] M)) ∧ (¬ ((cmpL ((M 72 x3.toNat) * x1) ((M 72 x2.toNat) * x1)) ≤ 0) → (K NN RRC 47 [(0, vr 1), (1, vi x1), (2, vi x2), (3, vi x3)] [vi 1] M))))))) :
    K NN RRC 4 [(0, vr 1), (1, vi x1), (2, vi x2), (3, vi x3)] [] M := by
  refine r_iloadn h (q := 3) 3 rfl (by decide +kernel : decode cX11_likeliestFind 4 = .ok (.iload_n 3, 1)) ?_
  refine r_aloadn h (q := 0) 0 rfl (by decide +kernel : decode cX11_likeliestFind 5 = .ok (.aload_n 0, 1)) ?_
  obtain ⟨t101, htt101, hat101, H⟩ := H
  refine r_getM h (r := t101) f_Main_19 at1C htt101 hat101.2.1 (by decide +kernel : decode cX11_likeliestFind 6 = .ok (.getfield 19, 3)) ?_
  refine r_getI h f_Main_151 hat101 (by decide +kernel : decode cX11_likeliestFind 9 = .ok (.getfield 151, 3)) ?_
  obtain ⟨g1, g2, H⟩ := H
  obtain ⟨H1, H2⟩ := H
  refine r_icmp_ge h 76 g1 g2 (by decide) (by decide +kernel : decode cX11_likeliestFind 12 = .ok (.if_icmp .ge 64, 3)) (fun hc => ?_) (fun hc => ?_)
  · have H := H1 hc
    refine r_iloadn h (q := 2) 2 rfl (by decide +kernel : decode cX11_likeliestFind 76 = .ok (.iload_n 2, 1)) ?_
    exact r_iret h rfl (by decide +kernel : decode cX11_likeliestFind 77 = .ok (.ireturn, 1)) rfl ⟨rfl, _, rfl, H⟩
  · have H := H2 hc
    refine r_iloadn h (q := 2) 2 rfl (by decide +kernel : decode cX11_likeliestFind 15 = .ok (.iload_n 2, 1)) ?_
    refine r_iconst h (v := (-1)) (by decide +kernel : decode cX11_likeliestFind 16 = .ok (.iconst (-1), 1)) ?_
    obtain ⟨g1, H⟩ := H
    obtain ⟨H1, H2⟩ := H
    refine r_icmp_eq h 42 g1 (by decide) (by decide) (by decide +kernel : decode cX11_likeliestFind 17 = .ok (.if_icmp .eq 25, 3)) (fun hc => ?_) (fun hc => ?_)
    · have H := H1 hc
      refine r_iconst h (v := 1) (by decide +kernel : decode cX11_likeliestFind 42 = .ok (.iconst 1, 1)) ?_
      refine r_goto h 47 (by decide) (by decide +kernel : decode cX11_likeliestFind 43 = .ok (.goto 4, 3)) ?_
      exact H
    · have H := H2 hc
      refine r_aloadn h (q := 0) 0 rfl (by decide +kernel : decode cX11_likeliestFind 20 = .ok (.aload_n 0, 1)) ?_
      refine r_getR h (r := 72) f_Main_83 at1C rfl (by decide) (by decide +kernel : decode cX11_likeliestFind 21 = .ok (.getfield 83, 3)) ?_
      refine r_iloadn h (q := 3) 3 rfl (by decide +kernel : decode cX11_likeliestFind 24 = .ok (.iload_n 3, 1)) ?_
      obtain ⟨g1, H⟩ := H
      refine r_lald h x3.toNat rfl atC_72 g1 (by decide) (by decide +kernel : decode cX11_likeliestFind 25 = .ok (.laload, 1)) ?_
      refine r_iloadn h (q := 1) 1 rfl (by decide +kernel : decode cX11_likeliestFind 26 = .ok (.iload_n 1, 1)) ?_
      obtain ⟨g1, H⟩ := H
      refine r_i2l h g1 (by decide +kernel : decode cX11_likeliestFind 27 = .ok (.i2l, 1)) ?_
      refine r_lmul h (by decide +kernel : decode cX11_likeliestFind 28 = .ok (.lmul, 1)) ?_
      refine r_aloadn h (q := 0) 0 rfl (by decide +kernel : decode cX11_likeliestFind 29 = .ok (.aload_n 0, 1)) ?_
      refine r_getR h (r := 72) f_Main_83 at1C rfl (by decide) (by decide +kernel : decode cX11_likeliestFind 30 = .ok (.getfield 83, 3)) ?_
      refine r_iloadn h (q := 2) 2 rfl (by decide +kernel : decode cX11_likeliestFind 33 = .ok (.iload_n 2, 1)) ?_
      obtain ⟨g1, H⟩ := H
      refine r_lald h x2.toNat rfl atC_72 g1 (by decide) (by decide +kernel : decode cX11_likeliestFind 34 = .ok (.laload, 1)) ?_
      refine r_iloadn h (q := 1) 1 rfl (by decide +kernel : decode cX11_likeliestFind 35 = .ok (.iload_n 1, 1)) ?_
      obtain ⟨g1, H⟩ := H
      refine r_i2l h g1 (by decide +kernel : decode cX11_likeliestFind 36 = .ok (.i2l, 1)) ?_
      refine r_lmul h (by decide +kernel : decode cX11_likeliestFind 37 = .ok (.lmul, 1)) ?_
      obtain ⟨g1, g2, H⟩ := H
      refine r_lcmp h g1 g2 (by decide +kernel : decode cX11_likeliestFind 38 = .ok (.lcmp, 1)) ?_
      obtain ⟨H1, H2⟩ := H
      refine r_if_le h 46 (rng_cmpL _ _) (by decide) (by decide +kernel : decode cX11_likeliestFind 39 = .ok (.ifCond .le 7, 3)) (fun hc => ?_) (fun hc => ?_)
      · have H := H1 hc
        refine r_iconst h (v := 0) (by decide +kernel : decode cX11_likeliestFind 46 = .ok (.iconst 0, 1)) ?_
        exact H
      · have H := H2 hc
        refine r_iconst h (v := 1) (by decide +kernel : decode cX11_likeliestFind 42 = .ok (.iconst 1, 1)) ?_
        refine r_goto h 47 (by decide) (by decide +kernel : decode cX11_likeliestFind 43 = .ok (.goto 4, 3)) ?_
        exact H
set_option maxHeartbeats 4000000 in
set_option maxRecDepth 100000 in
theorem w_Main_likeliestFind_47 {P : Int → Mm → Prop} {K : Nat → Rr → Nat → List (Nat × AV) → List AV → Mm → Prop} (h : EK shC yX11_likeliestFind cX11_likeliestFind 5 (some .int) 2 NN NN (QI RRC P) K) (x1 : Int) (x2 : Int) (x3 : Int) (s0 : Int) (M : Mm)
    (H : ∃ P1 : Int → Mm → Prop, S_State_goes 42 x3 M P1 ∧ ∀ (r1 : Int) (M1 : Mm), P1 r1 M1 → (rng r1) ∧ (r1 = 0 → (K NN RRC 4 [(0, vr 1), (1, vi x1), (2, vi x2), (3, vi (x3 + 1))] [] M1)) ∧ (r1 ≠ 0 → ((rng s0) ∧ (s0 = 0 → (K NN RRC 4 [(0, vr 1), (1, vi x1), (2, vi x2), (3, vi (x3 + 1))] [] M1)) ∧ (s0 ≠ 0 → (K NN RRC 4 [(0, vr 1), (1, vi x1), (2, vi x3), (3, vi (x3 + 1))] [] M1))))) :
    K NN RRC 47 [(0, vr 1), (1, vi x1), (2, vi x2), (3, vi x3)] [vi s0] M := by
  refine r_istore h (L' := [(4, vi s0), (0, vr 1), (1, vi x1), (2, vi x2), (3, vi x3)]) (by decide) rfl (by decide +kernel : decode cX11_likeliestFind 47 = .ok (.istore 4, 2)) ?_
  refine r_aloadn h (q := 0) 1 rfl (by decide +kernel : decode cX11_likeliestFind 49 = .ok (.aload_n 0, 1)) ?_
  refine r_getR h (r := 41) f_Main_43 at1C rfl (by decide) (by decide +kernel : decode cX11_likeliestFind 50 = .ok (.getfield 43, 3)) ?_
  refine r_getR h (r := 42) f_Main_133 atC_41 rfl (by decide) (by decide +kernel : decode cX11_likeliestFind 53 = .ok (.getfield 133, 3)) ?_
  refine r_iloadn h (q := 3) 4 rfl (by decide +kernel : decode cX11_likeliestFind 56 = .ok (.iload_n 3, 1)) ?_
  obtain ⟨P1, hSP1, H⟩ := H
  refine r_callV h (as := [vi x3]) (S := []) (b := 42) m_Main_148 hSP1 (by decide) (Nat.le_refl _) rfl atC_42 rfl (Nat.le_of_ble_eq_true rfl) (by decide +kernel : decode cX11_likeliestFind 57 = .ok (.invokevirtual 148, 3)) ?_
  rintro _ _ M1 ⟨rfl, r1, rfl, hP⟩
  have H := H r1 M1 hP
  show K NN RRC _ _ [vi r1] _
  obtain ⟨g1, H⟩ := H
  obtain ⟨H1, H2⟩ := H
  refine r_if_eq h 70 g1 (by decide) (by decide +kernel : decode cX11_likeliestFind 60 = .ok (.ifCond .eq 10, 3)) (fun hc => ?_) (fun hc => ?_)
  · have H := H1 hc
    refine r_iinc h (i := 3) (v := 1) (L' := [(3, vi (x3 + 1)), (4, vi s0), (0, vr 1), (1, vi x1), (2, vi x2)]) 4 rfl (by decide) rfl (by decide +kernel : decode cX11_likeliestFind 70 = .ok (.iinc 3 1, 3)) ?_
    refine r_goto h 4 (by decide) (by decide +kernel : decode cX11_likeliestFind 73 = .ok (.goto (-69), 3)) ?_
    refine r_drop h [2, 3, 4, 0] rfl ?_
    exact H
  · have H := H2 hc
    refine r_iload h 0 rfl (by decide +kernel : decode cX11_likeliestFind 63 = .ok (.iload 4, 2)) ?_
    obtain ⟨g1, H⟩ := H
    obtain ⟨H1, H2⟩ := H
    refine r_if_eq h 70 g1 (by decide) (by decide +kernel : decode cX11_likeliestFind 65 = .ok (.ifCond .eq 5, 3)) (fun hc => ?_) (fun hc => ?_)
    · have H := H1 hc
      refine r_iinc h (i := 3) (v := 1) (L' := [(3, vi (x3 + 1)), (4, vi s0), (0, vr 1), (1, vi x1), (2, vi x2)]) 4 rfl (by decide) rfl (by decide +kernel : decode cX11_likeliestFind 70 = .ok (.iinc 3 1, 3)) ?_
      refine r_goto h 4 (by decide) (by decide +kernel : decode cX11_likeliestFind 73 = .ok (.goto (-69), 3)) ?_
      refine r_drop h [2, 3, 4, 0] rfl ?_
      exact H
    · have H := H2 hc
      refine r_iloadn h (q := 3) 4 rfl (by decide +kernel : decode cX11_likeliestFind 68 = .ok (.iload_n 3, 1)) ?_
      refine r_istoren h (q := 2) (L' := [(2, vi x3), (4, vi s0), (0, vr 1), (1, vi x1), (3, vi x3)]) (by decide) rfl (by decide +kernel : decode cX11_likeliestFind 69 = .ok (.istore_n 2, 1)) ?_
      refine r_iinc h (i := 3) (v := 1) (L' := [(3, vi (x3 + 1)), (2, vi x3), (4, vi s0), (0, vr 1), (1, vi x1)]) 4 rfl (by decide) rfl (by decide +kernel : decode cX11_likeliestFind 70 = .ok (.iinc 3 1, 3)) ?_
      refine r_goto h 4 (by decide) (by decide +kernel : decode cX11_likeliestFind 73 = .ok (.goto (-69), 3)) ?_
      refine r_drop h [3, 4, 1, 0] rfl ?_
      exact H
set_option maxHeartbeats 4000000 in
set_option maxRecDepth 100000 in
theorem w_Main_isRest_0 {P : Int → Mm → Prop} {K : Nat → Rr → Nat → List (Nat × AV) → List AV → Mm → Prop} (h : EK shC yX11_isRest cX11_isRest 7 (some .boolean) 2 NN NN (QI RRC P) K) (x0 : Int) (x1 : Int) (x2 : Int) (x3 : Int) (M : Mm)
    (H : ∃ P1 : Int → Mm → Prop, S_Main_gainOfFirst x0 x2 x3 M P1 ∧ ∀ (r1 : Int) (M1 : Mm), P1 r1 M1 → ∃ P2 : Int → Mm → Prop, S_Main_gainOfOther x1 x2 x3 M1 P2 ∧ ∀ (r2 : Int) (M2 : Mm), P2 r2 M2 → K NN RRC 19 [(0, vi x0), (1, vi x1), (2, vi x2), (3, vi x3), (4, vi r1), (5, vi r2), (6, vi 0)] [] M2) :
    K NN RRC 0 [(0, vi x0), (1, vi x1), (2, vi x2), (3, vi x3)] [] M := by
  refine r_iloadn h (q := 0) 0 rfl (by decide +kernel : decode cX11_isRest 0 = .ok (.iload_n 0, 1)) ?_
  refine r_iloadn h (q := 2) 2 rfl (by decide +kernel : decode cX11_isRest 1 = .ok (.iload_n 2, 1)) ?_
  refine r_iloadn h (q := 3) 3 rfl (by decide +kernel : decode cX11_isRest 2 = .ok (.iload_n 3, 1)) ?_
  obtain ⟨P1, hSP1, H⟩ := H
  refine r_callS h (as := [vi x0, vi x2, vi x3]) (S := []) m_Main_362 hSP1 (by decide) (Nat.le_refl _) rfl rfl (Nat.le_of_ble_eq_true rfl) (by decide +kernel : decode cX11_isRest 3 = .ok (.invokestatic 362, 3)) ?_
  rintro _ _ M1 ⟨rfl, r1, rfl, hP⟩
  have H := H r1 M1 hP
  show K NN RRC _ _ [vi r1] _
  refine r_istore h (L' := [(4, vi r1), (0, vi x0), (1, vi x1), (2, vi x2), (3, vi x3)]) (by decide) rfl (by decide +kernel : decode cX11_isRest 6 = .ok (.istore 4, 2)) ?_
  refine r_iloadn h (q := 1) 2 rfl (by decide +kernel : decode cX11_isRest 8 = .ok (.iload_n 1, 1)) ?_
  refine r_iloadn h (q := 2) 3 rfl (by decide +kernel : decode cX11_isRest 9 = .ok (.iload_n 2, 1)) ?_
  refine r_iloadn h (q := 3) 4 rfl (by decide +kernel : decode cX11_isRest 10 = .ok (.iload_n 3, 1)) ?_
  obtain ⟨P2, hSP2, H⟩ := H
  refine r_callS h (as := [vi x1, vi x2, vi x3]) (S := []) m_Main_366 hSP2 (by decide) (Nat.le_refl _) rfl rfl (Nat.le_of_ble_eq_true rfl) (by decide +kernel : decode cX11_isRest 11 = .ok (.invokestatic 366, 3)) ?_
  rintro _ _ M2 ⟨rfl, r2, rfl, hP⟩
  have H := H r2 M2 hP
  show K NN RRC _ _ [vi r2] _
  refine r_istore h (L' := [(5, vi r2), (4, vi r1), (0, vi x0), (1, vi x1), (2, vi x2), (3, vi x3)]) (by decide) rfl (by decide +kernel : decode cX11_isRest 14 = .ok (.istore 5, 2)) ?_
  refine r_iconst h (v := 0) (by decide +kernel : decode cX11_isRest 16 = .ok (.iconst 0, 1)) ?_
  refine r_istore h (L' := [(6, vi 0), (5, vi r2), (4, vi r1), (0, vi x0), (1, vi x1), (2, vi x2), (3, vi x3)]) (by decide) rfl (by decide +kernel : decode cX11_isRest 17 = .ok (.istore 6, 2)) ?_
  refine r_drop h [3, 4, 5, 6, 2, 1, 0] rfl ?_
  exact H
set_option maxHeartbeats 4000000 in
set_option maxRecDepth 100000 in
theorem w_Main_isRest_19 {P : Int → Mm → Prop} {K : Nat → Rr → Nat → List (Nat × AV) → List AV → Mm → Prop} (h : EK shC yX11_isRest cX11_isRest 7 (some .boolean) 2 NN NN (QI RRC P) K) (x0 : Int) (x1 : Int) (x2 : Int) (x3 : Int) (x4 : Int) (x5 : Int) (x6 : Int) (M : Mm)
    (H : (rng x6) ∧ (9 < x6 → (P 1 M)) ∧ (¬ (9 < x6) → (∃ P1 : Int → Mm → Prop, S_Main_gainOfFirst x0 x6 x3 M P1 ∧ ∀ (r1 : Int) (M1 : Mm), P1 r1 M1 → (rng r1) ∧ (rng x4) ∧ (x4 < r1 → (P 0 M1)) ∧ (¬ (x4 < r1) → (∃ P2 : Int → Mm → Prop, S_Main_gainOfOther x1 x2 x6 M1 P2 ∧ ∀ (r2 : Int) (M2 : Mm), P2 r2 M2 → (rng r2) ∧ (rng x5) ∧ (r2 ≤ x5 → (K NN RRC 19 [(0, vi x0), (1, vi x1), (2, vi x2), (3, vi x3), (4, vi x4), (5, vi x5), (6, vi (x6 + 1))] [] M2)) ∧ (¬ (r2 ≤ x5) → (P 0 M2))))))) :
    K NN RRC 19 [(0, vi x0), (1, vi x1), (2, vi x2), (3, vi x3), (4, vi x4), (5, vi x5), (6, vi x6)] [] M := by
  refine r_iload h 6 rfl (by decide +kernel : decode cX11_isRest 19 = .ok (.iload 6, 2)) ?_
  refine r_bipush h (v := 9) (by decide) (by decide +kernel : decode cX11_isRest 21 = .ok (.bipush 9, 2)) ?_
  obtain ⟨g1, H⟩ := H
  obtain ⟨H1, H2⟩ := H
  refine r_icmp_gt h 58 g1 (by decide) (by decide) (by decide +kernel : decode cX11_isRest 23 = .ok (.if_icmp .gt 35, 3)) (fun hc => ?_) (fun hc => ?_)
  · have H := H1 hc
    refine r_iconst h (v := 1) (by decide +kernel : decode cX11_isRest 58 = .ok (.iconst 1, 1)) ?_
    exact r_zret h rfl (by decide) (by decide +kernel : decode cX11_isRest 59 = .ok (.ireturn, 1)) rfl ⟨rfl, _, rfl, H⟩
  · have H := H2 hc
    refine r_iloadn h (q := 0) 0 rfl (by decide +kernel : decode cX11_isRest 26 = .ok (.iload_n 0, 1)) ?_
    refine r_iload h 6 rfl (by decide +kernel : decode cX11_isRest 27 = .ok (.iload 6, 2)) ?_
    refine r_iloadn h (q := 3) 3 rfl (by decide +kernel : decode cX11_isRest 29 = .ok (.iload_n 3, 1)) ?_
    obtain ⟨P1, hSP1, H⟩ := H
    refine r_callS h (as := [vi x0, vi x6, vi x3]) (S := []) m_Main_362 hSP1 (by decide) (Nat.le_refl _) rfl rfl (Nat.le_of_ble_eq_true rfl) (by decide +kernel : decode cX11_isRest 30 = .ok (.invokestatic 362, 3)) ?_
    rintro _ _ M1 ⟨rfl, r1, rfl, hP⟩
    have H := H r1 M1 hP
    show K NN RRC _ _ [vi r1] _
    refine r_iload h 4 rfl (by decide +kernel : decode cX11_isRest 33 = .ok (.iload 4, 2)) ?_
    obtain ⟨g1, g2, H⟩ := H
    obtain ⟨H1, H2⟩ := H
    refine r_icmp_gt h 50 g1 g2 (by decide) (by decide +kernel : decode cX11_isRest 35 = .ok (.if_icmp .gt 15, 3)) (fun hc => ?_) (fun hc => ?_)
    · have H := H1 hc
      refine r_iconst h (v := 0) (by decide +kernel : decode cX11_isRest 50 = .ok (.iconst 0, 1)) ?_
      exact r_zret h rfl (by decide) (by decide +kernel : decode cX11_isRest 51 = .ok (.ireturn, 1)) rfl ⟨rfl, _, rfl, H⟩
    · have H := H2 hc
      refine r_iloadn h (q := 1) 1 rfl (by decide +kernel : decode cX11_isRest 38 = .ok (.iload_n 1, 1)) ?_
      refine r_iloadn h (q := 2) 2 rfl (by decide +kernel : decode cX11_isRest 39 = .ok (.iload_n 2, 1)) ?_
      refine r_iload h 6 rfl (by decide +kernel : decode cX11_isRest 40 = .ok (.iload 6, 2)) ?_
      obtain ⟨P2, hSP2, H⟩ := H
      refine r_callS h (as := [vi x1, vi x2, vi x6]) (S := []) m_Main_366 hSP2 (by decide) (Nat.le_refl _) rfl rfl (Nat.le_of_ble_eq_true rfl) (by decide +kernel : decode cX11_isRest 42 = .ok (.invokestatic 366, 3)) ?_
      rintro _ _ M2 ⟨rfl, r2, rfl, hP⟩
      have H := H r2 M2 hP
      show K NN RRC _ _ [vi r2] _
      refine r_iload h 5 rfl (by decide +kernel : decode cX11_isRest 45 = .ok (.iload 5, 2)) ?_
      obtain ⟨g1, g2, H⟩ := H
      obtain ⟨H1, H2⟩ := H
      refine r_icmp_le h 52 g1 g2 (by decide) (by decide +kernel : decode cX11_isRest 47 = .ok (.if_icmp .le 5, 3)) (fun hc => ?_) (fun hc => ?_)
      · have H := H1 hc
        refine r_iinc h (i := 6) (v := 1) (L' := [(6, vi (x6 + 1)), (0, vi x0), (1, vi x1), (2, vi x2), (3, vi x3), (4, vi x4), (5, vi x5)]) 6 rfl (by decide) rfl (by decide +kernel : decode cX11_isRest 52 = .ok (.iinc 6 1, 3)) ?_
        refine r_goto h 19 (by decide) (by decide +kernel : decode cX11_isRest 55 = .ok (.goto (-36), 3)) ?_
        refine r_drop h [1, 2, 3, 4, 5, 6, 0] rfl ?_
        exact H
      · have H := H2 hc
        refine r_iconst h (v := 0) (by decide +kernel : decode cX11_isRest 50 = .ok (.iconst 0, 1)) ?_
        exact r_zret h rfl (by decide) (by decide +kernel : decode cX11_isRest 51 = .ok (.ireturn, 1)) rfl ⟨rfl, _, rfl, H⟩
set_option maxHeartbeats 4000000 in
set_option maxRecDepth 100000 in
theorem w_Main_feed_0 {P : Int → Mm → Prop} {K : Nat → Rr → Nat → List (Nat × AV) → List AV → Mm → Prop} (h : EK shC yX11_feed cX11_feed 7 (some .int) 3 NN NN (QI RRC P) K) (x1 : Int) (x3 : Int) (x5 : Int) (M : Mm)
    (H : ∃ P1 : Mm → Prop, S_Main_feedBytes x1 M P1 ∧ ∀ M1 : Mm, P1 M1 → ∃ P2 : Mm → Prop, S_Main_feedBytes x3 M1 P2 ∧ ∀ M2 : Mm, P2 M2 → ∃ P3 : Mm → Prop, S_Main_feedBytes x5 M2 P3 ∧ ∀ M3 : Mm, P3 M3 → P (M3 2 1) M3) :
    K NN RRC 0 [(0, vr 1), (1, vl x1), (3, vl x3), (5, vl x5)] [] M := by
  refine r_aloadn h (q := 0) 0 rfl (by decide +kernel : decode cX11_feed 0 = .ok (.aload_n 0, 1)) ?_
  refine r_lloadn h (q := 1) 1 rfl (by decide +kernel : decode cX11_feed 1 = .ok (.lload_n 1, 1)) ?_
  obtain ⟨P1, hSP1, H⟩ := H
  refine r_callV h (as := [vl x1]) (S := []) (b := 1) m_Main_94 hSP1 (by decide) (Nat.le_refl _) rfl at1C rfl (Nat.le_of_ble_eq_true rfl) (by decide +kernel : decode cX11_feed 2 = .ok (.invokevirtual 94, 3)) ?_
  rintro _ _ M1 ⟨rfl, rfl, hP⟩
  have H := H M1 hP
  show K NN RRC _ _ [] _
  refine r_aloadn h (q := 0) 0 rfl (by decide +kernel : decode cX11_feed 5 = .ok (.aload_n 0, 1)) ?_
  refine r_lloadn h (q := 3) 2 rfl (by decide +kernel : decode cX11_feed 6 = .ok (.lload_n 3, 1)) ?_
  obtain ⟨P2, hSP2, H⟩ := H
  refine r_callV h (as := [vl x3]) (S := []) (b := 1) m_Main_94 hSP2 (by decide) (Nat.le_refl _) rfl at1C rfl (Nat.le_of_ble_eq_true rfl) (by decide +kernel : decode cX11_feed 7 = .ok (.invokevirtual 94, 3)) ?_
  rintro _ _ M2 ⟨rfl, rfl, hP⟩
  have H := H M2 hP
  show K NN RRC _ _ [] _
  refine r_aloadn h (q := 0) 0 rfl (by decide +kernel : decode cX11_feed 10 = .ok (.aload_n 0, 1)) ?_
  refine r_lload h 3 rfl (by decide +kernel : decode cX11_feed 11 = .ok (.lload 5, 2)) ?_
  obtain ⟨P3, hSP3, H⟩ := H
  refine r_callV h (as := [vl x5]) (S := []) (b := 1) m_Main_94 hSP3 (by decide) (Nat.le_refl _) rfl at1C rfl (Nat.le_of_ble_eq_true rfl) (by decide +kernel : decode cX11_feed 13 = .ok (.invokevirtual 94, 3)) ?_
  rintro _ _ M3 ⟨rfl, rfl, hP⟩
  have H := H M3 hP
  show K NN RRC _ _ [] _
  refine r_aloadn h (q := 0) 0 rfl (by decide +kernel : decode cX11_feed 16 = .ok (.aload_n 0, 1)) ?_
  refine r_getR h (r := 2) f_Main_10 at1C rfl (by decide) (by decide +kernel : decode cX11_feed 17 = .ok (.getfield 10, 3)) ?_
  refine r_getI h f_Main_98 atC_2 (by decide +kernel : decode cX11_feed 20 = .ok (.getfield 98, 3)) ?_
  exact r_iret h rfl (by decide +kernel : decode cX11_feed 23 = .ok (.ireturn, 1)) rfl ⟨rfl, _, rfl, H⟩
theorem W_Main_feed (x1 : Int) (x3 : Int) (x5 : Int) (M : Mm) {P : Int → Mm → Prop} (H : ∃ P1 : Mm → Prop, S_Main_feedBytes x1 M P1 ∧ ∀ M1 : Mm, P1 M1 → ∃ P2 : Mm → Prop, S_Main_feedBytes x3 M1 P2 ∧ ∀ M2 : Mm, P2 M2 → ∃ P3 : Mm → Prop, S_Main_feedBytes x5 M2 P3 ∧ ∀ M3 : Mm, P3 M3 → P (M3 2 1) M3) : S_Main_feed x1 x3 x5 M P := e_Main_feed x1 x3 x5 M (fun _ h => w_Main_feed_0 h x1 x3 x5 M H)
set_option maxHeartbeats 4000000 in
set_option maxRecDepth 100000 in
theorem w_Main_ahead_0 {P : Int → Mm → Prop} {K : Nat → Rr → Nat → List (Nat × AV) → List AV → Mm → Prop} (h : EK shC yX11_ahead cX11_ahead 2 (some .int) 3 NN NN (QI RRC P) K) (x1 : Int) (M : Mm)
    (H : ∃ P1 : Int → Mm → Prop, S_Main_isGoing x1 M P1 ∧ ∀ (r1 : Int) (M1 : Mm), P1 r1 M1 → (rng r1) ∧ (r1 = 0 → (P (-1) M1)) ∧ (r1 ≠ 0 → (∃ t101 : Nat, M1 1 1 = (t101 : Int) ∧ At shC NN t101 (.inl 7) ∧ ∃ P2 : Int → Mm → Prop, S_State_nextAhead 42 t101 x1 M1 P2 ∧ ∀ (r2 : Int) (M2 : Mm), P2 r2 M2 → P r2 M2))) :
    K NN RRC 0 [(0, vr 1), (1, vi x1)] [] M := by
  refine r_aloadn h (q := 0) 0 rfl (by decide +kernel : decode cX11_ahead 0 = .ok (.aload_n 0, 1)) ?_
  refine r_iloadn h (q := 1) 1 rfl (by decide +kernel : decode cX11_ahead 1 = .ok (.iload_n 1, 1)) ?_
  obtain ⟨P1, hSP1, H⟩ := H
  refine r_callV h (as := [vi x1]) (S := []) (b := 1) m_Main_161 hSP1 (by decide) (Nat.le_refl _) rfl at1C rfl (Nat.le_of_ble_eq_true rfl) (by decide +kernel : decode cX11_ahead 2 = .ok (.invokevirtual 161, 3)) ?_
  rintro _ _ M1 ⟨rfl, r1, rfl, hP⟩
  have H := H r1 M1 hP
  show K NN RRC _ _ [vi r1] _
  obtain ⟨g1, H⟩ := H
  obtain ⟨H1, H2⟩ := H
  refine r_if_eq h 26 g1 (by decide) (by decide +kernel : decode cX11_ahead 5 = .ok (.ifCond .eq 21, 3)) (fun hc => ?_) (fun hc => ?_)
  · have H := H1 hc
    refine r_iconst h (v := (-1)) (by decide +kernel : decode cX11_ahead 26 = .ok (.iconst (-1), 1)) ?_
    exact r_iret h rfl (by decide +kernel : decode cX11_ahead 27 = .ok (.ireturn, 1)) rfl ⟨rfl, _, rfl, H⟩
  · have H := H2 hc
    refine r_aloadn h (q := 0) 0 rfl (by decide +kernel : decode cX11_ahead 8 = .ok (.aload_n 0, 1)) ?_
    refine r_getR h (r := 41) f_Main_43 at1C rfl (by decide) (by decide +kernel : decode cX11_ahead 9 = .ok (.getfield 43, 3)) ?_
    refine r_getR h (r := 42) f_Main_133 atC_41 rfl (by decide) (by decide +kernel : decode cX11_ahead 12 = .ok (.getfield 133, 3)) ?_
    refine r_aloadn h (q := 0) 0 rfl (by decide +kernel : decode cX11_ahead 15 = .ok (.aload_n 0, 1)) ?_
    obtain ⟨t101, htt101, hat101, H⟩ := H
    refine r_getM h (r := t101) f_Main_19 at1C htt101 hat101.2.1 (by decide +kernel : decode cX11_ahead 16 = .ok (.getfield 19, 3)) ?_
    refine r_iloadn h (q := 1) 1 rfl (by decide +kernel : decode cX11_ahead 19 = .ok (.iload_n 1, 1)) ?_
    obtain ⟨P2, hSP2, H⟩ := H
    refine r_callV h (as := [vr t101, vi x1]) (S := []) (b := 42) m_Main_164 hSP2 (by decide) (Nat.le_refl _) rfl atC_42 rfl (Nat.le_of_ble_eq_true rfl) (by decide +kernel : decode cX11_ahead 20 = .ok (.invokevirtual 164, 3)) ?_
    rintro _ _ M2 ⟨rfl, r2, rfl, hP⟩
    have H := H r2 M2 hP
    show K NN RRC _ _ [vi r2] _
    refine r_goto h 27 (by decide) (by decide +kernel : decode cX11_ahead 23 = .ok (.goto 4, 3)) ?_
    exact r_iret h rfl (by decide +kernel : decode cX11_ahead 27 = .ok (.ireturn, 1)) rfl ⟨rfl, _, rfl, H⟩
theorem W_Main_ahead (x1 : Int) (M : Mm) {P : Int → Mm → Prop} (H : ∃ P1 : Int → Mm → Prop, S_Main_isGoing x1 M P1 ∧ ∀ (r1 : Int) (M1 : Mm), P1 r1 M1 → (rng r1) ∧ (r1 = 0 → (P (-1) M1)) ∧ (r1 ≠ 0 → (∃ t101 : Nat, M1 1 1 = (t101 : Int) ∧ At shC NN t101 (.inl 7) ∧ ∃ P2 : Int → Mm → Prop, S_State_nextAhead 42 t101 x1 M1 P2 ∧ ∀ (r2 : Int) (M2 : Mm), P2 r2 M2 → P r2 M2))) : S_Main_ahead x1 M P := e_Main_ahead x1 M (fun _ h => w_Main_ahead_0 h x1 M H)
set_option maxHeartbeats 4000000 in
set_option maxRecDepth 100000 in
theorem w_Main_put_0 {P : Int → Mm → Prop} {K : Nat → Rr → Nat → List (Nat × AV) → List AV → Mm → Prop} (h : EK shC yX11_put cX11_put 3 (some .boolean) 3 NN NN (QI RRC P) K) (x1 : Int) (x2 : Int) (M : Mm)
    (H : ∃ P1 : Int → Mm → Prop, S_Main_isHouse x1 M P1 ∧ ∀ (r1 : Int) (M1 : Mm), P1 r1 M1 → (rng r1) ∧ (r1 = 0 → (P 0 M1)) ∧ (r1 ≠ 0 → (∃ P2 : Int → Mm → Prop, S_Main_isHouse x2 M1 P2 ∧ ∀ (r2 : Int) (M2 : Mm), P2 r2 M2 → (rng r2) ∧ (r2 ≠ 0 → (∃ P3 : Mm → Prop, S_Main_remember  M2 P3 ∧ ∀ M3 : Mm, P3 M3 → ∃ t101 : Nat, M3 1 1 = (t101 : Int) ∧ At shC NN t101 (.inl 7) ∧ ∃ P4 : Int → Mm → Prop, S_State_moveTo 42 x1 x2 (M3 t101 9) M3 P4 ∧ ∀ (r4 : Int) (M4 : Mm), P4 r4 M4 → (r4 = 0 ∨ r4 = 1) ∧ P r4 M4)) ∧ (r2 = 0 → (P 0 M2))))) :
    K NN RRC 0 [(0, vr 1), (1, vi x1), (2, vi x2)] [] M := by
  refine r_aloadn h (q := 0) 0 rfl (by decide +kernel : decode cX11_put 0 = .ok (.aload_n 0, 1)) ?_
  refine r_iloadn h (q := 1) 1 rfl (by decide +kernel : decode cX11_put 1 = .ok (.iload_n 1, 1)) ?_
  obtain ⟨P1, hSP1, H⟩ := H
  refine r_callV h (as := [vi x1]) (S := []) (b := 1) m_Main_125 hSP1 (by decide) (Nat.le_refl _) rfl at1C rfl (Nat.le_of_ble_eq_true rfl) (by decide +kernel : decode cX11_put 2 = .ok (.invokevirtual 125, 3)) ?_
  rintro _ _ M1 ⟨rfl, r1, rfl, hP⟩
  have H := H r1 M1 hP
  show K NN RRC _ _ [vi r1] _
  obtain ⟨g1, H⟩ := H
  obtain ⟨H1, H2⟩ := H
  refine r_if_eq h 16 g1 (by decide) (by decide +kernel : decode cX11_put 5 = .ok (.ifCond .eq 11, 3)) (fun hc => ?_) (fun hc => ?_)
  · have H := H1 hc
    refine r_iconst h (v := 0) (by decide +kernel : decode cX11_put 16 = .ok (.iconst 0, 1)) ?_
    exact r_zret h rfl (by decide) (by decide +kernel : decode cX11_put 17 = .ok (.ireturn, 1)) rfl ⟨rfl, _, rfl, H⟩
  · have H := H2 hc
    refine r_aloadn h (q := 0) 0 rfl (by decide +kernel : decode cX11_put 8 = .ok (.aload_n 0, 1)) ?_
    refine r_iloadn h (q := 2) 2 rfl (by decide +kernel : decode cX11_put 9 = .ok (.iload_n 2, 1)) ?_
    obtain ⟨P2, hSP2, H⟩ := H
    refine r_callV h (as := [vi x2]) (S := []) (b := 1) m_Main_125 hSP2 (by decide) (Nat.le_refl _) rfl at1C rfl (Nat.le_of_ble_eq_true rfl) (by decide +kernel : decode cX11_put 10 = .ok (.invokevirtual 125, 3)) ?_
    rintro _ _ M2 ⟨rfl, r2, rfl, hP⟩
    have H := H r2 M2 hP
    show K NN RRC _ _ [vi r2] _
    obtain ⟨g1, H⟩ := H
    obtain ⟨H1, H2⟩ := H
    refine r_if_ne h 18 g1 (by decide) (by decide +kernel : decode cX11_put 13 = .ok (.ifCond .ne 5, 3)) (fun hc => ?_) (fun hc => ?_)
    · have H := H1 hc
      refine r_aloadn h (q := 0) 0 rfl (by decide +kernel : decode cX11_put 18 = .ok (.aload_n 0, 1)) ?_
      obtain ⟨P3, hSP3, H⟩ := H
      refine r_callV h (as := []) (S := []) (b := 1) m_Main_179 hSP3 (by decide) (Nat.le_refl _) rfl at1C rfl (Nat.le_of_ble_eq_true rfl) (by decide +kernel : decode cX11_put 19 = .ok (.invokevirtual 179, 3)) ?_
      rintro _ _ M3 ⟨rfl, rfl, hP⟩
      have H := H M3 hP
      show K NN RRC _ _ [] _
      refine r_aloadn h (q := 0) 0 rfl (by decide +kernel : decode cX11_put 22 = .ok (.aload_n 0, 1)) ?_
      refine r_getR h (r := 41) f_Main_43 at1C rfl (by decide) (by decide +kernel : decode cX11_put 23 = .ok (.getfield 43, 3)) ?_
      refine r_getR h (r := 42) f_Main_133 atC_41 rfl (by decide) (by decide +kernel : decode cX11_put 26 = .ok (.getfield 133, 3)) ?_
      refine r_iloadn h (q := 1) 1 rfl (by decide +kernel : decode cX11_put 29 = .ok (.iload_n 1, 1)) ?_
      refine r_iloadn h (q := 2) 2 rfl (by decide +kernel : decode cX11_put 30 = .ok (.iload_n 2, 1)) ?_
      refine r_aloadn h (q := 0) 0 rfl (by decide +kernel : decode cX11_put 31 = .ok (.aload_n 0, 1)) ?_
      obtain ⟨t101, htt101, hat101, H⟩ := H
      refine r_getM h (r := t101) f_Main_19 at1C htt101 hat101.2.1 (by decide +kernel : decode cX11_put 32 = .ok (.getfield 19, 3)) ?_
      refine r_getI h f_Main_151 hat101 (by decide +kernel : decode cX11_put 35 = .ok (.getfield 151, 3)) ?_
      obtain ⟨P4, hSP4, H⟩ := H
      refine r_callV h (as := [vi x1, vi x2, vi (M3 t101 9)]) (S := []) (b := 42) m_Main_182 hSP4 (by decide) (Nat.le_refl _) rfl atC_42 rfl (Nat.le_of_ble_eq_true rfl) (by decide +kernel : decode cX11_put 38 = .ok (.invokevirtual 182, 3)) ?_
      rintro _ _ M4 ⟨rfl, r4, rfl, hP⟩
      have H := H r4 M4 hP
      show K NN RRC _ _ [vi r4] _
      exact r_zret h rfl H.1 (by decide +kernel : decode cX11_put 41 = .ok (.ireturn, 1)) rfl ⟨rfl, _, rfl, H.2⟩
    · have H := H2 hc
      refine r_iconst h (v := 0) (by decide +kernel : decode cX11_put 16 = .ok (.iconst 0, 1)) ?_
      exact r_zret h rfl (by decide) (by decide +kernel : decode cX11_put 17 = .ok (.ireturn, 1)) rfl ⟨rfl, _, rfl, H⟩
theorem W_Main_put (x1 : Int) (x2 : Int) (M : Mm) {P : Int → Mm → Prop} (H : ∃ P1 : Int → Mm → Prop, S_Main_isHouse x1 M P1 ∧ ∀ (r1 : Int) (M1 : Mm), P1 r1 M1 → (rng r1) ∧ (r1 = 0 → (P 0 M1)) ∧ (r1 ≠ 0 → (∃ P2 : Int → Mm → Prop, S_Main_isHouse x2 M1 P2 ∧ ∀ (r2 : Int) (M2 : Mm), P2 r2 M2 → (rng r2) ∧ (r2 ≠ 0 → (∃ P3 : Mm → Prop, S_Main_remember  M2 P3 ∧ ∀ M3 : Mm, P3 M3 → ∃ t101 : Nat, M3 1 1 = (t101 : Int) ∧ At shC NN t101 (.inl 7) ∧ ∃ P4 : Int → Mm → Prop, S_State_moveTo 42 x1 x2 (M3 t101 9) M3 P4 ∧ ∀ (r4 : Int) (M4 : Mm), P4 r4 M4 → (r4 = 0 ∨ r4 = 1) ∧ P r4 M4)) ∧ (r2 = 0 → (P 0 M2))))) : S_Main_put x1 x2 M P := e_Main_put x1 x2 M (fun _ h => w_Main_put_0 h x1 x2 M H)
set_option maxHeartbeats 4000000 in
set_option maxRecDepth 100000 in
theorem w_Main_road_0 {P : Int → Mm → Prop} {K : Nat → Rr → Nat → List (Nat × AV) → List AV → Mm → Prop} (h : EK shC yX11_road cX11_road 2 (some .boolean) 3 NN NN (QI RRC P) K) (x1 : Int) (M : Mm)
    (H : ∃ P1 : Int → Mm → Prop, S_Main_isHouse x1 M P1 ∧ ∀ (r1 : Int) (M1 : Mm), P1 r1 M1 → (rng r1) ∧ (r1 ≠ 0 → (∃ P2 : Mm → Prop, S_Main_remember  M1 P2 ∧ ∀ M2 : Mm, P2 M2 → ∃ P3 : Mm → Prop, S_State_turnRoad 42 x1 M2 P3 ∧ ∀ M3 : Mm, P3 M3 → P 1 M3)) ∧ (r1 = 0 → (P 0 M1))) :
    K NN RRC 0 [(0, vr 1), (1, vi x1)] [] M := by
  refine r_aloadn h (q := 0) 0 rfl (by decide +kernel : decode cX11_road 0 = .ok (.aload_n 0, 1)) ?_
  refine r_iloadn h (q := 1) 1 rfl (by decide +kernel : decode cX11_road 1 = .ok (.iload_n 1, 1)) ?_
  obtain ⟨P1, hSP1, H⟩ := H
  refine r_callV h (as := [vi x1]) (S := []) (b := 1) m_Main_125 hSP1 (by decide) (Nat.le_refl _) rfl at1C rfl (Nat.le_of_ble_eq_true rfl) (by decide +kernel : decode cX11_road 2 = .ok (.invokevirtual 125, 3)) ?_
  rintro _ _ M1 ⟨rfl, r1, rfl, hP⟩
  have H := H r1 M1 hP
  show K NN RRC _ _ [vi r1] _
  obtain ⟨g1, H⟩ := H
  obtain ⟨H1, H2⟩ := H
  refine r_if_ne h 10 g1 (by decide) (by decide +kernel : decode cX11_road 5 = .ok (.ifCond .ne 5, 3)) (fun hc => ?_) (fun hc => ?_)
  · have H := H1 hc
    refine r_aloadn h (q := 0) 0 rfl (by decide +kernel : decode cX11_road 10 = .ok (.aload_n 0, 1)) ?_
    obtain ⟨P2, hSP2, H⟩ := H
    refine r_callV h (as := []) (S := []) (b := 1) m_Main_179 hSP2 (by decide) (Nat.le_refl _) rfl at1C rfl (Nat.le_of_ble_eq_true rfl) (by decide +kernel : decode cX11_road 11 = .ok (.invokevirtual 179, 3)) ?_
    rintro _ _ M2 ⟨rfl, rfl, hP⟩
    have H := H M2 hP
    show K NN RRC _ _ [] _
    refine r_aloadn h (q := 0) 0 rfl (by decide +kernel : decode cX11_road 14 = .ok (.aload_n 0, 1)) ?_
    refine r_getR h (r := 41) f_Main_43 at1C rfl (by decide) (by decide +kernel : decode cX11_road 15 = .ok (.getfield 43, 3)) ?_
    refine r_getR h (r := 42) f_Main_133 atC_41 rfl (by decide) (by decide +kernel : decode cX11_road 18 = .ok (.getfield 133, 3)) ?_
    refine r_iloadn h (q := 1) 1 rfl (by decide +kernel : decode cX11_road 21 = .ok (.iload_n 1, 1)) ?_
    obtain ⟨P3, hSP3, H⟩ := H
    refine r_callV h (as := [vi x1]) (S := []) (b := 42) m_Main_186 hSP3 (by decide) (Nat.le_refl _) rfl atC_42 rfl (Nat.le_of_ble_eq_true rfl) (by decide +kernel : decode cX11_road 22 = .ok (.invokevirtual 186, 3)) ?_
    rintro _ _ M3 ⟨rfl, rfl, hP⟩
    have H := H M3 hP
    show K NN RRC _ _ [] _
    refine r_iconst h (v := 1) (by decide +kernel : decode cX11_road 25 = .ok (.iconst 1, 1)) ?_
    exact r_zret h rfl (by decide) (by decide +kernel : decode cX11_road 26 = .ok (.ireturn, 1)) rfl ⟨rfl, _, rfl, H⟩
  · have H := H2 hc
    refine r_iconst h (v := 0) (by decide +kernel : decode cX11_road 8 = .ok (.iconst 0, 1)) ?_
    exact r_zret h rfl (by decide) (by decide +kernel : decode cX11_road 9 = .ok (.ireturn, 1)) rfl ⟨rfl, _, rfl, H⟩
theorem W_Main_road (x1 : Int) (M : Mm) {P : Int → Mm → Prop} (H : ∃ P1 : Int → Mm → Prop, S_Main_isHouse x1 M P1 ∧ ∀ (r1 : Int) (M1 : Mm), P1 r1 M1 → (rng r1) ∧ (r1 ≠ 0 → (∃ P2 : Mm → Prop, S_Main_remember  M1 P2 ∧ ∀ M2 : Mm, P2 M2 → ∃ P3 : Mm → Prop, S_State_turnRoad 42 x1 M2 P3 ∧ ∀ M3 : Mm, P3 M3 → P 1 M3)) ∧ (r1 = 0 → (P 0 M1))) : S_Main_road x1 M P := e_Main_road x1 M (fun _ h => w_Main_road_0 h x1 M H)
set_option maxHeartbeats 4000000 in
set_option maxRecDepth 100000 in
theorem w_Main_sell_0 {P : Int → Mm → Prop} {K : Nat → Rr → Nat → List (Nat × AV) → List AV → Mm → Prop} (h : EK shC yX11_sell cX11_sell 2 (some .int) 3 NN NN (QI RRC P) K) (x1 : Int) (M : Mm)
    (H : (rng x1) ∧ (x1 < 1 → (P (-1) M)) ∧ (¬ (x1 < 1) → ((rng x1) ∧ (99 < x1 → (P (-1) M)) ∧ (¬ (99 < x1) → ((rng x1) ∧ (rng (M 42 7)) ∧ (x1 ≤ (M 42 7) → (∃ P1 : Mm → Prop, S_Main_remember  M P1 ∧ ∀ M1 : Mm, P1 M1 → ∃ t101 : Nat, M1 1 1 = (t101 : Int) ∧ At shC NN t101 (.inl 7) ∧ ∃ P2 : Int → Mm → Prop, S_State_sellPints 42 x1 (M1 t101 11) M1 P2 ∧ ∀ (r2 : Int) (M2 : Mm), P2 r2 M2 → P (M2 42 8) M2)) ∧ (¬ (x1 ≤ (M 42 7)) → (P (-1) M))))))) :
    K NN RRC 0 [(0, vr 1), (1, vi x1)] [] M := by
  refine r_iloadn h (q := 1) 1 rfl (by decide +kernel : decode cX11_sell 0 = .ok (.iload_n 1, 1)) ?_
  refine r_iconst h (v := 1) (by decide +kernel : decode cX11_sell 1 = .ok (.iconst 1, 1)) ?_
  obtain ⟨g1, H⟩ := H
  obtain ⟨H1, H2⟩ := H
  refine r_icmp_lt h 25 g1 (by decide) (by decide) (by decide +kernel : decode cX11_sell 2 = .ok (.if_icmp .lt 23, 3)) (fun hc => ?_) (fun hc => ?_)
  · have H := H1 hc
    refine r_iconst h (v := (-1)) (by decide +kernel : decode cX11_sell 25 = .ok (.iconst (-1), 1)) ?_
    exact r_iret h rfl (by decide +kernel : decode cX11_sell 26 = .ok (.ireturn, 1)) rfl ⟨rfl, _, rfl, H⟩
  · have H := H2 hc
    refine r_iloadn h (q := 1) 1 rfl (by decide +kernel : decode cX11_sell 5 = .ok (.iload_n 1, 1)) ?_
    refine r_bipush h (v := 99) (by decide) (by decide +kernel : decode cX11_sell 6 = .ok (.bipush 99, 2)) ?_
    obtain ⟨g1, H⟩ := H
    obtain ⟨H1, H2⟩ := H
    refine r_icmp_gt h 25 g1 (by decide) (by decide) (by decide +kernel : decode cX11_sell 8 = .ok (.if_icmp .gt 17, 3)) (fun hc => ?_) (fun hc => ?_)
    · have H := H1 hc
      refine r_iconst h (v := (-1)) (by decide +kernel : decode cX11_sell 25 = .ok (.iconst (-1), 1)) ?_
      exact r_iret h rfl (by decide +kernel : decode cX11_sell 26 = .ok (.ireturn, 1)) rfl ⟨rfl, _, rfl, H⟩
    · have H := H2 hc
      refine r_iloadn h (q := 1) 1 rfl (by decide +kernel : decode cX11_sell 11 = .ok (.iload_n 1, 1)) ?_
      refine r_aloadn h (q := 0) 0 rfl (by decide +kernel : decode cX11_sell 12 = .ok (.aload_n 0, 1)) ?_
      refine r_getR h (r := 41) f_Main_43 at1C rfl (by decide) (by decide +kernel : decode cX11_sell 13 = .ok (.getfield 43, 3)) ?_
      refine r_getR h (r := 42) f_Main_133 atC_41 rfl (by decide) (by decide +kernel : decode cX11_sell 16 = .ok (.getfield 133, 3)) ?_
      refine r_getI h f_Main_197 atC_42 (by decide +kernel : decode cX11_sell 19 = .ok (.getfield 197, 3)) ?_
      obtain ⟨g1, g2, H⟩ := H
      obtain ⟨H1, H2⟩ := H
      refine r_icmp_le h 27 g1 g2 (by decide) (by decide +kernel : decode cX11_sell 22 = .ok (.if_icmp .le 5, 3)) (fun hc => ?_) (fun hc => ?_)
      · have H := H1 hc
        refine r_aloadn h (q := 0) 0 rfl (by decide +kernel : decode cX11_sell 27 = .ok (.aload_n 0, 1)) ?_
        obtain ⟨P1, hSP1, H⟩ := H
        refine r_callV h (as := []) (S := []) (b := 1) m_Main_179 hSP1 (by decide) (Nat.le_refl _) rfl at1C rfl (Nat.le_of_ble_eq_true rfl) (by decide +kernel : decode cX11_sell 28 = .ok (.invokevirtual 179, 3)) ?_
        rintro _ _ M1 ⟨rfl, rfl, hP⟩
        have H := H M1 hP
        show K NN RRC _ _ [] _
        refine r_aloadn h (q := 0) 0 rfl (by decide +kernel : decode cX11_sell 31 = .ok (.aload_n 0, 1)) ?_
        refine r_getR h (r := 41) f_Main_43 at1C rfl (by decide) (by decide +kernel : decode cX11_sell 32 = .ok (.getfield 43, 3)) ?_
        refine r_getR h (r := 42) f_Main_133 atC_41 rfl (by decide) (by decide +kernel : decode cX11_sell 35 = .ok (.getfield 133, 3)) ?_
        refine r_iloadn h (q := 1) 1 rfl (by decide +kernel : decode cX11_sell 38 = .ok (.iload_n 1, 1)) ?_
        refine r_aloadn h (q := 0) 0 rfl (by decide +kernel : decode cX11_sell 39 = .ok (.aload_n 0, 1)) ?_
        obtain ⟨t101, htt101, hat101, H⟩ := H
        refine r_getM h (r := t101) f_Main_19 at1C htt101 hat101.2.1 (by decide +kernel : decode cX11_sell 40 = .ok (.getfield 19, 3)) ?_
        refine r_getI h f_Main_200 hat101 (by decide +kernel : decode cX11_sell 43 = .ok (.getfield 200, 3)) ?_
        obtain ⟨P2, hSP2, H⟩ := H
        refine r_callV h (as := [vi x1, vi (M1 t101 11)]) (S := []) (b := 42) m_Main_203 hSP2 (by decide) (Nat.le_refl _) rfl atC_42 rfl (Nat.le_of_ble_eq_true rfl) (by decide +kernel : decode cX11_sell 46 = .ok (.invokevirtual 203, 3)) ?_
        rintro _ _ M2 ⟨rfl, r2, rfl, hP⟩
        have H := H r2 M2 hP
        show K NN RRC _ _ [vi r2] _
        refine r_pop h rfl (by decide +kernel : decode cX11_sell 49 = .ok (.pop, 1)) ?_
        refine r_aloadn h (q := 0) 0 rfl (by decide +kernel : decode cX11_sell 50 = .ok (.aload_n 0, 1)) ?_
        refine r_getR h (r := 41) f_Main_43 at1C rfl (by decide) (by decide +kernel : decode cX11_sell 51 = .ok (.getfield 43, 3)) ?_
        refine r_getR h (r := 42) f_Main_133 atC_41 rfl (by decide) (by decide +kernel : decode cX11_sell 54 = .ok (.getfield 133, 3)) ?_
        refine r_getI h f_Main_207 atC_42 (by decide +kernel : decode cX11_sell 57 = .ok (.getfield 207, 3)) ?_
        exact r_iret h rfl (by decide +kernel : decode cX11_sell 60 = .ok (.ireturn, 1)) rfl ⟨rfl, _, rfl, H⟩
      · have H := H2 hc
        refine r_iconst h (v := (-1)) (by decide +kernel : decode cX11_sell 25 = .ok (.iconst (-1), 1)) ?_
        exact r_iret h rfl (by decide +kernel : decode cX11_sell 26 = .ok (.ireturn, 1)) rfl ⟨rfl, _, rfl, H⟩
theorem W_Main_sell (x1 : Int) (M : Mm) {P : Int → Mm → Prop} (H : (rng x1) ∧ (x1 < 1 → (P (-1) M)) ∧ (¬ (x1 < 1) → ((rng x1) ∧ (99 < x1 → (P (-1) M)) ∧ (¬ (99 < x1) → ((rng x1) ∧ (rng (M 42 7)) ∧ (x1 ≤ (M 42 7) → (∃ P1 : Mm → Prop, S_Main_remember  M P1 ∧ ∀ M1 : Mm, P1 M1 → ∃ t101 : Nat, M1 1 1 = (t101 : Int) ∧ At shC NN t101 (.inl 7) ∧ ∃ P2 : Int → Mm → Prop, S_State_sellPints 42 x1 (M1 t101 11) M1 P2 ∧ ∀ (r2 : Int) (M2 : Mm), P2 r2 M2 → P (M2 42 8) M2)) ∧ (¬ (x1 ≤ (M 42 7)) → (P (-1) M))))))) : S_Main_sell x1 M P := e_Main_sell x1 M (fun _ h => w_Main_sell_0 h x1 M H)
set_option maxHeartbeats 4000000 in
set_option maxRecDepth 100000 in
theorem w_Main_shunned_0 {P : Int → Mm → Prop} {K : Nat → Rr → Nat → List (Nat × AV) → List AV → Mm → Prop} (h : EK shC yX11_shunned cX11_shunned 1 (some .int) 3 NN NN (QI RRC P) K)  (M : Mm)
    (H : ∃ t101 : Nat, M 1 1 = (t101 : Int) ∧ At shC NN t101 (.inl 7) ∧ ∃ P1 : Int → Mm → Prop, S_State_shunnedBy 42 t101 M P1 ∧ ∀ (r1 : Int) (M1 : Mm), P1 r1 M1 → P r1 M1) :
    K NN RRC 0 [(0, vr 1)] [] M := by
  refine r_aloadn h (q := 0) 0 rfl (by decide +kernel : decode cX11_shunned 0 = .ok (.aload_n 0, 1)) ?_
  refine r_getR h (r := 41) f_Main_43 at1C rfl (by decide) (by decide +kernel : decode cX11_shunned 1 = .ok (.getfield 43, 3)) ?_
  refine r_getR h (r := 42) f_Main_133 atC_41 rfl (by decide) (by decide +kernel : decode cX11_shunned 4 = .ok (.getfield 133, 3)) ?_
  refine r_aloadn h (q := 0) 0 rfl (by decide +kernel : decode cX11_shunned 7 = .ok (.aload_n 0, 1)) ?_
  obtain ⟨t101, htt101, hat101, H⟩ := H
  refine r_getM h (r := t101) f_Main_19 at1C htt101 hat101.2.1 (by decide +kernel : decode cX11_shunned 8 = .ok (.getfield 19, 3)) ?_
  obtain ⟨P1, hSP1, H⟩ := H
  refine r_callV h (as := [vr t101]) (S := []) (b := 42) m_Main_225 hSP1 (by decide) (Nat.le_refl _) rfl atC_42 rfl (Nat.le_of_ble_eq_true rfl) (by decide +kernel : decode cX11_shunned 11 = .ok (.invokevirtual 225, 3)) ?_
  rintro _ _ M1 ⟨rfl, r1, rfl, hP⟩
  have H := H r1 M1 hP
  show K NN RRC _ _ [vi r1] _
  exact r_iret h rfl (by decide +kernel : decode cX11_shunned 14 = .ok (.ireturn, 1)) rfl ⟨rfl, _, rfl, H⟩
theorem W_Main_shunned  (M : Mm) {P : Int → Mm → Prop} (H : ∃ t101 : Nat, M 1 1 = (t101 : Int) ∧ At shC NN t101 (.inl 7) ∧ ∃ P1 : Int → Mm → Prop, S_State_shunnedBy 42 t101 M P1 ∧ ∀ (r1 : Int) (M1 : Mm), P1 r1 M1 → P r1 M1) : S_Main_shunned  M P := e_Main_shunned  M (fun _ h => w_Main_shunned_0 h  M H)
set_option maxHeartbeats 4000000 in
set_option maxRecDepth 100000 in
theorem w_Main_orders_0 {P : Int → Mm → Prop} {K : Nat → Rr → Nat → List (Nat × AV) → List AV → Mm → Prop} (h : EK shC yX11_orders cX11_orders 1 (some .int) 3 NN NN (QI RRC P) K)  (M : Mm)
    (H : ∃ t101 : Nat, M 1 1 = (t101 : Int) ∧ At shC NN t101 (.inl 7) ∧ ∃ P1 : Int → Mm → Prop, S_Rows_countOrders 62 41 (M t101 9) M P1 ∧ ∀ (r1 : Int) (M1 : Mm), P1 r1 M1 → P r1 M1) :
    K NN RRC 0 [(0, vr 1)] [] M := by
  refine r_aloadn h (q := 0) 0 rfl (by decide +kernel : decode cX11_orders 0 = .ok (.aload_n 0, 1)) ?_
  refine r_getR h (r := 62) f_Main_72 at1C rfl (by decide) (by decide +kernel : decode cX11_orders 1 = .ok (.getfield 72, 3)) ?_
  refine r_aloadn h (q := 0) 0 rfl (by decide +kernel : decode cX11_orders 4 = .ok (.aload_n 0, 1)) ?_
  refine r_getR h (r := 41) f_Main_43 at1C rfl (by decide) (by decide +kernel : decode cX11_orders 5 = .ok (.getfield 43, 3)) ?_
  refine r_aloadn h (q := 0) 0 rfl (by decide +kernel : decode cX11_orders 8 = .ok (.aload_n 0, 1)) ?_
  obtain ⟨t101, htt101, hat101, H⟩ := H
  refine r_getM h (r := t101) f_Main_19 at1C htt101 hat101.2.1 (by decide +kernel : decode cX11_orders 9 = .ok (.getfield 19, 3)) ?_
  refine r_getI h f_Main_151 hat101 (by decide +kernel : decode cX11_orders 12 = .ok (.getfield 151, 3)) ?_
  obtain ⟨P1, hSP1, H⟩ := H
  refine r_callV h (as := [vr 41, vi (M t101 9)]) (S := []) (b := 62) m_Main_271 hSP1 (by decide) (Nat.le_refl _) rfl atC_62 rfl (Nat.le_of_ble_eq_true rfl) (by decide +kernel : decode cX11_orders 15 = .ok (.invokevirtual 271, 3)) ?_
  rintro _ _ M1 ⟨rfl, r1, rfl, hP⟩
  have H := H r1 M1 hP
  show K NN RRC _ _ [vi r1] _
  exact r_iret h rfl (by decide +kernel : decode cX11_orders 18 = .ok (.ireturn, 1)) rfl ⟨rfl, _, rfl, H⟩
theorem W_Main_orders  (M : Mm) {P : Int → Mm → Prop} (H : ∃ t101 : Nat, M 1 1 = (t101 : Int) ∧ At shC NN t101 (.inl 7) ∧ ∃ P1 : Int → Mm → Prop, S_Rows_countOrders 62 41 (M t101 9) M P1 ∧ ∀ (r1 : Int) (M1 : Mm), P1 r1 M1 → P r1 M1) : S_Main_orders  M P := e_Main_orders  M (fun _ h => w_Main_orders_0 h  M H)
set_option maxHeartbeats 4000000 in
set_option maxRecDepth 100000 in
theorem w_Main_first_0 {P : Int → Mm → Prop} {K : Nat → Rr → Nat → List (Nat × AV) → List AV → Mm → Prop} (h : EK shC yX11_first cX11_first 2 (some .int) 3 NN NN (QI RRC P) K) (x1 : Int) (M : Mm)
    (H : ∃ P1 : Int → Mm → Prop, S_Main_isHouse x1 M P1 ∧ ∀ (r1 : Int) (M1 : Mm), P1 r1 M1 → (rng r1) ∧ (r1 = 0 → (P (-1) M1)) ∧ (r1 ≠ 0 → (∃ t101 : Nat, M1 1 1 = (t101 : Int) ∧ At shC NN t101 (.inl 7) ∧ ∃ P2 : Int → Mm → Prop, S_Rows_countOrders 62 41 (M1 t101 9) M1 P2 ∧ ∀ (r2 : Int) (M2 : Mm), P2 r2 M2 → (rng r2) ∧ (r2 ≠ 0 → (∃ t102 : Nat, M2 1 1 = (t102 : Int) ∧ At shC NN t102 (.inl 7) ∧ ∃ P3 : Int → Mm → Prop, S_Rows_firstOrderAt 62 x1 (M2 t102 9) M2 P3 ∧ ∀ (r3 : Int) (M3 : Mm), P3 r3 M3 → P r3 M3)) ∧ (r2 = 0 → (P (-1) M2))))) :
    K NN RRC 0 [(0, vr 1), (1, vi x1)] [] M := by
  refine r_aloadn h (q := 0) 0 rfl (by decide +kernel : decode cX11_first 0 = .ok (.aload_n 0, 1)) ?_
  refine r_iloadn h (q := 1) 1 rfl (by decide +kernel : decode cX11_first 1 = .ok (.iload_n 1, 1)) ?_
  obtain ⟨P1, hSP1, H⟩ := H
  refine r_callV h (as := [vi x1]) (S := []) (b := 1) m_Main_125 hSP1 (by decide) (Nat.le_refl _) rfl at1C rfl (Nat.le_of_ble_eq_true rfl) (by decide +kernel : decode cX11_first 2 = .ok (.invokevirtual 125, 3)) ?_
  rintro _ _ M1 ⟨rfl, r1, rfl, hP⟩
  have H := H r1 M1 hP
  show K NN RRC _ _ [vi r1] _
  obtain ⟨g1, H⟩ := H
  obtain ⟨H1, H2⟩ := H
  refine r_if_eq h 29 g1 (by decide) (by decide +kernel : decode cX11_first 5 = .ok (.ifCond .eq 24, 3)) (fun hc => ?_) (fun hc => ?_)
  · have H := H1 hc
    refine r_iconst h (v := (-1)) (by decide +kernel : decode cX11_first 29 = .ok (.iconst (-1), 1)) ?_
    exact r_iret h rfl (by decide +kernel : decode cX11_first 30 = .ok (.ireturn, 1)) rfl ⟨rfl, _, rfl, H⟩
  · have H := H2 hc
    refine r_aloadn h (q := 0) 0 rfl (by decide +kernel : decode cX11_first 8 = .ok (.aload_n 0, 1)) ?_
    refine r_getR h (r := 62) f_Main_72 at1C rfl (by decide) (by decide +kernel : decode cX11_first 9 = .ok (.getfield 72, 3)) ?_
    refine r_aloadn h (q := 0) 0 rfl (by decide +kernel : decode cX11_first 12 = .ok (.aload_n 0, 1)) ?_
    refine r_getR h (r := 41) f_Main_43 at1C rfl (by decide) (by decide +kernel : decode cX11_first 13 = .ok (.getfield 43, 3)) ?_
    refine r_aloadn h (q := 0) 0 rfl (by decide +kernel : decode cX11_first 16 = .ok (.aload_n 0, 1)) ?_
    obtain ⟨t101, htt101, hat101, H⟩ := H
    refine r_getM h (r := t101) f_Main_19 at1C htt101 hat101.2.1 (by decide +kernel : decode cX11_first 17 = .ok (.getfield 19, 3)) ?_
    refine r_getI h f_Main_151 hat101 (by decide +kernel : decode cX11_first 20 = .ok (.getfield 151, 3)) ?_
    obtain ⟨P2, hSP2, H⟩ := H
    refine r_callV h (as := [vr 41, vi (M1 t101 9)]) (S := []) (b := 62) m_Main_271 hSP2 (by decide) (Nat.le_refl _) rfl atC_62 rfl (Nat.le_of_ble_eq_true rfl) (by decide +kernel : decode cX11_first 23 = .ok (.invokevirtual 271, 3)) ?_
    rintro _ _ M2 ⟨rfl, r2, rfl, hP⟩
    have H := H r2 M2 hP
    show K NN RRC _ _ [vi r2] _
    obtain ⟨g1, H⟩ := H
    obtain ⟨H1, H2⟩ := H
    refine r_if_ne h 31 g1 (by decide) (by decide +kernel : decode cX11_first 26 = .ok (.ifCond .ne 5, 3)) (fun hc => ?_) (fun hc => ?_)
    · have H := H1 hc
      refine r_aloadn h (q := 0) 0 rfl (by decide +kernel : decode cX11_first 31 = .ok (.aload_n 0, 1)) ?_
      refine r_getR h (r := 62) f_Main_72 at1C rfl (by decide) (by decide +kernel : decode cX11_first 32 = .ok (.getfield 72, 3)) ?_
      refine r_iloadn h (q := 1) 1 rfl (by decide +kernel : decode cX11_first 35 = .ok (.iload_n 1, 1)) ?_
      refine r_aloadn h (q := 0) 0 rfl (by decide +kernel : decode cX11_first 36 = .ok (.aload_n 0, 1)) ?_
      obtain ⟨t102, htt102, hat102, H⟩ := H
      refine r_getM h (r := t102) f_Main_19 at1C htt102 hat102.2.1 (by decide +kernel : decode cX11_first 37 = .ok (.getfield 19, 3)) ?_
      refine r_getI h f_Main_151 hat102 (by decide +kernel : decode cX11_first 40 = .ok (.getfield 151, 3)) ?_
      obtain ⟨P3, hSP3, H⟩ := H
      refine r_callV h (as := [vi x1, vi (M2 t102 9)]) (S := []) (b := 62) m_Main_275 hSP3 (by decide) (Nat.le_refl _) rfl atC_62 rfl (Nat.le_of_ble_eq_true rfl) (by decide +kernel : decode cX11_first 43 = .ok (.invokevirtual 275, 3)) ?_
      rintro _ _ M3 ⟨rfl, r3, rfl, hP⟩
      have H := H r3 M3 hP
      show K NN RRC _ _ [vi r3] _
      exact r_iret h rfl (by decide +kernel : decode cX11_first 46 = .ok (.ireturn, 1)) rfl ⟨rfl, _, rfl, H⟩
    · have H := H2 hc
      refine r_iconst h (v := (-1)) (by decide +kernel : decode cX11_first 29 = .ok (.iconst (-1), 1)) ?_
      exact r_iret h rfl (by decide +kernel : decode cX11_first 30 = .ok (.ireturn, 1)) rfl ⟨rfl, _, rfl, H⟩
theorem W_Main_first (x1 : Int) (M : Mm) {P : Int → Mm → Prop} (H : ∃ P1 : Int → Mm → Prop, S_Main_isHouse x1 M P1 ∧ ∀ (r1 : Int) (M1 : Mm), P1 r1 M1 → (rng r1) ∧ (r1 = 0 → (P (-1) M1)) ∧ (r1 ≠ 0 → (∃ t101 : Nat, M1 1 1 = (t101 : Int) ∧ At shC NN t101 (.inl 7) ∧ ∃ P2 : Int → Mm → Prop, S_Rows_countOrders 62 41 (M1 t101 9) M1 P2 ∧ ∀ (r2 : Int) (M2 : Mm), P2 r2 M2 → (rng r2) ∧ (r2 ≠ 0 → (∃ t102 : Nat, M2 1 1 = (t102 : Int) ∧ At shC NN t102 (.inl 7) ∧ ∃ P3 : Int → Mm → Prop, S_Rows_firstOrderAt 62 x1 (M2 t102 9) M2 P3 ∧ ∀ (r3 : Int) (M3 : Mm), P3 r3 M3 → P r3 M3)) ∧ (r2 = 0 → (P (-1) M2))))) : S_Main_first x1 M P := e_Main_first x1 M (fun _ h => w_Main_first_0 h x1 M H)
set_option maxHeartbeats 4000000 in
set_option maxRecDepth 100000 in
theorem w_Main_share_0 {P : Int → Mm → Prop} {K : Nat → Rr → Nat → List (Nat × AV) → List AV → Mm → Prop} (h : EK shC yX11_share cX11_share 5 (some .int) 3 NN NN (QI RRC P) K) (x1 : Int) (M : Mm)
    (H : ∃ P1 : Int → Mm → Prop, S_Main_isGoing x1 M P1 ∧ ∀ (r1 : Int) (M1 : Mm), P1 r1 M1 → (rng r1) ∧ (r1 ≠ 0 → (K NN RRC 14 [(0, vr 1), (1, vi x1), (2, vi 0), (3, vi 1)] [] M1)) ∧ (r1 = 0 → (P (-1) M1))) :
    K NN RRC 0 [(0, vr 1), (1, vi x1)] [] M := by
  refine r_aloadn h (q := 0) 0 rfl (by decide +kernel : decode cX11_share 0 = .ok (.aload_n 0, 1)) ?_
  refine r_iloadn h (q := 1) 1 rfl (by decide +kernel : decode cX11_share 1 = .ok (.iload_n 1, 1)) ?_
  obtain ⟨P1, hSP1, H⟩ := H
  refine r_callV h (as := [vi x1]) (S := []) (b := 1) m_Main_161 hSP1 (by decide) (Nat.le_refl _) rfl at1C rfl (Nat.le_of_ble_eq_true rfl) (by decide +kernel : decode cX11_share 2 = .ok (.invokevirtual 161, 3)) ?_
  rintro _ _ M1 ⟨rfl, r1, rfl, hP⟩
  have H := H r1 M1 hP
  show K NN RRC _ _ [vi r1] _
  obtain ⟨g1, H⟩ := H
  obtain ⟨H1, H2⟩ := H
  refine r_if_ne h 10 g1 (by decide) (by decide +kernel : decode cX11_share 5 = .ok (.ifCond .ne 5, 3)) (fun hc => ?_) (fun hc => ?_)
  · have H := H1 hc
    refine r_iconst h (v := 0) (by decide +kernel : decode cX11_share 10 = .ok (.iconst 0, 1)) ?_
    refine r_istoren h (q := 2) (L' := [(2, vi 0), (0, vr 1), (1, vi x1)]) (by decide) rfl (by decide +kernel : decode cX11_share 11 = .ok (.istore_n 2, 1)) ?_
    refine r_iconst h (v := 1) (by decide +kernel : decode cX11_share 12 = .ok (.iconst 1, 1)) ?_
    refine r_istoren h (q := 3) (L' := [(3, vi 1), (2, vi 0), (0, vr 1), (1, vi x1)]) (by decide) rfl (by decide +kernel : decode cX11_share 13 = .ok (.istore_n 3, 1)) ?_
    refine r_drop h [2, 3, 1, 0] rfl ?_
    exact H
  · have H := H2 hc
    refine r_iconst h (v := (-1)) (by decide +kernel : decode cX11_share 8 = .ok (.iconst (-1), 1)) ?_
    exact r_iret h rfl (by decide +kernel : decode cX11_share 9 = .ok (.ireturn, 1)) rfl ⟨rfl, _, rfl, H⟩
set_option maxHeartbeats 4000000 in
set_option maxRecDepth 100000 in
theorem w_Main_share_14 {P : Int → Mm → Prop} {K : Nat → Rr → Nat → List (Nat × AV) → List AV → Mm → Prop} (h : EK shC yX11_share cX11_share 5 (some .int) 3 NN NN (QI RRC P) K) (x1 : Int) (x2 : Int) (x3 : Int) (M : Mm)
    (H : (0 ≤ x1 ∧ x1 < 7) ∧ (rng x3) ∧ (rng (M 43 x1.toNat)) ∧ ((M 43 x1.toNat) < x3 → (P x2 M)) ∧ (¬ ((M 43 x1.toNat) < x3) → (∃ P1 : Int → Mm → Prop, S_Main_goingAsThick x3 M P1 ∧ ∀ (r1 : Int) (M1 : Mm), P1 r1 M1 → (rng r1) ∧ (r1 ≤ 0 → (K NN RRC 14 [(0, vr 1), (1, vi x1), (2, vi x2), (3, vi (x3 + 1))] [] M1)) ∧ (¬ (r1 ≤ 0) → ((rng r1) ∧ (r1 ≠ 0) ∧ K NN RRC 14 [(0, vr 1), (1, vi x1), (2, vi (x2 + (divI 1000 r1))), (3, vi (x3 + 1))] [] M1))))) :
    K NN RRC 14 [(0, vr 1), (1, vi x1), (2, vi x2), (3, vi x3)] [] M := by
  refine r_iloadn h (q := 3) 3 rfl (by decide +kernel : decode cX11_share 14 = .ok (.iload_n 3, 1)) ?_
  refine r_aloadn h (q := 0) 0 rfl (by decide +kernel : decode cX11_share 15 = .ok (.aload_n 0, 1)) ?_
  refine r_getR h (r := 41) f_Main_43 at1C rfl (by decide) (by decide +kernel : decode cX11_share 16 = .ok (.getfield 43, 3)) ?_
  refine r_getR h (r := 42) f_Main_133 atC_41 rfl (by decide) (by decide +kernel : decode cX11_share 19 = .ok (.getfield 133, 3)) ?_
  refine r_getR h (r := 43) f_Main_136 atC_42 rfl (by decide) (by decide +kernel : decode cX11_share 22 = .ok (.getfield 136, 3)) ?_
  refine r_iloadn h (q := 1) 1 rfl (by decide +kernel : decode cX11_share 25 = .ok (.iload_n 1, 1)) ?_
  obtain ⟨g1, H⟩ := H
  refine r_iald h x1.toNat rfl atC_43 g1 (by decide) (by decide +kernel : decode cX11_share 26 = .ok (.iaload, 1)) ?_
  obtain ⟨g1, g2, H⟩ := H
  obtain ⟨H1, H2⟩ := H
  refine r_icmp_gt h 57 g1 g2 (by decide) (by decide +kernel : decode cX11_share 27 = .ok (.if_icmp .gt 30, 3)) (fun hc => ?_) (fun hc => ?_)
  · have H := H1 hc
    refine r_iloadn h (q := 2) 2 rfl (by decide +kernel : decode cX11_share 57 = .ok (.iload_n 2, 1)) ?_
    exact r_iret h rfl (by decide +kernel : decode cX11_share 58 = .ok (.ireturn, 1)) rfl ⟨rfl, _, rfl, H⟩
  · have H := H2 hc
    refine r_aloadn h (q := 0) 0 rfl (by decide +kernel : decode cX11_share 30 = .ok (.aload_n 0, 1)) ?_
    refine r_iloadn h (q := 3) 3 rfl (by decide +kernel : decode cX11_share 31 = .ok (.iload_n 3, 1)) ?_
    obtain ⟨P1, hSP1, H⟩ := H
    refine r_callV h (as := [vi x3]) (S := []) (b := 1) m_Main_281 hSP1 (by decide) (Nat.le_refl _) rfl at1C rfl (Nat.le_of_ble_eq_true rfl) (by decide +kernel : decode cX11_share 32 = .ok (.invokevirtual 281, 3)) ?_
    rintro _ _ M1 ⟨rfl, r1, rfl, hP⟩
    have H := H r1 M1 hP
    show K NN RRC _ _ [vi r1] _
    refine r_istore h (L' := [(4, vi r1), (0, vr 1), (1, vi x1), (2, vi x2), (3, vi x3)]) (by decide) rfl (by decide +kernel : decode cX11_share 35 = .ok (.istore 4, 2)) ?_
    refine r_iload h 0 rfl (by decide +kernel : decode cX11_share 37 = .ok (.iload 4, 2)) ?_
    obtain ⟨g1, H⟩ := H
    obtain ⟨H1, H2⟩ := H
    refine r_if_le h 51 g1 (by decide) (by decide +kernel : decode cX11_share 39 = .ok (.ifCond .le 12, 3)) (fun hc => ?_) (fun hc => ?_)
    · have H := H1 hc
      refine r_iinc h (i := 3) (v := 1) (L' := [(3, vi (x3 + 1)), (4, vi r1), (0, vr 1), (1, vi x1), (2, vi x2)]) 4 rfl (by decide) rfl (by decide +kernel : decode cX11_share 51 = .ok (.iinc 3 1, 3)) ?_
      refine r_goto h 14 (by decide) (by decide +kernel : decode cX11_share 54 = .ok (.goto (-40), 3)) ?_
      refine r_drop h [2, 3, 4, 0] rfl ?_
      exact H
    · have H := H2 hc
      refine r_iloadn h (q := 2) 3 rfl (by decide +kernel : decode cX11_share 42 = .ok (.iload_n 2, 1)) ?_
      refine r_sipush h (v := 1000) (by decide) (by decide +kernel : decode cX11_share 43 = .ok (.sipush 1000, 3)) ?_
      refine r_iload h 0 rfl (by decide +kernel : decode cX11_share 46 = .ok (.iload 4, 2)) ?_
      obtain ⟨g1, g2, H⟩ := H
      refine r_idiv h g1 g2 (by decide +kernel : decode cX11_share 48 = .ok (.idiv, 1)) ?_
      refine r_iadd h (by decide +kernel : decode cX11_share 49 = .ok (.iadd, 1)) ?_
      refine r_istoren h (q := 2) (L' := [(2, vi (x2 + (divI 1000 r1))), (4, vi r1), (0, vr 1), (1, vi x1), (3, vi x3)]) (by decide) rfl (by decide +kernel : decode cX11_share 50 = .ok (.istore_n 2, 1)) ?_
      refine r_iinc h (i := 3) (v := 1) (L' := [(3, vi (x3 + 1)), (2, vi (x2 + (divI 1000 r1))), (4, vi r1), (0, vr 1), (1, vi x1)]) 4 rfl (by decide) rfl (by decide +kernel : decode cX11_share 51 = .ok (.iinc 3 1, 3)) ?_
      refine r_goto h 14 (by decide) (by decide +kernel : decode cX11_share 54 = .ok (.goto (-40), 3)) ?_
      refine r_drop h [3, 4, 1, 0] rfl ?_
      exact H
set_option maxHeartbeats 4000000 in
set_option maxRecDepth 100000 in
theorem w_Main_mark_0 {P : Int → Mm → Prop} {K : Nat → Rr → Nat → List (Nat × AV) → List AV → Mm → Prop} (h : EK shC yX11_mark cX11_mark 3 (some .boolean) 3 NN NN (QI RRC P) K) (x1 : Int) (x2 : Int) (M : Mm)
    (H : (rng x1) ∧ (x1 < 0 → (P 0 M)) ∧ (¬ (x1 < 0) → ((rng x1) ∧ (x1 < 4 → ((rng x2) ∧ (x2 ≠ 0 → ((0 ≤ x1 ∧ x1 < 4) ∧ (rng (M 59 x1.toNat)) ∧ ((M 59 x1.toNat) ≠ 0 → ((0 ≤ x1 ∧ x1 < 4) ∧ ∃ P1 : Mm → Prop, S_Standing_copyFrom 41 (73 + 12 * x1.toNat) M P1 ∧ ∀ M1 : Mm, P1 M1 → ∀ M2 : Mm, M2 = (upr M1 1 (up1 (M1 1) 11 0)) → P 1 M2)) ∧ ((M 59 x1.toNat) = 0 → (P 0 M)))) ∧ (x2 = 0 → ((0 ≤ x1 ∧ x1 < 4) ∧ ∃ P3 : Mm → Prop, S_Standing_copyFrom (73 + 12 * x1.toNat) 41 M P3 ∧ ∀ M3 : Mm, P3 M3 → (0 ≤ x1 ∧ x1 < 4) ∧ ∀ M4 : Mm, M4 = (upr M3 59 (up1 (M3 59) x1.toNat 1)) → P 1 M4)))) ∧ (¬ (x1 < 4) → (P 0 M))))) :
    K NN RRC 0 [(0, vr 1), (1, vi x1), (2, vi x2)] [] M := by
  refine r_iloadn h (q := 1) 1 rfl (by decide +kernel : decode cX11_mark 0 = .ok (.iload_n 1, 1)) ?_
  obtain ⟨g1, H⟩ := H
  obtain ⟨H1, H2⟩ := H
  refine r_if_lt h 9 g1 (by decide) (by decide +kernel : decode cX11_mark 1 = .ok (.ifCond .lt 8, 3)) (fun hc => ?_) (fun hc => ?_)
  · have H := H1 hc
    refine r_iconst h (v := 0) (by decide +kernel : decode cX11_mark 9 = .ok (.iconst 0, 1)) ?_
    exact r_zret h rfl (by decide) (by decide +kernel : decode cX11_mark 10 = .ok (.ireturn, 1)) rfl ⟨rfl, _, rfl, H⟩
  · have H := H2 hc
    refine r_iloadn h (q := 1) 1 rfl (by decide +kernel : decode cX11_mark 4 = .ok (.iload_n 1, 1)) ?_
    refine r_iconst h (v := 4) (by decide +kernel : decode cX11_mark 5 = .ok (.iconst 4, 1)) ?_
    obtain ⟨g1, H⟩ := H
    obtain ⟨H1, H2⟩ := H
    refine r_icmp_lt h 11 g1 (by decide) (by decide) (by decide +kernel : decode cX11_mark 6 = .ok (.if_icmp .lt 5, 3)) (fun hc => ?_) (fun hc => ?_)
    · have H := H1 hc
      refine r_iloadn h (q := 2) 2 rfl (by decide +kernel : decode cX11_mark 11 = .ok (.iload_n 2, 1)) ?_
      obtain ⟨g1, H⟩ := H
      obtain ⟨H1, H2⟩ := H
      refine r_if_ne h 37 g1 (by decide) (by decide +kernel : decode cX11_mark 12 = .ok (.ifCond .ne 25, 3)) (fun hc => ?_) (fun hc => ?_)
      · have H := H1 hc
        refine r_aloadn h (q := 0) 0 rfl (by decide +kernel : decode cX11_mark 37 = .ok (.aload_n 0, 1)) ?_
        refine r_getR h (r := 59) f_Main_54 at1C rfl (by decide) (by decide +kernel : decode cX11_mark 38 = .ok (.getfield 54, 3)) ?_
        refine r_iloadn h (q := 1) 1 rfl (by decide +kernel : decode cX11_mark 41 = .ok (.iload_n 1, 1)) ?_
        obtain ⟨g1, H⟩ := H
        refine r_zald h x1.toNat rfl atC_59 g1 (by decide) (by decide +kernel : decode cX11_mark 42 = .ok (.baload, 1)) ?_
        obtain ⟨g1, H⟩ := H
        obtain ⟨H1, H2⟩ := H
        refine r_if_ne h 48 g1 (by decide) (by decide +kernel : decode cX11_mark 43 = .ok (.ifCond .ne 5, 3)) (fun hc => ?_) (fun hc => ?_)
        · have H := H1 hc
          refine r_aloadn h (q := 0) 0 rfl (by decide +kernel : decode cX11_mark 48 = .ok (.aload_n 0, 1)) ?_
          refine r_getR h (r := 41) f_Main_43 at1C rfl (by decide) (by decide +kernel : decode cX11_mark 49 = .ok (.getfield 43, 3)) ?_
          refine r_aloadn h (q := 0) 0 rfl (by decide +kernel : decode cX11_mark 52 = .ok (.aload_n 0, 1)) ?_
          refine r_getR h (r := 58) f_Main_50 at1C rfl (by decide) (by decide +kernel : decode cX11_mark 53 = .ok (.getfield 50, 3)) ?_
          refine r_iloadn h (q := 1) 1 rfl (by decide +kernel : decode cX11_mark 56 = .ok (.iload_n 1, 1)) ?_
          obtain ⟨g1, H⟩ := H
          refine r_aald4 h (r := (73 + 12 * x1.toNat)) x1.toNat rfl atC_58 g1 (by decide) (rra4 _) (by omega) (by decide +kernel : decode cX11_mark 57 = .ok (.aaload, 1)) ?_
          have ga1 := ata4 g1
          obtain ⟨P1, hSP1, H⟩ := H
          refine r_callV h (as := [vr (73 + 12 * x1.toNat)]) (S := []) (b := 41) m_Main_326 hSP1 (by decide) (Nat.le_refl _) rfl atC_41 rfl (Nat.le_of_ble_eq_true rfl) (by decide +kernel : decode cX11_mark 58 = .ok (.invokevirtual 326, 3)) ?_
          rintro _ _ M1 ⟨rfl, rfl, hP⟩
          have H := H M1 hP
          show K NN RRC _ _ [] _
          refine r_aloadn h (q := 0) 0 rfl (by decide +kernel : decode cX11_mark 61 = .ok (.aload_n 0, 1)) ?_
          refine r_iconst h (v := 0) (by decide +kernel : decode cX11_mark 62 = .ok (.iconst 0, 1)) ?_
          refine r_putI h f_Main_112 at1C rfl rfl (by decide +kernel : decode cX11_mark 63 = .ok (.putfield 112, 3)) ?_
          have H := H _ rfl
          revert H
          generalize (upr M1 1 (up1 (M1 1) 11 0)) = M2
          intro H
          refine r_iconst h (v := 1) (by decide +kernel : decode cX11_mark 66 = .ok (.iconst 1, 1)) ?_
          exact r_zret h rfl (by decide) (by decide +kernel : decode cX11_mark 67 = .ok (.ireturn, 1)) rfl ⟨rfl, _, rfl, H⟩
        · have H := H2 hc
          refine r_iconst h (v := 0) (by decide +kernel : decode cX11_mark 46 = .ok (.iconst 0, 1)) ?_
          exact r_zret h rfl (by decide) (by decide +kernel : decode cX11_mark 47 = .ok (.ireturn, 1)) rfl ⟨rfl, _, rfl, H⟩
      · have H := H2 hc
        refine r_aloadn h (q := 0) 0 rfl (by decide +kernel : decode cX11_mark 15 = .ok (.aload_n 0, 1)) ?_
        refine r_getR h (r := 58) f_Main_50 at1C rfl (by decide) (by decide +kernel : decode cX11_mark 16 = .ok (.getfield 50, 3)) ?_
        refine r_iloadn h (q := 1) 1 rfl (by decide +kernel : decode cX11_mark 19 = .ok (.iload_n 1, 1)) ?_
        obtain ⟨g1, H⟩ := H
        refine r_aald4 h (r := (73 + 12 * x1.toNat)) x1.toNat rfl atC_58 g1 (by decide) (rra4 _) (by omega) (by decide +kernel : decode cX11_mark 20 = .ok (.aaload, 1)) ?_
        have ga2 := ata4 g1
        refine r_aloadn h (q := 0) 0 rfl (by decide +kernel : decode cX11_mark 21 = .ok (.aload_n 0, 1)) ?_
        refine r_getR h (r := 41) f_Main_43 at1C rfl (by decide) (by decide +kernel : decode cX11_mark 22 = .ok (.getfield 43, 3)) ?_
        obtain ⟨P3, hSP3, H⟩ := H
        refine r_callV h (as := [vr 41]) (S := []) (b := (73 + 12 * x1.toNat)) m_Main_326 hSP3 (by decide) (Nat.le_refl _) rfl ga2 rfl (Nat.le_of_ble_eq_true rfl) (by decide +kernel : decode cX11_mark 25 = .ok (.invokevirtual 326, 3)) ?_
        rintro _ _ M3 ⟨rfl, rfl, hP⟩
        have H := H M3 hP
        show K NN RRC _ _ [] _
        refine r_aloadn h (q := 0) 0 rfl (by decide +kernel : decode cX11_mark 28 = .ok (.aload_n 0, 1)) ?_
        refine r_getR h (r := 59) f_Main_54 at1C rfl (by decide) (by decide +kernel : decode cX11_mark 29 = .ok (.getfield 54, 3)) ?_
        refine r_iloadn h (q := 1) 1 rfl (by decide +kernel : decode cX11_mark 32 = .ok (.iload_n 1, 1)) ?_
        refine r_iconst h (v := 1) (by decide +kernel : decode cX11_mark 33 = .ok (.iconst 1, 1)) ?_
        obtain ⟨g1, H⟩ := H
        refine r_zast h x1.toNat rfl atC_59 g1 (by decide) (by decide) (by decide +kernel : decode cX11_mark 34 = .ok (.bastore, 1)) ?_
        have H := H _ rfl
        revert H
        generalize (upr M3 59 (up1 (M3 59) x1.toNat 1)) = M4
        intro H
        refine r_iconst h (v := 1) (by decide +kernel : decode cX11_mark 35 = .ok (.iconst 1, 1)) ?_
        exact r_zret h rfl (by decide) (by decide +kernel : decode cX11_mark 36 = .ok (.ireturn, 1)) rfl ⟨rfl, _, rfl, H⟩
    · have H := H2 hc
      refine r_iconst h (v := 0) (by decide +kernel : decode cX11_mark 9 = .ok (.iconst 0, 1)) ?_
      exact r_zret h rfl (by decide) (by decide +kernel : decode cX11_mark 10 = .ok (.ireturn, 1)) rfl ⟨rfl, _, rfl, H⟩
theorem W_Main_mark (x1 : Int) (x2 : Int) (M : Mm) {P : Int → Mm → Prop} (H : (rng x1) ∧ (x1 < 0 → (P 0 M)) ∧ (¬ (x1 < 0) → ((rng x1) ∧ (x1 < 4 → ((rng x2) ∧ (x2 ≠ 0 → ((0 ≤ x1 ∧ x1 < 4) ∧ (rng (M 59 x1.toNat)) ∧ ((M 59 x1.toNat) ≠ 0 → ((0 ≤ x1 ∧ x1 < 4) ∧ ∃ P1 : Mm → Prop, S_Standing_copyFrom 41 (73 + 12 * x1.toNat) M P1 ∧ ∀ M1 : Mm, P1 M1 → ∀ M2 : Mm, M2 = (upr M1 1 (up1 (M1 1) 11 0)) → P 1 M2)) ∧ ((M 59 x1.toNat) = 0 → (P 0 M)))) ∧ (x2 = 0 → ((0 ≤ x1 ∧ x1 < 4) ∧ ∃ P3 : Mm → Prop, S_Standing_copyFrom (73 + 12 * x1.toNat) 41 M P3 ∧ ∀ M3 : Mm, P3 M3 → (0 ≤ x1 ∧ x1 < 4) ∧ ∀ M4 : Mm, M4 = (upr M3 59 (up1 (M3 59) x1.toNat 1)) → P 1 M4)))) ∧ (¬ (x1 < 4) → (P 0 M))))) : S_Main_mark x1 x2 M P := e_Main_mark x1 x2 M (fun _ h => w_Main_mark_0 h x1 x2 M H)
set_option maxHeartbeats 4000000 in
set_option maxRecDepth 100000 in
theorem w_Main_count_0 {P : Int → Mm → Prop} {K : Nat → Rr → Nat → List (Nat × AV) → List AV → Mm → Prop} (h : EK shC yX11_count cX11_count 3 (some .int) 3 NN NN (QI RRC P) K) (x1 : Int) (M : Mm)
    (H : (rng x1) ∧ (x1 = 0 → (∃ t101 : Nat, M 1 1 = (t101 : Int) ∧ At shC NN t101 (.inl 7) ∧ P (M t101 9) M)) ∧ (x1 = 1 → (P (M 42 5) M)) ∧ (x1 = 2 → (∃ t102 : Nat, M 1 1 = (t102 : Int) ∧ At shC NN t102 (.inl 7) ∧ P (M t102 11) M)) ∧ (x1 = 3 → (P (M 42 6) M)) ∧ (x1 = 4 → (∃ t103 : Nat, M 1 1 = (t103 : Int) ∧ At shC NN t103 (.inl 7) ∧ ∃ P1 : Int → Mm → Prop, S_Town_rainOf t103 (M 42 6) M P1 ∧ ∀ (r1 : Int) (M1 : Mm), P1 r1 M1 → P r1 M1)) ∧ (x1 = 5 → (P (M 42 4) M)) ∧ (x1 = 6 → (P (M 42 7) M)) ∧ (x1 = 7 → (P (M 42 8) M)) ∧ (x1 = 8 → (∃ t104 : Nat, M 1 1 = (t104 : Int) ∧ At shC NN t104 (.inl 7) ∧ ∃ P2 : Int → Mm → Prop, S_State_allWet 42 (M t104 9) M P2 ∧ ∀ (r2 : Int) (M2 : Mm), P2 r2 M2 → P r2 M2)) ∧ (x1 = 9 → (∃ t105 : Nat, M 1 1 = (t105 : Int) ∧ At shC NN t105 (.inl 7) ∧ ∃ P3 : Int → Mm → Prop, S_State_allPrinted 42 (M t105 9) M P3 ∧ ∀ (r3 : Int) (M3 : Mm), P3 r3 M3 → P r3 M3)) ∧ (x1 = 10 → (P (M 47 3) M)) ∧ (x1 = 11 → (P (M 41 4) M)) ∧ (x1 = 12 → (P (M 41 5) M)) ∧ (x1 = 13 → (P (M 1 11) M)) ∧ (x1 = 14 → (P (M 2 1) M)) ∧ (x1 ≠ 0 ∧ x1 ≠ 1 ∧ x1 ≠ 2 ∧ x1 ≠ 3 ∧ x1 ≠ 4 ∧ x1 ≠ 5 ∧ x1 ≠ 6 ∧ x1 ≠ 7 ∧ x1 ≠ 8 ∧ x1 ≠ 9 ∧ x1 ≠ 10 ∧ x1 ≠ 11 ∧ x1 ≠ 12 ∧ x1 ≠ 13 ∧ x1 ≠ 14 → (P (-1) M))) :
    K NN RRC 0 [(0, vr 1), (1, vi x1)] [] M := by
  refine r_aloadn h (q := 0) 0 rfl (by decide +kernel : decode cX11_count 0 = .ok (.aload_n 0, 1)) ?_
  refine r_getR h (r := 41) f_Main_43 at1C rfl (by decide) (by decide +kernel : decode cX11_count 1 = .ok (.getfield 43, 3)) ?_
  refine r_getR h (r := 42) f_Main_133 atC_41 rfl (by decide) (by decide +kernel : decode cX11_count 4 = .ok (.getfield 133, 3)) ?_
  refine r_astoren h (q := 2) (L' := [(2, vr 42), (0, vr 1), (1, vi x1)]) (by decide) rfl (by decide +kernel : decode cX11_count 7 = .ok (.astore_n 2, 1)) ?_
  refine r_iloadn h (q := 1) 2 rfl (by decide +kernel : decode cX11_count 8 = .ok (.iload_n 1, 1)) ?_
  obtain ⟨g1, H⟩ := H
  obtain ⟨H1, H⟩ := H
  by_cases hk0 : x1 = 0
  · have H := H1 hk0
    refine r_tabIn h 84 g1 (by rw [hk0]; decide) (by rw [hk0]; rfl) (by decide) (by decide +kernel : decode cX11_count 9 = .ok (.tableswitch 192 0 14 #[75, 83, 88, 96, 101, 113, 118, 123, 128, 140, 152, 163, 171, 179, 184], 75)) ?_
    refine r_aloadn h (q := 0) 1 rfl (by decide +kernel : decode cX11_count 84 = .ok (.aload_n 0, 1)) ?_
    obtain ⟨t101, htt101, hat101, H⟩ := H
    refine r_getM h (r := t101) f_Main_19 at1C htt101 hat101.2.1 (by decide +kernel : decode cX11_count 85 = .ok (.getfield 19, 3)) ?_
    refine r_getI h f_Main_151 hat101 (by decide +kernel : decode cX11_count 88 = .ok (.getfield 151, 3)) ?_
    exact r_iret h rfl (by decide +kernel : decode cX11_count 91 = .ok (.ireturn, 1)) rfl ⟨rfl, _, rfl, H⟩
  obtain ⟨H1, H⟩ := H
  by_cases hk1 : x1 = 1
  · have H := H1 hk1
    refine r_tabIn h 92 g1 (by rw [hk1]; decide) (by rw [hk1]; rfl) (by decide) (by decide +kernel : decode cX11_count 9 = .ok (.tableswitch 192 0 14 #[75, 83, 88, 96, 101, 113, 118, 123, 128, 140, 152, 163, 171, 179, 184], 75)) ?_
    refine r_aloadn h (q := 2) 0 rfl (by decide +kernel : decode cX11_count 92 = .ok (.aload_n 2, 1)) ?_
    refine r_getI h f_Main_329 atC_42 (by decide +kernel : decode cX11_count 93 = .ok (.getfield 329, 3)) ?_
    exact r_iret h rfl (by decide +kernel : decode cX11_count 96 = .ok (.ireturn, 1)) rfl ⟨rfl, _, rfl, H⟩
  obtain ⟨H1, H⟩ := H
  by_cases hk2 : x1 = 2
  · have H := H1 hk2
    refine r_tabIn h 97 g1 (by rw [hk2]; decide) (by rw [hk2]; rfl) (by decide) (by decide +kernel : decode cX11_count 9 = .ok (.tableswitch 192 0 14 #[75, 83, 88, 96, 101, 113, 118, 123, 128, 140, 152, 163, 171, 179, 184], 75)) ?_
    refine r_aloadn h (q := 0) 1 rfl (by decide +kernel : decode cX11_count 97 = .ok (.aload_n 0, 1)) ?_
    obtain ⟨t102, htt102, hat102, H⟩ := H
    refine r_getM h (r := t102) f_Main_19 at1C htt102 hat102.2.1 (by decide +kernel : decode cX11_count 98 = .ok (.getfield 19, 3)) ?_
    refine r_getI h f_Main_200 hat102 (by decide +kernel : decode cX11_count 101 = .ok (.getfield 200, 3)) ?_
    exact r_iret h rfl (by decide +kernel : decode cX11_count 104 = .ok (.ireturn, 1)) rfl ⟨rfl, _, rfl, H⟩
  obtain ⟨H1, H⟩ := H
  by_cases hk3 : x1 = 3
  · have H := H1 hk3
    refine r_tabIn h 105 g1 (by rw [hk3]; decide) (by rw [hk3]; rfl) (by decide) (by decide +kernel : decode cX11_count 9 = .ok (.tableswitch 192 0 14 #[75, 83, 88, 96, 101, 113, 118, 123, 128, 140, 152, 163, 171, 179, 184], 75)) ?_
    refine r_aloadn h (q := 2) 0 rfl (by decide +kernel : decode cX11_count 105 = .ok (.aload_n 2, 1)) ?_
    refine r_getI h f_Main_332 atC_42 (by decide +kernel : decode cX11_count 106 = .ok (.getfield 332, 3)) ?_
    exact r_iret h rfl (by decide +kernel : decode cX11_count 109 = .ok (.ireturn, 1)) rfl ⟨rfl, _, rfl, H⟩
  obtain ⟨H1, H⟩ := H
  by_cases hk4 : x1 = 4
  · have H := H1 hk4
    refine r_tabIn h 110 g1 (by rw [hk4]; decide) (by rw [hk4]; rfl) (by decide) (by decide +kernel : decode cX11_count 9 = .ok (.tableswitch 192 0 14 #[75, 83, 88, 96, 101, 113, 118, 123, 128, 140, 152, 163, 171, 179, 184], 75)) ?_
    refine r_aloadn h (q := 0) 1 rfl (by decide +kernel : decode cX11_count 110 = .ok (.aload_n 0, 1)) ?_
    obtain ⟨t103, htt103, hat103, H⟩ := H
    refine r_getM h (r := t103) f_Main_19 at1C htt103 hat103.2.1 (by decide +kernel : decode cX11_count 111 = .ok (.getfield 19, 3)) ?_
    refine r_aloadn h (q := 2) 0 rfl (by decide +kernel : decode cX11_count 114 = .ok (.aload_n 2, 1)) ?_
    refine r_getI h f_Main_332 atC_42 (by decide +kernel : decode cX11_count 115 = .ok (.getfield 332, 3)) ?_
    obtain ⟨P1, hSP1, H⟩ := H
    refine r_callV h (as := [vi (M 42 6)]) (S := []) (b := t103) m_Main_335 hSP1 (by decide) (Nat.le_refl _) rfl hat103 rfl (Nat.le_of_ble_eq_true rfl) (by decide +kernel : decode cX11_count 118 = .ok (.invokevirtual 335, 3)) ?_
    rintro _ _ M1 ⟨rfl, r1, rfl, hP⟩
    have H := H r1 M1 hP
    show K NN RRC _ _ [vi r1] _
    exact r_iret h rfl (by decide +kernel : decode cX11_count 121 = .ok (.ireturn, 1)) rfl ⟨rfl, _, rfl, H⟩
  obtain ⟨H1, H⟩ := H
  by_cases hk5 : x1 = 5
  · have H := H1 hk5
    refine r_tabIn h 122 g1 (by rw [hk5]; decide) (by rw [hk5]; rfl) (by decide) (by decide +kernel : decode cX11_count 9 = .ok (.tableswitch 192 0 14 #[75, 83, 88, 96, 101, 113, 118, 123, 128, 140, 152, 163, 171, 179, 184], 75)) ?_
    refine r_aloadn h (q := 2) 0 rfl (by decide +kernel : decode cX11_count 122 = .ok (.aload_n 2, 1)) ?_
    refine r_getI h f_Main_338 atC_42 (by decide +kernel : decode cX11_count 123 = .ok (.getfield 338, 3)) ?_
    exact r_iret h rfl (by decide +kernel : decode cX11_count 126 = .ok (.ireturn, 1)) rfl ⟨rfl, _, rfl, H⟩
  obtain ⟨H1, H⟩ := H
  by_cases hk6 : x1 = 6
  · have H := H1 hk6
    refine r_tabIn h 127 g1 (by rw [hk6]; decide) (by rw [hk6]; rfl) (by decide) (by decide +kernel : decode cX11_count 9 = .ok (.tableswitch 192 0 14 #[75, 83, 88, 96, 101, 113, 118, 123, 128, 140, 152, 163, 171, 179, 184], 75)) ?_
    refine r_aloadn h (q := 2) 0 rfl (by decide +kernel : decode cX11_count 127 = .ok (.aload_n 2, 1)) ?_
    refine r_getI h f_Main_197 atC_42 (by decide +kernel : decode cX11_count 128 = .ok (.getfield 197, 3)) ?_
    exact r_iret h rfl (by decide +kernel : decode cX11_count 131 = .ok (.ireturn, 1)) rfl ⟨rfl, _, rfl, H⟩
  obtain ⟨H1, H⟩ := H
  by_cases hk7 : x1 = 7
  · have H := H1 hk7
    refine r_tabIn h 132 g1 (by rw [hk7]; decide) (by rw [hk7]; rfl) (by decide) (by decide +kernel : decode cX11_count 9 = .ok (.tableswitch 192 0 14 #[75, 83, 88, 96, 101, 113, 118, 123, 128, 140, 152, 163, 171, 179, 184], 75)) ?_
    refine r_aloadn h (q := 2) 0 rfl (by decide +kernel : decode cX11_count 132 = .ok (.aload_n 2, 1)) ?_
    refine r_getI h f_Main_207 atC_42 (by decide +kernel : decode cX11_count 133 = .ok (.getfield 207, 3)) ?_
    exact r_iret h rfl (by decide +kernel : decode cX11_count 136 = .ok (.ireturn, 1)) rfl ⟨rfl, _, rfl, H⟩
  obtain ⟨H1, H⟩ := H
  by_cases hk8 : x1 = 8
  · have H := H1 hk8
    refine r_tabIn h 137 g1 (by rw [hk8]; decide) (by rw [hk8]; rfl) (by decide) (by decide +kernel : decode cX11_count 9 = .ok (.tableswitch 192 0 14 #[75, 83, 88, 96, 101, 113, 118, 123, 128, 140, 152, 163, 171, 179, 184], 75)) ?_
    refine r_aloadn h (q := 2) 0 rfl (by decide +kernel : decode cX11_count 137 = .ok (.aload_n 2, 1)) ?_
    refine r_aloadn h (q := 0) 1 rfl (by decide +kernel : decode cX11_count 138 = .ok (.aload_n 0, 1)) ?_
    obtain ⟨t104, htt104, hat104, H⟩ := H
    refine r_getM h (r := t104) f_Main_19 at1C htt104 hat104.2.1 (by decide +kernel : decode cX11_count 139 = .ok (.getfield 19, 3)) ?_
    refine r_getI h f_Main_151 hat104 (by decide +kernel : decode cX11_count 142 = .ok (.getfield 151, 3)) ?_
    obtain ⟨P2, hSP2, H⟩ := H
    refine r_callV h (as := [vi (M t104 9)]) (S := []) (b := 42) m_Main_242 hSP2 (by decide) (Nat.le_refl _) rfl atC_42 rfl (Nat.le_of_ble_eq_true rfl) (by decide +kernel : decode cX11_count 145 = .ok (.invokevirtual 242, 3)) ?_
    rintro _ _ M2 ⟨rfl, r2, rfl, hP⟩
    have H := H r2 M2 hP
    show K NN RRC _ _ [vi r2] _
    exact r_iret h rfl (by decide +kernel : decode cX11_count 148 = .ok (.ireturn, 1)) rfl ⟨rfl, _, rfl, H⟩
  obtain ⟨H1, H⟩ := H
  by_cases hk9 : x1 = 9
  · have H := H1 hk9
    refine r_tabIn h 149 g1 (by rw [hk9]; decide) (by rw [hk9]; rfl) (by decide) (by decide +kernel : decode cX11_count 9 = .ok (.tableswitch 192 0 14 #[75, 83, 88, 96, 101, 113, 118, 123, 128, 140, 152, 163, 171, 179, 184], 75)) ?_
    refine r_aloadn h (q := 2) 0 rfl (by decide +kernel : decode cX11_count 149 = .ok (.aload_n 2, 1)) ?_
    refine r_aloadn h (q := 0) 1 rfl (by decide +kernel : decode cX11_count 150 = .ok (.aload_n 0, 1)) ?_
    obtain ⟨t105, htt105, hat105, H⟩ := H
    refine r_getM h (r := t105) f_Main_19 at1C htt105 hat105.2.1 (by decide +kernel : decode cX11_count 151 = .ok (.getfield 19, 3)) ?_
    refine r_getI h f_Main_151 hat105 (by decide +kernel : decode cX11_count 154 = .ok (.getfield 151, 3)) ?_
    obtain ⟨P3, hSP3, H⟩ := H
    refine r_callV h (as := [vi (M t105 9)]) (S := []) (b := 42) m_Main_341 hSP3 (by decide) (Nat.le_refl _) rfl atC_42 rfl (Nat.le_of_ble_eq_true rfl) (by decide +kernel : decode cX11_count 157 = .ok (.invokevirtual 341, 3)) ?_
    rintro _ _ M3 ⟨rfl, r3, rfl, hP⟩
    have H := H r3 M3 hP
    show K NN RRC _ _ [vi r3] _
    exact r_iret h rfl (by decide +kernel : decode cX11_count 160 = .ok (.ireturn, 1)) rfl ⟨rfl, _, rfl, H⟩
  obtain ⟨H1, H⟩ := H
  by_cases hk10 : x1 = 10
  · have H := H1 hk10
    refine r_tabIn h 161 g1 (by rw [hk10]; decide) (by rw [hk10]; rfl) (by decide) (by decide +kernel : decode cX11_count 9 = .ok (.tableswitch 192 0 14 #[75, 83, 88, 96, 101, 113, 118, 123, 128, 140, 152, 163, 171, 179, 184], 75)) ?_
    refine r_aloadn h (q := 0) 1 rfl (by decide +kernel : decode cX11_count 161 = .ok (.aload_n 0, 1)) ?_
    refine r_getR h (r := 41) f_Main_43 at1C rfl (by decide) (by decide +kernel : decode cX11_count 162 = .ok (.getfield 43, 3)) ?_
    refine r_getR h (r := 47) f_Main_118 atC_41 rfl (by decide) (by decide +kernel : decode cX11_count 165 = .ok (.getfield 118, 3)) ?_
    refine r_getI h f_Main_344 atC_47 (by decide +kernel : decode cX11_count 168 = .ok (.getfield 344, 3)) ?_
    exact r_iret h rfl (by decide +kernel : decode cX11_count 171 = .ok (.ireturn, 1)) rfl ⟨rfl, _, rfl, H⟩
  obtain ⟨H1, H⟩ := H
  by_cases hk11 : x1 = 11
  · have H := H1 hk11
    refine r_tabIn h 172 g1 (by rw [hk11]; decide) (by rw [hk11]; rfl) (by decide) (by decide +kernel : decode cX11_count 9 = .ok (.tableswitch 192 0 14 #[75, 83, 88, 96, 101, 113, 118, 123, 128, 140, 152, 163, 171, 179, 184], 75)) ?_
    refine r_aloadn h (q := 0) 1 rfl (by decide +kernel : decode cX11_count 172 = .ok (.aload_n 0, 1)) ?_
    refine r_getR h (r := 41) f_Main_43 at1C rfl (by decide) (by decide +kernel : decode cX11_count 173 = .ok (.getfield 43, 3)) ?_
    refine r_getI h f_Main_347 atC_41 (by decide +kernel : decode cX11_count 176 = .ok (.getfield 347, 3)) ?_
    exact r_iret h rfl (by decide +kernel : decode cX11_count 179 = .ok (.ireturn, 1)) rfl ⟨rfl, _, rfl, H⟩
  obtain ⟨H1, H⟩ := H
  by_cases hk12 : x1 = 12
  · have H := H1 hk12
    refine r_tabIn h 180 g1 (by rw [hk12]; decide) (by rw [hk12]; rfl) (by decide) (by decide +kernel : decode cX11_count 9 = .ok (.tableswitch 192 0 14 #[75, 83, 88, 96, 101, 113, 118, 123, 128, 140, 152, 163, 171, 179, 184], 75)) ?_
    refine r_aloadn h (q := 0) 1 rfl (by decide +kernel : decode cX11_count 180 = .ok (.aload_n 0, 1)) ?_
    refine r_getR h (r := 41) f_Main_43 at1C rfl (by decide) (by decide +kernel : decode cX11_count 181 = .ok (.getfield 43, 3)) ?_
    refine r_getI h f_Main_249 atC_41 (by decide +kernel : decode cX11_count 184 = .ok (.getfield 249, 3)) ?_
    exact r_iret h rfl (by decide +kernel : decode cX11_count 187 = .ok (.ireturn, 1)) rfl ⟨rfl, _, rfl, H⟩
  obtain ⟨H1, H⟩ := H
  by_cases hk13 : x1 = 13
  · have H := H1 hk13
    refine r_tabIn h 188 g1 (by rw [hk13]; decide) (by rw [hk13]; rfl) (by decide) (by decide +kernel : decode cX11_count 9 = .ok (.tableswitch 192 0 14 #[75, 83, 88, 96, 101, 113, 118, 123, 128, 140, 152, 163, 171, 179, 184], 75)) ?_
    refine r_aloadn h (q := 0) 1 rfl (by decide +kernel : decode cX11_count 188 = .ok (.aload_n 0, 1)) ?_
    refine r_getI h f_Main_112 at1C (by decide +kernel : decode cX11_count 189 = .ok (.getfield 112, 3)) ?_
    exact r_iret h rfl (by decide +kernel : decode cX11_count 192 = .ok (.ireturn, 1)) rfl ⟨rfl, _, rfl, H⟩
  obtain ⟨H1, H⟩ := H
  by_cases hk14 : x1 = 14
  · have H := H1 hk14
    refine r_tabIn h 193 g1 (by rw [hk14]; decide) (by rw [hk14]; rfl) (by decide) (by decide +kernel : decode cX11_count 9 = .ok (.tableswitch 192 0 14 #[75, 83, 88, 96, 101, 113, 118, 123, 128, 140, 152, 163, 171, 179, 184], 75)) ?_
    refine r_aloadn h (q := 0) 1 rfl (by decide +kernel : decode cX11_count 193 = .ok (.aload_n 0, 1)) ?_
    refine r_getR h (r := 2) f_Main_10 at1C rfl (by decide) (by decide +kernel : decode cX11_count 194 = .ok (.getfield 10, 3)) ?_
    refine r_getI h f_Main_98 atC_2 (by decide +kernel : decode cX11_count 197 = .ok (.getfield 98, 3)) ?_
    exact r_iret h rfl (by decide +kernel : decode cX11_count 200 = .ok (.ireturn, 1)) rfl ⟨rfl, _, rfl, H⟩
  have H := H ⟨hk0, hk1, hk2, hk3, hk4, hk5, hk6, hk7, hk8, hk9, hk10, hk11, hk12, hk13, hk14⟩
  refine r_tabOut h 201 g1 (tout_0_14 hk0 hk1 hk2 hk3 hk4 hk5 hk6 hk7 hk8 hk9 hk10 hk11 hk12 hk13 hk14) (by decide) (by decide +kernel : decode cX11_count 9 = .ok (.tableswitch 192 0 14 #[75, 83, 88, 96, 101, 113, 118, 123, 128, 140, 152, 163, 171, 179, 184], 75)) ?_
  refine r_iconst h (v := (-1)) (by decide +kernel : decode cX11_count 201 = .ok (.iconst (-1), 1)) ?_
  exact r_iret h rfl (by decide +kernel : decode cX11_count 202 = .ok (.ireturn, 1)) rfl ⟨rfl, _, rfl, H⟩
theorem W_Main_count (x1 : Int) (M : Mm) {P : Int → Mm → Prop} (H : (rng x1) ∧ (x1 = 0 → (∃ t101 : Nat, M 1 1 = (t101 : Int) ∧ At shC NN t101 (.inl 7) ∧ P (M t101 9) M)) ∧ (x1 = 1 → (P (M 42 5) M)) ∧ (x1 = 2 → (∃ t102 : Nat, M 1 1 = (t102 : Int) ∧ At shC NN t102 (.inl 7) ∧ P (M t102 11) M)) ∧ (x1 = 3 → (P (M 42 6) M)) ∧ (x1 = 4 → (∃ t103 : Nat, M 1 1 = (t103 : Int) ∧ At shC NN t103 (.inl 7) ∧ ∃ P1 : Int → Mm → Prop, S_Town_rainOf t103 (M 42 6) M P1 ∧ ∀ (r1 : Int) (M1 : Mm), P1 r1 M1 → P r1 M1)) ∧ (x1 = 5 → (P (M 42 4) M)) ∧ (x1 = 6 → (P (M 42 7) M)) ∧ (x1 = 7 → (P (M 42 8) M)) ∧ (x1 = 8 → (∃ t104 : Nat, M 1 1 = (t104 : Int) ∧ At shC NN t104 (.inl 7) ∧ ∃ P2 : Int → Mm → Prop, S_State_allWet 42 (M t104 9) M P2 ∧ ∀ (r2 : Int) (M2 : Mm), P2 r2 M2 → P r2 M2)) ∧ (x1 = 9 → (∃ t105 : Nat, M 1 1 = (t105 : Int) ∧ At shC NN t105 (.inl 7) ∧ ∃ P3 : Int → Mm → Prop, S_State_allPrinted 42 (M t105 9) M P3 ∧ ∀ (r3 : Int) (M3 : Mm), P3 r3 M3 → P r3 M3)) ∧ (x1 = 10 → (P (M 47 3) M)) ∧ (x1 = 11 → (P (M 41 4) M)) ∧ (x1 = 12 → (P (M 41 5) M)) ∧ (x1 = 13 → (P (M 1 11) M)) ∧ (x1 = 14 → (P (M 2 1) M)) ∧ (x1 ≠ 0 ∧ x1 ≠ 1 ∧ x1 ≠ 2 ∧ x1 ≠ 3 ∧ x1 ≠ 4 ∧ x1 ≠ 5 ∧ x1 ≠ 6 ∧ x1 ≠ 7 ∧ x1 ≠ 8 ∧ x1 ≠ 9 ∧ x1 ≠ 10 ∧ x1 ≠ 11 ∧ x1 ≠ 12 ∧ x1 ≠ 13 ∧ x1 ≠ 14 → (P (-1) M))) : S_Main_count x1 M P := e_Main_count x1 M (fun _ h => w_Main_count_0 h x1 M H)
set_option maxHeartbeats 4000000 in
set_option maxRecDepth 100000 in
theorem w_Main_pressed_0 {P : Int → Mm → Prop} {K : Nat → Rr → Nat → List (Nat × AV) → List AV → Mm → Prop} (h : EK shC yX11_pressed cX11_pressed 2 (some .int) 4 NN NN (QI RRC P) K) (x1 : Int) (M : Mm)
    (H : ∃ P1 : Int → Mm → Prop, S_Main_isHouse x1 M P1 ∧ ∀ (r1 : Int) (M1 : Mm), P1 r1 M1 → (rng r1) ∧ (r1 = 0 → (P (-1) M1)) ∧ (r1 ≠ 0 → (∃ t101 : Nat, M1 1 1 = (t101 : Int) ∧ At shC NN t101 (.inl 7) ∧ ∃ P2 : Int → Mm → Prop, S_Town_pressedOut t101 42 x1 M1 P2 ∧ ∀ (r2 : Int) (M2 : Mm), P2 r2 M2 → P r2 M2))) :
    K NN RRC 0 [(0, vr 1), (1, vi x1)] [] M := by
  refine r_aloadn h (q := 0) 0 rfl (by decide +kernel : decode cX11_pressed 0 = .ok (.aload_n 0, 1)) ?_
  refine r_iloadn h (q := 1) 1 rfl (by decide +kernel : decode cX11_pressed 1 = .ok (.iload_n 1, 1)) ?_
  obtain ⟨P1, hSP1, H⟩ := H
  refine r_callV h (as := [vi x1]) (S := []) (b := 1) m_Main_125 hSP1 (by decide) (Nat.le_refl _) rfl at1C rfl (Nat.le_of_ble_eq_true rfl) (by decide +kernel : decode cX11_pressed 2 = .ok (.invokevirtual 125, 3)) ?_
  rintro _ _ M1 ⟨rfl, r1, rfl, hP⟩
  have H := H r1 M1 hP
  show K NN RRC _ _ [vi r1] _
  obtain ⟨g1, H⟩ := H
  obtain ⟨H1, H2⟩ := H
  refine r_if_eq h 26 g1 (by decide) (by decide +kernel : decode cX11_pressed 5 = .ok (.ifCond .eq 21, 3)) (fun hc => ?_) (fun hc => ?_)
  · have H := H1 hc
    refine r_iconst h (v := (-1)) (by decide +kernel : decode cX11_pressed 26 = .ok (.iconst (-1), 1)) ?_
    exact r_iret h rfl (by decide +kernel : decode cX11_pressed 27 = .ok (.ireturn, 1)) rfl ⟨rfl, _, rfl, H⟩
  · have H := H2 hc
    refine r_aloadn h (q := 0) 0 rfl (by decide +kernel : decode cX11_pressed 8 = .ok (.aload_n 0, 1)) ?_
    obtain ⟨t101, htt101, hat101, H⟩ := H
    refine r_getM h (r := t101) f_Main_19 at1C htt101 hat101.2.1 (by decide +kernel : decode cX11_pressed 9 = .ok (.getfield 19, 3)) ?_
    refine r_aloadn h (q := 0) 0 rfl (by decide +kernel : decode cX11_pressed 12 = .ok (.aload_n 0, 1)) ?_
    refine r_getR h (r := 41) f_Main_43 at1C rfl (by decide) (by decide +kernel : decode cX11_pressed 13 = .ok (.getfield 43, 3)) ?_
    refine r_getR h (r := 42) f_Main_133 atC_41 rfl (by decide) (by decide +kernel : decode cX11_pressed 16 = .ok (.getfield 133, 3)) ?_
    refine r_iloadn h (q := 1) 1 rfl (by decide +kernel : decode cX11_pressed 19 = .ok (.iload_n 1, 1)) ?_
    obtain ⟨P2, hSP2, H⟩ := H
    refine r_callV h (as := [vr 42, vi x1]) (S := []) (b := t101) m_Main_168 hSP2 (by decide) (Nat.le_refl _) rfl hat101 rfl (Nat.le_of_ble_eq_true rfl) (by decide +kernel : decode cX11_pressed 20 = .ok (.invokevirtual 168, 3)) ?_
    rintro _ _ M2 ⟨rfl, r2, rfl, hP⟩
    have H := H r2 M2 hP
    show K NN RRC _ _ [vi r2] _
    refine r_goto h 27 (by decide) (by decide +kernel : decode cX11_pressed 23 = .ok (.goto 4, 3)) ?_
    exact r_iret h rfl (by decide +kernel : decode cX11_pressed 27 = .ok (.ireturn, 1)) rfl ⟨rfl, _, rfl, H⟩
theorem W_Main_pressed (x1 : Int) (M : Mm) {P : Int → Mm → Prop} (H : ∃ P1 : Int → Mm → Prop, S_Main_isHouse x1 M P1 ∧ ∀ (r1 : Int) (M1 : Mm), P1 r1 M1 → (rng r1) ∧ (r1 = 0 → (P (-1) M1)) ∧ (r1 ≠ 0 → (∃ t101 : Nat, M1 1 1 = (t101 : Int) ∧ At shC NN t101 (.inl 7) ∧ ∃ P2 : Int → Mm → Prop, S_Town_pressedOut t101 42 x1 M1 P2 ∧ ∀ (r2 : Int) (M2 : Mm), P2 r2 M2 → P r2 M2))) : S_Main_pressed x1 M P := e_Main_pressed x1 M (fun _ h => w_Main_pressed_0 h x1 M H)
set_option maxHeartbeats 4000000 in
set_option maxRecDepth 100000 in
theorem w_Main_blot_0 {P : Int → Mm → Prop} {K : Nat → Rr → Nat → List (Nat × AV) → List AV → Mm → Prop} (h : EK shC yX11_blot cX11_blot 3 (some .int) 4 NN NN (QI RRC P) K) (x1 : Int) (x2 : Int) (M : Mm)
    (H : ∃ P1 : Int → Mm → Prop, S_Main_isHouse x1 M P1 ∧ ∀ (r1 : Int) (M1 : Mm), P1 r1 M1 → (rng r1) ∧ (r1 = 0 → (P (-1) M1)) ∧ (r1 ≠ 0 → (∃ P2 : Int → Mm → Prop, S_Main_isHouse x2 M1 P2 ∧ ∀ (r2 : Int) (M2 : Mm), P2 r2 M2 → (rng r2) ∧ (r2 = 0 → (P (-1) M2)) ∧ (r2 ≠ 0 → ((rng x1) ∧ (rng x2) ∧ (x1 = x2 → (P (-1) M2)) ∧ (x1 ≠ x2 → (∃ t101 : Nat, M2 1 1 = (t101 : Int) ∧ At shC NN t101 (.inl 7) ∧ ∃ P3 : Int → Mm → Prop, S_Town_isCat t101 x1 M2 P3 ∧ ∀ (r3 : Int) (M3 : Mm), P3 r3 M3 → (rng r3) ∧ (r3 = 0 → (∃ t102 : Nat, M3 1 1 = (t102 : Int) ∧ At shC NN t102 (.inl 7) ∧ ∃ P4 : Int → Mm → Prop, S_Town_printedOn t102 42 x1 x2 M3 P4 ∧ ∀ (r4 : Int) (M4 : Mm), P4 r4 M4 → P r4 M4)) ∧ (r3 ≠ 0 → (P (-1) M3))))))))) :
    K NN RRC 0 [(0, vr 1), (1, vi x1), (2, vi x2)] [] M := by
  refine r_aloadn h (q := 0) 0 rfl (by decide +kernel : decode cX11_blot 0 = .ok (.aload_n 0, 1)) ?_
  refine r_iloadn h (q := 1) 1 rfl (by decide +kernel : decode cX11_blot 1 = .ok (.iload_n 1, 1)) ?_
  obtain ⟨P1, hSP1, H⟩ := H
  refine r_callV h (as := [vi x1]) (S := []) (b := 1) m_Main_125 hSP1 (by decide) (Nat.le_refl _) rfl at1C rfl (Nat.le_of_ble_eq_true rfl) (by decide +kernel : decode cX11_blot 2 = .ok (.invokevirtual 125, 3)) ?_
  rintro _ _ M1 ⟨rfl, r1, rfl, hP⟩
  have H := H r1 M1 hP
  show K NN RRC _ _ [vi r1] _
  obtain ⟨g1, H⟩ := H
  obtain ⟨H1, H2⟩ := H
  refine r_if_eq h 32 g1 (by decide) (by decide +kernel : decode cX11_blot 5 = .ok (.ifCond .eq 27, 3)) (fun hc => ?_) (fun hc => ?_)
  · have H := H1 hc
    refine r_iconst h (v := (-1)) (by decide +kernel : decode cX11_blot 32 = .ok (.iconst (-1), 1)) ?_
    exact r_iret h rfl (by decide +kernel : decode cX11_blot 33 = .ok (.ireturn, 1)) rfl ⟨rfl, _, rfl, H⟩
  · have H := H2 hc
    refine r_aloadn h (q := 0) 0 rfl (by decide +kernel : decode cX11_blot 8 = .ok (.aload_n 0, 1)) ?_
    refine r_iloadn h (q := 2) 2 rfl (by decide +kernel : decode cX11_blot 9 = .ok (.iload_n 2, 1)) ?_
    obtain ⟨P2, hSP2, H⟩ := H
    refine r_callV h (as := [vi x2]) (S := []) (b := 1) m_Main_125 hSP2 (by decide) (Nat.le_refl _) rfl at1C rfl (Nat.le_of_ble_eq_true rfl) (by decide +kernel : decode cX11_blot 10 = .ok (.invokevirtual 125, 3)) ?_
    rintro _ _ M2 ⟨rfl, r2, rfl, hP⟩
    have H := H r2 M2 hP
    show K NN RRC _ _ [vi r2] _
    obtain ⟨g1, H⟩ := H
    obtain ⟨H1, H2⟩ := H
    refine r_if_eq h 32 g1 (by decide) (by decide +kernel : decode cX11_blot 13 = .ok (.ifCond .eq 19, 3)) (fun hc => ?_) (fun hc => ?_)
    · have H := H1 hc
      refine r_iconst h (v := (-1)) (by decide +kernel : decode cX11_blot 32 = .ok (.iconst (-1), 1)) ?_
      exact r_iret h rfl (by decide +kernel : decode cX11_blot 33 = .ok (.ireturn, 1)) rfl ⟨rfl, _, rfl, H⟩
    · have H := H2 hc
      refine r_iloadn h (q := 1) 1 rfl (by decide +kernel : decode cX11_blot 16 = .ok (.iload_n 1, 1)) ?_
      refine r_iloadn h (q := 2) 2 rfl (by decide +kernel : decode cX11_blot 17 = .ok (.iload_n 2, 1)) ?_
      obtain ⟨g1, g2, H⟩ := H
      obtain ⟨H1, H2⟩ := H
      refine r_icmp_eq h 32 g1 g2 (by decide) (by decide +kernel : decode cX11_blot 18 = .ok (.if_icmp .eq 14, 3)) (fun hc => ?_) (fun hc => ?_)
      · have H := H1 hc
        refine r_iconst h (v := (-1)) (by decide +kernel : decode cX11_blot 32 = .ok (.iconst (-1), 1)) ?_
        exact r_iret h rfl (by decide +kernel : decode cX11_blot 33 = .ok (.ireturn, 1)) rfl ⟨rfl, _, rfl, H⟩
      · have H := H2 hc
        refine r_aloadn h (q := 0) 0 rfl (by decide +kernel : decode cX11_blot 21 = .ok (.aload_n 0, 1)) ?_
        obtain ⟨t101, htt101, hat101, H⟩ := H
        refine r_getM h (r := t101) f_Main_19 at1C htt101 hat101.2.1 (by decide +kernel : decode cX11_blot 22 = .ok (.getfield 19, 3)) ?_
        refine r_iloadn h (q := 1) 1 rfl (by decide +kernel : decode cX11_blot 25 = .ok (.iload_n 1, 1)) ?_
        obtain ⟨P3, hSP3, H⟩ := H
        refine r_callV h (as := [vi x1]) (S := []) (b := t101) m_Main_172 hSP3 (by decide) (Nat.le_refl _) rfl hat101 rfl (Nat.le_of_ble_eq_true rfl) (by decide +kernel : decode cX11_blot 26 = .ok (.invokevirtual 172, 3)) ?_
        rintro _ _ M3 ⟨rfl, r3, rfl, hP⟩
        have H := H r3 M3 hP
        show K NN RRC _ _ [vi r3] _
        obtain ⟨g1, H⟩ := H
        obtain ⟨H1, H2⟩ := H
        refine r_if_eq h 34 g1 (by decide) (by decide +kernel : decode cX11_blot 29 = .ok (.ifCond .eq 5, 3)) (fun hc => ?_) (fun hc => ?_)
        · have H := H1 hc
          refine r_aloadn h (q := 0) 0 rfl (by decide +kernel : decode cX11_blot 34 = .ok (.aload_n 0, 1)) ?_
          obtain ⟨t102, htt102, hat102, H⟩ := H
          refine r_getM h (r := t102) f_Main_19 at1C htt102 hat102.2.1 (by decide +kernel : decode cX11_blot 35 = .ok (.getfield 19, 3)) ?_
          refine r_aloadn h (q := 0) 0 rfl (by decide +kernel : decode cX11_blot 38 = .ok (.aload_n 0, 1)) ?_
          refine r_getR h (r := 41) f_Main_43 at1C rfl (by decide) (by decide +kernel : decode cX11_blot 39 = .ok (.getfield 43, 3)) ?_
          refine r_getR h (r := 42) f_Main_133 atC_41 rfl (by decide) (by decide +kernel : decode cX11_blot 42 = .ok (.getfield 133, 3)) ?_
          refine r_iloadn h (q := 1) 1 rfl (by decide +kernel : decode cX11_blot 45 = .ok (.iload_n 1, 1)) ?_
          refine r_iloadn h (q := 2) 2 rfl (by decide +kernel : decode cX11_blot 46 = .ok (.iload_n 2, 1)) ?_
          obtain ⟨P4, hSP4, H⟩ := H
          refine r_callV h (as := [vr 42, vi x1, vi x2]) (S := []) (b := t102) m_Main_175 hSP4 (by decide) (Nat.le_refl _) rfl hat102 rfl (Nat.le_of_ble_eq_true rfl) (by decide +kernel : decode cX11_blot 47 = .ok (.invokevirtual 175, 3)) ?_
          rintro _ _ M4 ⟨rfl, r4, rfl, hP⟩
          have H := H r4 M4 hP
          show K NN RRC _ _ [vi r4] _
          exact r_iret h rfl (by decide +kernel : decode cX11_blot 50 = .ok (.ireturn, 1)) rfl ⟨rfl, _, rfl, H⟩
        · have H := H2 hc
          refine r_iconst h (v := (-1)) (by decide +kernel : decode cX11_blot 32 = .ok (.iconst (-1), 1)) ?_
          exact r_iret h rfl (by decide +kernel : decode cX11_blot 33 = .ok (.ireturn, 1)) rfl ⟨rfl, _, rfl, H⟩
theorem W_Main_blot (x1 : Int) (x2 : Int) (M : Mm) {P : Int → Mm → Prop} (H : ∃ P1 : Int → Mm → Prop, S_Main_isHouse x1 M P1 ∧ ∀ (r1 : Int) (M1 : Mm), P1 r1 M1 → (rng r1) ∧ (r1 = 0 → (P (-1) M1)) ∧ (r1 ≠ 0 → (∃ P2 : Int → Mm → Prop, S_Main_isHouse x2 M1 P2 ∧ ∀ (r2 : Int) (M2 : Mm), P2 r2 M2 → (rng r2) ∧ (r2 = 0 → (P (-1) M2)) ∧ (r2 ≠ 0 → ((rng x1) ∧ (rng x2) ∧ (x1 = x2 → (P (-1) M2)) ∧ (x1 ≠ x2 → (∃ t101 : Nat, M2 1 1 = (t101 : Int) ∧ At shC NN t101 (.inl 7) ∧ ∃ P3 : Int → Mm → Prop, S_Town_isCat t101 x1 M2 P3 ∧ ∀ (r3 : Int) (M3 : Mm), P3 r3 M3 → (rng r3) ∧ (r3 = 0 → (∃ t102 : Nat, M3 1 1 = (t102 : Int) ∧ At shC NN t102 (.inl 7) ∧ ∃ P4 : Int → Mm → Prop, S_Town_printedOn t102 42 x1 x2 M3 P4 ∧ ∀ (r4 : Int) (M4 : Mm), P4 r4 M4 → P r4 M4)) ∧ (r3 ≠ 0 → (P (-1) M3))))))))) : S_Main_blot x1 x2 M P := e_Main_blot x1 x2 M (fun _ h => w_Main_blot_0 h x1 x2 M H)
set_option maxHeartbeats 4000000 in
set_option maxRecDepth 100000 in
theorem w_Main_ask_0 {P : Int → Mm → Prop} {K : Nat → Rr → Nat → List (Nat × AV) → List AV → Mm → Prop} (h : EK shC yX11_ask cX11_ask 1 (some .int) 4 NN NN (QI RRC P) K)  (M : Mm)
    (H : ∃ t101 : Nat, M 1 1 = (t101 : Int) ∧ At shC NN t101 (.inl 7) ∧ ∃ P1 : Int → Mm → Prop, S_Rows_bestQuestion 62 41 (M t101 9) M P1 ∧ ∀ (r1 : Int) (M1 : Mm), P1 r1 M1 → P r1 M1) :
    K NN RRC 0 [(0, vr 1)] [] M := by
  refine r_aloadn h (q := 0) 0 rfl (by decide +kernel : decode cX11_ask 0 = .ok (.aload_n 0, 1)) ?_
  refine r_getR h (r := 62) f_Main_72 at1C rfl (by decide) (by decide +kernel : decode cX11_ask 1 = .ok (.getfield 72, 3)) ?_
  refine r_aloadn h (q := 0) 0 rfl (by decide +kernel : decode cX11_ask 4 = .ok (.aload_n 0, 1)) ?_
  refine r_getR h (r := 41) f_Main_43 at1C rfl (by decide) (by decide +kernel : decode cX11_ask 5 = .ok (.getfield 43, 3)) ?_
  refine r_aloadn h (q := 0) 0 rfl (by decide +kernel : decode cX11_ask 8 = .ok (.aload_n 0, 1)) ?_
  obtain ⟨t101, htt101, hat101, H⟩ := H
  refine r_getM h (r := t101) f_Main_19 at1C htt101 hat101.2.1 (by decide +kernel : decode cX11_ask 9 = .ok (.getfield 19, 3)) ?_
  refine r_getI h f_Main_151 hat101 (by decide +kernel : decode cX11_ask 12 = .ok (.getfield 151, 3)) ?_
  obtain ⟨P1, hSP1, H⟩ := H
  refine r_callV h (as := [vr 41, vi (M t101 9)]) (S := []) (b := 62) m_Main_278 hSP1 (by decide) (Nat.le_refl _) rfl atC_62 rfl (Nat.le_of_ble_eq_true rfl) (by decide +kernel : decode cX11_ask 15 = .ok (.invokevirtual 278, 3)) ?_
  rintro _ _ M1 ⟨rfl, r1, rfl, hP⟩
  have H := H r1 M1 hP
  show K NN RRC _ _ [vi r1] _
  exact r_iret h rfl (by decide +kernel : decode cX11_ask 18 = .ok (.ireturn, 1)) rfl ⟨rfl, _, rfl, H⟩
theorem W_Main_ask  (M : Mm) {P : Int → Mm → Prop} (H : ∃ t101 : Nat, M 1 1 = (t101 : Int) ∧ At shC NN t101 (.inl 7) ∧ ∃ P1 : Int → Mm → Prop, S_Rows_bestQuestion 62 41 (M t101 9) M P1 ∧ ∀ (r1 : Int) (M1 : Mm), P1 r1 M1 → P r1 M1) : S_Main_ask  M P := e_Main_ask  M (fun _ h => w_Main_ask_0 h  M H)
set_option maxHeartbeats 4000000 in
set_option maxRecDepth 100000 in
theorem w_Main_sets_0 {P : Int → Mm → Prop} {K : Nat → Rr → Nat → List (Nat × AV) → List AV → Mm → Prop} (h : EK shC yX11_sets cX11_sets 2 (some .int) 5 NN NN (QI RRC P) K) (x1 : Int) (M : Mm)
    (H : ∃ t101 : Nat, M 1 1 = (t101 : Int) ∧ At shC NN t101 (.inl 7) ∧ ∃ P1 : Mm → Prop, S_Secrets_weigh 69 t101 42 (M 41 5) M P1 ∧ ∀ M1 : Mm, P1 M1 → (rng x1) ∧ (x1 ≠ 0 → ((rng x1) ∧ (x1 < 0 → (P (-1) M1)) ∧ (¬ (x1 < 0) → ((rng x1) ∧ (2 < x1 → (P (-1) M1)) ∧ (¬ (2 < x1) → ((rng (M1 69 0)) ∧ ((M1 69 0) ≠ 0 → ((rng x1) ∧ (x1 ≠ 1 → (P (M1 69 2) M1)) ∧ (x1 = 1 → (P (M1 69 1) M1)))) ∧ ((M1 69 0) = 0 → (P (-1) M1)))))))) ∧ (x1 = 0 → (P (M1 69 0) M1))) :
    K NN RRC 0 [(0, vr 1), (1, vi x1)] [] M := by
  refine r_aloadn h (q := 0) 0 rfl (by decide +kernel : decode cX11_sets 0 = .ok (.aload_n 0, 1)) ?_
  refine r_getR h (r := 69) f_Main_79 at1C rfl (by decide) (by decide +kernel : decode cX11_sets 1 = .ok (.getfield 79, 3)) ?_
  refine r_aloadn h (q := 0) 0 rfl (by decide +kernel : decode cX11_sets 4 = .ok (.aload_n 0, 1)) ?_
  obtain ⟨t101, htt101, hat101, H⟩ := H
  refine r_getM h (r := t101) f_Main_19 at1C htt101 hat101.2.1 (by decide +kernel : decode cX11_sets 5 = .ok (.getfield 19, 3)) ?_
  refine r_aloadn h (q := 0) 0 rfl (by decide +kernel : decode cX11_sets 8 = .ok (.aload_n 0, 1)) ?_
  refine r_getR h (r := 41) f_Main_43 at1C rfl (by decide) (by decide +kernel : decode cX11_sets 9 = .ok (.getfield 43, 3)) ?_
  refine r_getR h (r := 42) f_Main_133 atC_41 rfl (by decide) (by decide +kernel : decode cX11_sets 12 = .ok (.getfield 133, 3)) ?_
  refine r_aloadn h (q := 0) 0 rfl (by decide +kernel : decode cX11_sets 15 = .ok (.aload_n 0, 1)) ?_
  refine r_getR h (r := 41) f_Main_43 at1C rfl (by decide) (by decide +kernel : decode cX11_sets 16 = .ok (.getfield 43, 3)) ?_
  refine r_getI h f_Main_249 atC_41 (by decide +kernel : decode cX11_sets 19 = .ok (.getfield 249, 3)) ?_
  obtain ⟨P1, hSP1, H⟩ := H
  refine r_callV h (as := [vr t101, vr 42, vi (M 41 5)]) (S := []) (b := 69) m_Main_252 hSP1 (by decide) (Nat.le_refl _) rfl atC_69 rfl (Nat.le_of_ble_eq_true rfl) (by decide +kernel : decode cX11_sets 22 = .ok (.invokevirtual 252, 3)) ?_
  rintro _ _ M1 ⟨rfl, rfl, hP⟩
  have H := H M1 hP
  show K NN RRC _ _ [] _
  refine r_iloadn h (q := 1) 1 rfl (by decide +kernel : decode cX11_sets 25 = .ok (.iload_n 1, 1)) ?_
  obtain ⟨g1, H⟩ := H
  obtain ⟨H1, H2⟩ := H
  refine r_if_ne h 37 g1 (by decide) (by decide +kernel : decode cX11_sets 26 = .ok (.ifCond .ne 11, 3)) (fun hc => ?_) (fun hc => ?_)
  · have H := H1 hc
    refine r_iloadn h (q := 1) 1 rfl (by decide +kernel : decode cX11_sets 37 = .ok (.iload_n 1, 1)) ?_
    obtain ⟨g1, H⟩ := H
    obtain ⟨H1, H2⟩ := H
    refine r_if_lt h 56 g1 (by decide) (by decide +kernel : decode cX11_sets 38 = .ok (.ifCond .lt 18, 3)) (fun hc => ?_) (fun hc => ?_)
    · have H := H1 hc
      refine r_iconst h (v := (-1)) (by decide +kernel : decode cX11_sets 56 = .ok (.iconst (-1), 1)) ?_
      exact r_iret h rfl (by decide +kernel : decode cX11_sets 57 = .ok (.ireturn, 1)) rfl ⟨rfl, _, rfl, H⟩
    · have H := H2 hc
      refine r_iloadn h (q := 1) 1 rfl (by decide +kernel : decode cX11_sets 41 = .ok (.iload_n 1, 1)) ?_
      refine r_iconst h (v := 2) (by decide +kernel : decode cX11_sets 42 = .ok (.iconst 2, 1)) ?_
      obtain ⟨g1, H⟩ := H
      obtain ⟨H1, H2⟩ := H
      refine r_icmp_gt h 56 g1 (by decide) (by decide) (by decide +kernel : decode cX11_sets 43 = .ok (.if_icmp .gt 13, 3)) (fun hc => ?_) (fun hc => ?_)
      · have H := H1 hc
        refine r_iconst h (v := (-1)) (by decide +kernel : decode cX11_sets 56 = .ok (.iconst (-1), 1)) ?_
        exact r_iret h rfl (by decide +kernel : decode cX11_sets 57 = .ok (.ireturn, 1)) rfl ⟨rfl, _, rfl, H⟩
      · have H := H2 hc
        refine r_aloadn h (q := 0) 0 rfl (by decide +kernel : decode cX11_sets 46 = .ok (.aload_n 0, 1)) ?_
        refine r_getR h (r := 69) f_Main_79 at1C rfl (by decide) (by decide +kernel : decode cX11_sets 47 = .ok (.getfield 79, 3)) ?_
        refine r_getI h f_Main_256 atC_69 (by decide +kernel : decode cX11_sets 50 = .ok (.getfield 256, 3)) ?_
        obtain ⟨g1, H⟩ := H
        obtain ⟨H1, H2⟩ := H
        refine r_if_ne h 58 g1 (by decide) (by decide +kernel : decode cX11_sets 53 = .ok (.ifCond .ne 5, 3)) (fun hc => ?_) (fun hc => ?_)
        · have H := H1 hc
          refine r_iloadn h (q := 1) 1 rfl (by decide +kernel : decode cX11_sets 58 = .ok (.iload_n 1, 1)) ?_
          refine r_iconst h (v := 1) (by decide +kernel : decode cX11_sets 59 = .ok (.iconst 1, 1)) ?_
          obtain ⟨g1, H⟩ := H
          obtain ⟨H1, H2⟩ := H
          refine r_icmp_ne h 73 g1 (by decide) (by decide) (by decide +kernel : decode cX11_sets 60 = .ok (.if_icmp .ne 13, 3)) (fun hc => ?_) (fun hc => ?_)
          · have H := H1 hc
            refine r_aloadn h (q := 0) 0 rfl (by decide +kernel : decode cX11_sets 73 = .ok (.aload_n 0, 1)) ?_
            refine r_getR h (r := 69) f_Main_79 at1C rfl (by decide) (by decide +kernel : decode cX11_sets 74 = .ok (.getfield 79, 3)) ?_
            refine r_getI h f_Main_262 atC_69 (by decide +kernel : decode cX11_sets 77 = .ok (.getfield 262, 3)) ?_
            exact r_iret h rfl (by decide +kernel : decode cX11_sets 80 = .ok (.ireturn, 1)) rfl ⟨rfl, _, rfl, H⟩
          · have H := H2 hc
            refine r_aloadn h (q := 0) 0 rfl (by decide +kernel : decode cX11_sets 63 = .ok (.aload_n 0, 1)) ?_
            refine r_getR h (r := 69) f_Main_79 at1C rfl (by decide) (by decide +kernel : decode cX11_sets 64 = .ok (.getfield 79, 3)) ?_
            refine r_getI h f_Main_259 atC_69 (by decide +kernel : decode cX11_sets 67 = .ok (.getfield 259, 3)) ?_
            refine r_goto h 80 (by decide) (by decide +kernel : decode cX11_sets 70 = .ok (.goto 10, 3)) ?_
            exact r_iret h rfl (by decide +kernel : decode cX11_sets 80 = .ok (.ireturn, 1)) rfl ⟨rfl, _, rfl, H⟩
        · have H := H2 hc
          refine r_iconst h (v := (-1)) (by decide +kernel : decode cX11_sets 56 = .ok (.iconst (-1), 1)) ?_
          exact r_iret h rfl (by decide +kernel : decode cX11_sets 57 = .ok (.ireturn, 1)) rfl ⟨rfl, _, rfl, H⟩
  · have H := H2 hc
    refine r_aloadn h (q := 0) 0 rfl (by decide +kernel : decode cX11_sets 29 = .ok (.aload_n 0, 1)) ?_
    refine r_getR h (r := 69) f_Main_79 at1C rfl (by decide) (by decide +kernel : decode cX11_sets 30 = .ok (.getfield 79, 3)) ?_
    refine r_getI h f_Main_256 atC_69 (by decide +kernel : decode cX11_sets 33 = .ok (.getfield 256, 3)) ?_
    exact r_iret h rfl (by decide +kernel : decode cX11_sets 36 = .ok (.ireturn, 1)) rfl ⟨rfl, _, rfl, H⟩
theorem W_Main_sets (x1 : Int) (M : Mm) {P : Int → Mm → Prop} (H : ∃ t101 : Nat, M 1 1 = (t101 : Int) ∧ At shC NN t101 (.inl 7) ∧ ∃ P1 : Mm → Prop, S_Secrets_weigh 69 t101 42 (M 41 5) M P1 ∧ ∀ M1 : Mm, P1 M1 → (rng x1) ∧ (x1 ≠ 0 → ((rng x1) ∧ (x1 < 0 → (P (-1) M1)) ∧ (¬ (x1 < 0) → ((rng x1) ∧ (2 < x1 → (P (-1) M1)) ∧ (¬ (2 < x1) → ((rng (M1 69 0)) ∧ ((M1 69 0) ≠ 0 → ((rng x1) ∧ (x1 ≠ 1 → (P (M1 69 2) M1)) ∧ (x1 = 1 → (P (M1 69 1) M1)))) ∧ ((M1 69 0) = 0 → (P (-1) M1)))))))) ∧ (x1 = 0 → (P (M1 69 0) M1))) : S_Main_sets x1 M P := e_Main_sets x1 M (fun _ h => w_Main_sets_0 h x1 M H)
set_option maxHeartbeats 4000000 in
set_option maxRecDepth 100000 in
theorem w_Main_look_0 {P : Int → Mm → Prop} {K : Nat → Rr → Nat → List (Nat × AV) → List AV → Mm → Prop} (h : EK shC yX11_look cX11_look 1 (some .int) 5 NN NN (QI RRC P) K)  (M : Mm)
    (H : ∃ t101 : Nat, M 1 1 = (t101 : Int) ∧ At shC NN t101 (.inl 7) ∧ ∃ P1 : Mm → Prop, S_Secrets_weigh 69 t101 42 (M 41 5) M P1 ∧ ∀ M1 : Mm, P1 M1 → ∃ t102 : Nat, M1 1 1 = (t102 : Int) ∧ At shC NN t102 (.inl 7) ∧ ∃ P2 : Int → Mm → Prop, S_Secrets_bestParting 69 (M1 t102 9) M1 P2 ∧ ∀ (r2 : Int) (M2 : Mm), P2 r2 M2 → P r2 M2) :
    K NN RRC 0 [(0, vr 1)] [] M := by
  refine r_aloadn h (q := 0) 0 rfl (by decide +kernel : decode cX11_look 0 = .ok (.aload_n 0, 1)) ?_
  refine r_getR h (r := 69) f_Main_79 at1C rfl (by decide) (by decide +kernel : decode cX11_look 1 = .ok (.getfield 79, 3)) ?_
  refine r_aloadn h (q := 0) 0 rfl (by decide +kernel : decode cX11_look 4 = .ok (.aload_n 0, 1)) ?_
  obtain ⟨t101, htt101, hat101, H⟩ := H
  refine r_getM h (r := t101) f_Main_19 at1C htt101 hat101.2.1 (by decide +kernel : decode cX11_look 5 = .ok (.getfield 19, 3)) ?_
  refine r_aloadn h (q := 0) 0 rfl (by decide +kernel : decode cX11_look 8 = .ok (.aload_n 0, 1)) ?_
  refine r_getR h (r := 41) f_Main_43 at1C rfl (by decide) (by decide +kernel : decode cX11_look 9 = .ok (.getfield 43, 3)) ?_
  refine r_getR h (r := 42) f_Main_133 atC_41 rfl (by decide) (by decide +kernel : decode cX11_look 12 = .ok (.getfield 133, 3)) ?_
  refine r_aloadn h (q := 0) 0 rfl (by decide +kernel : decode cX11_look 15 = .ok (.aload_n 0, 1)) ?_
  refine r_getR h (r := 41) f_Main_43 at1C rfl (by decide) (by decide +kernel : decode cX11_look 16 = .ok (.getfield 43, 3)) ?_
  refine r_getI h f_Main_249 atC_41 (by decide +kernel : decode cX11_look 19 = .ok (.getfield 249, 3)) ?_
  obtain ⟨P1, hSP1, H⟩ := H
  refine r_callV h (as := [vr t101, vr 42, vi (M 41 5)]) (S := []) (b := 69) m_Main_252 hSP1 (by decide) (Nat.le_refl _) rfl atC_69 rfl (Nat.le_of_ble_eq_true rfl) (by decide +kernel : decode cX11_look 22 = .ok (.invokevirtual 252, 3)) ?_
  rintro _ _ M1 ⟨rfl, rfl, hP⟩
  have H := H M1 hP
  show K NN RRC _ _ [] _
  refine r_aloadn h (q := 0) 0 rfl (by decide +kernel : decode cX11_look 25 = .ok (.aload_n 0, 1)) ?_
  refine r_getR h (r := 69) f_Main_79 at1C rfl (by decide) (by decide +kernel : decode cX11_look 26 = .ok (.getfield 79, 3)) ?_
  refine r_aloadn h (q := 0) 0 rfl (by decide +kernel : decode cX11_look 29 = .ok (.aload_n 0, 1)) ?_
  obtain ⟨t102, htt102, hat102, H⟩ := H
  refine r_getM h (r := t102) f_Main_19 at1C htt102 hat102.2.1 (by decide +kernel : decode cX11_look 30 = .ok (.getfield 19, 3)) ?_
  refine r_getI h f_Main_151 hat102 (by decide +kernel : decode cX11_look 33 = .ok (.getfield 151, 3)) ?_
  obtain ⟨P2, hSP2, H⟩ := H
  refine r_callV h (as := [vi (M1 t102 9)]) (S := []) (b := 69) m_Main_265 hSP2 (by decide) (Nat.le_refl _) rfl atC_69 rfl (Nat.le_of_ble_eq_true rfl) (by decide +kernel : decode cX11_look 36 = .ok (.invokevirtual 265, 3)) ?_
  rintro _ _ M2 ⟨rfl, r2, rfl, hP⟩
  have H := H r2 M2 hP
  show K NN RRC _ _ [vi r2] _
  exact r_iret h rfl (by decide +kernel : decode cX11_look 39 = .ok (.ireturn, 1)) rfl ⟨rfl, _, rfl, H⟩
theorem W_Main_look  (M : Mm) {P : Int → Mm → Prop} (H : ∃ t101 : Nat, M 1 1 = (t101 : Int) ∧ At shC NN t101 (.inl 7) ∧ ∃ P1 : Mm → Prop, S_Secrets_weigh 69 t101 42 (M 41 5) M P1 ∧ ∀ M1 : Mm, P1 M1 → ∃ t102 : Nat, M1 1 1 = (t102 : Int) ∧ At shC NN t102 (.inl 7) ∧ ∃ P2 : Int → Mm → Prop, S_Secrets_bestParting 69 (M1 t102 9) M1 P2 ∧ ∀ (r2 : Int) (M2 : Mm), P2 r2 M2 → P r2 M2) : S_Main_look  M P := e_Main_look  M (fun _ h => w_Main_look_0 h  M H)
set_option maxHeartbeats 4000000 in
set_option maxRecDepth 100000 in
theorem w_Main_run_0 {P : Int → Mm → Prop} {K : Nat → Rr → Nat → List (Nat × AV) → List AV → Mm → Prop} (h : EK shC yX11_run cX11_run 1 (some .int) 6 NN NN (QI RRC P) K)  (M : Mm)
    (H : ∃ P1 : Mm → Prop, S_Main_remember  M P1 ∧ ∀ M1 : Mm, P1 M1 → ∃ t101 : Nat, M1 1 1 = (t101 : Int) ∧ At shC NN t101 (.inl 7) ∧ ∃ P2 : Mm → Prop, S_Mangle_drawThrough 61 t101 42 M1 P2 ∧ ∀ M2 : Mm, P2 M2 → P (M2 61 0) M2) :
    K NN RRC 0 [(0, vr 1)] [] M := by
  refine r_aloadn h (q := 0) 0 rfl (by decide +kernel : decode cX11_run 0 = .ok (.aload_n 0, 1)) ?_
  obtain ⟨P1, hSP1, H⟩ := H
  refine r_callV h (as := []) (S := []) (b := 1) m_Main_179 hSP1 (by decide) (Nat.le_refl _) rfl at1C rfl (Nat.le_of_ble_eq_true rfl) (by decide +kernel : decode cX11_run 1 = .ok (.invokevirtual 179, 3)) ?_
  rintro _ _ M1 ⟨rfl, rfl, hP⟩
  have H := H M1 hP
  show K NN RRC _ _ [] _
  refine r_aloadn h (q := 0) 0 rfl (by decide +kernel : decode cX11_run 4 = .ok (.aload_n 0, 1)) ?_
  refine r_getR h (r := 61) f_Main_65 at1C rfl (by decide) (by decide +kernel : decode cX11_run 5 = .ok (.getfield 65, 3)) ?_
  refine r_aloadn h (q := 0) 0 rfl (by decide +kernel : decode cX11_run 8 = .ok (.aload_n 0, 1)) ?_
  obtain ⟨t101, htt101, hat101, H⟩ := H
  refine r_getM h (r := t101) f_Main_19 at1C htt101 hat101.2.1 (by decide +kernel : decode cX11_run 9 = .ok (.getfield 19, 3)) ?_
  refine r_aloadn h (q := 0) 0 rfl (by decide +kernel : decode cX11_run 12 = .ok (.aload_n 0, 1)) ?_
  refine r_getR h (r := 41) f_Main_43 at1C rfl (by decide) (by decide +kernel : decode cX11_run 13 = .ok (.getfield 43, 3)) ?_
  refine r_getR h (r := 42) f_Main_133 atC_41 rfl (by decide) (by decide +kernel : decode cX11_run 16 = .ok (.getfield 133, 3)) ?_
  obtain ⟨P2, hSP2, H⟩ := H
  refine r_callV h (as := [vr t101, vr 42]) (S := []) (b := 61) m_Main_190 hSP2 (by decide) (Nat.le_refl _) rfl atC_61 rfl (Nat.le_of_ble_eq_true rfl) (by decide +kernel : decode cX11_run 19 = .ok (.invokevirtual 190, 3)) ?_
  rintro _ _ M2 ⟨rfl, rfl, hP⟩
  have H := H M2 hP
  show K NN RRC _ _ [] _
  refine r_aloadn h (q := 0) 0 rfl (by decide +kernel : decode cX11_run 22 = .ok (.aload_n 0, 1)) ?_
  refine r_getR h (r := 61) f_Main_65 at1C rfl (by decide) (by decide +kernel : decode cX11_run 23 = .ok (.getfield 65, 3)) ?_
  refine r_getI h f_Main_194 atC_61 (by decide +kernel : decode cX11_run 26 = .ok (.getfield 194, 3)) ?_
  exact r_iret h rfl (by decide +kernel : decode cX11_run 29 = .ok (.ireturn, 1)) rfl ⟨rfl, _, rfl, H⟩
theorem W_Main_run  (M : Mm) {P : Int → Mm → Prop} (H : ∃ P1 : Mm → Prop, S_Main_remember  M P1 ∧ ∀ M1 : Mm, P1 M1 → ∃ t101 : Nat, M1 1 1 = (t101 : Int) ∧ At shC NN t101 (.inl 7) ∧ ∃ P2 : Mm → Prop, S_Mangle_drawThrough 61 t101 42 M1 P2 ∧ ∀ M2 : Mm, P2 M2 → P (M2 61 0) M2) : S_Main_run  M P := e_Main_run  M (fun _ h => w_Main_run_0 h  M H)
set_option maxHeartbeats 4000000 in
set_option maxRecDepth 100000 in
theorem w_Main_around_0 {P : Int → Mm → Prop} {K : Nat → Rr → Nat → List (Nat × AV) → List AV → Mm → Prop} (h : EK shC yX11_around cX11_around 1 (some .int) 6 NN NN (QI RRC P) K)  (M : Mm)
    (H : ∃ t101 : Nat, M 1 1 = (t101 : Int) ∧ At shC NN t101 (.inl 7) ∧ ∃ P1 : Int → Mm → Prop, S_Rows_leastRoad 62 t101 42 M P1 ∧ ∀ (r1 : Int) (M1 : Mm), P1 r1 M1 → P r1 M1) :
    K NN RRC 0 [(0, vr 1)] [] M := by
  refine r_aloadn h (q := 0) 0 rfl (by decide +kernel : decode cX11_around 0 = .ok (.aload_n 0, 1)) ?_
  refine r_getR h (r := 62) f_Main_72 at1C rfl (by decide) (by decide +kernel : decode cX11_around 1 = .ok (.getfield 72, 3)) ?_
  refine r_aloadn h (q := 0) 0 rfl (by decide +kernel : decode cX11_around 4 = .ok (.aload_n 0, 1)) ?_
  obtain ⟨t101, htt101, hat101, H⟩ := H
  refine r_getM h (r := t101) f_Main_19 at1C htt101 hat101.2.1 (by decide +kernel : decode cX11_around 5 = .ok (.getfield 19, 3)) ?_
  refine r_aloadn h (q := 0) 0 rfl (by decide +kernel : decode cX11_around 8 = .ok (.aload_n 0, 1)) ?_
  refine r_getR h (r := 41) f_Main_43 at1C rfl (by decide) (by decide +kernel : decode cX11_around 9 = .ok (.getfield 43, 3)) ?_
  refine r_getR h (r := 42) f_Main_133 atC_41 rfl (by decide) (by decide +kernel : decode cX11_around 12 = .ok (.getfield 133, 3)) ?_
  obtain ⟨P1, hSP1, H⟩ := H
  refine r_callV h (as := [vr t101, vr 42]) (S := []) (b := 62) m_Main_238 hSP1 (by decide) (Nat.le_refl _) rfl atC_62 rfl (Nat.le_of_ble_eq_true rfl) (by decide +kernel : decode cX11_around 15 = .ok (.invokevirtual 238, 3)) ?_
  rintro _ _ M1 ⟨rfl, r1, rfl, hP⟩
  have H := H r1 M1 hP
  show K NN RRC _ _ [vi r1] _
  exact r_iret h rfl (by decide +kernel : decode cX11_around 18 = .ok (.ireturn, 1)) rfl ⟨rfl, _, rfl, H⟩
theorem W_Main_around  (M : Mm) {P : Int → Mm → Prop} (H : ∃ t101 : Nat, M 1 1 = (t101 : Int) ∧ At shC NN t101 (.inl 7) ∧ ∃ P1 : Int → Mm → Prop, S_Rows_leastRoad 62 t101 42 M P1 ∧ ∀ (r1 : Int) (M1 : Mm), P1 r1 M1 → P r1 M1) : S_Main_around  M P := e_Main_around  M (fun _ h => w_Main_around_0 h  M H)
set_option maxHeartbeats 4000000 in
set_option maxRecDepth 100000 in
theorem w_Main_till_0 {P : Int → Mm → Prop} {K : Nat → Rr → Nat → List (Nat × AV) → List AV → Mm → Prop} (h : EK shC yX11_till cX11_till 3 (some .int) 6 NN NN (QI RRC P) K) (x1 : Int) (M : Mm)
    (H : (rng x1) ∧ (x1 < 1 → (P (-1) M)) ∧ (¬ (x1 < 1) → ((rng x1) ∧ (x1 ≤ 693 → (∃ P1 : Mm → Prop, S_State_copyFrom 53 42 M P1 ∧ ∀ M1 : Mm, P1 M1 → K NN RRC 30 [(0, vr 1), (1, vi x1), (2, vi 0)] [] M1)) ∧ (¬ (x1 ≤ 693) → (P (-1) M))))) :
    K NN RRC 0 [(0, vr 1), (1, vi x1)] [] M := by
  refine r_iloadn h (q := 1) 1 rfl (by decide +kernel : decode cX11_till 0 = .ok (.iload_n 1, 1)) ?_
  refine r_iconst h (v := 1) (by decide +kernel : decode cX11_till 1 = .ok (.iconst 1, 1)) ?_
  obtain ⟨g1, H⟩ := H
  obtain ⟨H1, H2⟩ := H
  refine r_icmp_lt h 12 g1 (by decide) (by decide) (by decide +kernel : decode cX11_till 2 = .ok (.if_icmp .lt 10, 3)) (fun hc => ?_) (fun hc => ?_)
  · have H := H1 hc
    refine r_iconst h (v := (-1)) (by decide +kernel : decode cX11_till 12 = .ok (.iconst (-1), 1)) ?_
    exact r_iret h rfl (by decide +kernel : decode cX11_till 13 = .ok (.ireturn, 1)) rfl ⟨rfl, _, rfl, H⟩
  · have H := H2 hc
    refine r_iloadn h (q := 1) 1 rfl (by decide +kernel : decode cX11_till 5 = .ok (.iload_n 1, 1)) ?_
    refine r_sipush h (v := 693) (by decide) (by decide +kernel : decode cX11_till 6 = .ok (.sipush 693, 3)) ?_
    obtain ⟨g1, H⟩ := H
    obtain ⟨H1, H2⟩ := H
    refine r_icmp_le h 14 g1 (by decide) (by decide) (by decide +kernel : decode cX11_till 9 = .ok (.if_icmp .le 5, 3)) (fun hc => ?_) (fun hc => ?_)
    · have H := H1 hc
      refine r_aloadn h (q := 0) 0 rfl (by decide +kernel : decode cX11_till 14 = .ok (.aload_n 0, 1)) ?_
      refine r_getR h (r := 53) f_Main_47 at1C rfl (by decide) (by decide +kernel : decode cX11_till 15 = .ok (.getfield 47, 3)) ?_
      refine r_aloadn h (q := 0) 0 rfl (by decide +kernel : decode cX11_till 18 = .ok (.aload_n 0, 1)) ?_
      refine r_getR h (r := 41) f_Main_43 at1C rfl (by decide) (by decide +kernel : decode cX11_till 19 = .ok (.getfield 43, 3)) ?_
      refine r_getR h (r := 42) f_Main_133 atC_41 rfl (by decide) (by decide +kernel : decode cX11_till 22 = .ok (.getfield 133, 3)) ?_
      obtain ⟨P1, hSP1, H⟩ := H
      refine r_callV h (as := [vr 42]) (S := []) (b := 53) m_Main_213 hSP1 (by decide) (Nat.le_refl _) rfl atC_53 rfl (Nat.le_of_ble_eq_true rfl) (by decide +kernel : decode cX11_till 25 = .ok (.invokevirtual 213, 3)) ?_
      rintro _ _ M1 ⟨rfl, rfl, hP⟩
      have H := H M1 hP
      show K NN RRC _ _ [] _
      refine r_iconst h (v := 0) (by decide +kernel : decode cX11_till 28 = .ok (.iconst 0, 1)) ?_
      refine r_istoren h (q := 2) (L' := [(2, vi 0), (0, vr 1), (1, vi x1)]) (by decide) rfl (by decide +kernel : decode cX11_till 29 = .ok (.istore_n 2, 1)) ?_
      refine r_drop h [1, 2, 0] rfl ?_
      exact H
    · have H := H2 hc
      refine r_iconst h (v := (-1)) (by decide +kernel : decode cX11_till 12 = .ok (.iconst (-1), 1)) ?_
      exact r_iret h rfl (by decide +kernel : decode cX11_till 13 = .ok (.ireturn, 1)) rfl ⟨rfl, _, rfl, H⟩
set_option maxHeartbeats 4000000 in
set_option maxRecDepth 100000 in
theorem w_Main_till_30 {P : Int → Mm → Prop} {K : Nat → Rr → Nat → List (Nat × AV) → List AV → Mm → Prop} (h : EK shC yX11_till cX11_till 3 (some .int) 6 NN NN (QI RRC P) K) (x1 : Int) (x2 : Int) (M : Mm)
    (H : (rng x2) ∧ (99 < x2 → (P (-1) M)) ∧ (¬ (99 < x2) → (∃ t101 : Nat, M 1 1 = (t101 : Int) ∧ At shC NN t101 (.inl 7) ∧ ∃ P1 : Int → Mm → Prop, S_State_allWet 53 (M t101 9) M P1 ∧ ∀ (r1 : Int) (M1 : Mm), P1 r1 M1 → (rng r1) ∧ (rng x1) ∧ (r1 < x1 → (∃ t102 : Nat, M1 1 1 = (t102 : Int) ∧ At shC NN t102 (.inl 7) ∧ ∃ P2 : Mm → Prop, S_Mangle_drawThrough 61 t102 53 M1 P2 ∧ ∀ M2 : Mm, P2 M2 → K NN RRC 30 [(0, vr 1), (1, vi x1), (2, vi (x2 + 1))] [] M2)) ∧ (¬ (r1 < x1) → (P x2 M1))))) :
    K NN RRC 30 [(0, vr 1), (1, vi x1), (2, vi x2)] [] M := by
  refine r_iloadn h (q := 2) 2 rfl (by decide +kernel : decode cX11_till 30 = .ok (.iload_n 2, 1)) ?_
  refine r_bipush h (v := 99) (by decide) (by decide +kernel : decode cX11_till 31 = .ok (.bipush 99, 2)) ?_
  obtain ⟨g1, H⟩ := H
  obtain ⟨H1, H2⟩ := H
  refine r_icmp_gt h 77 g1 (by decide) (by decide) (by decide +kernel : decode cX11_till 33 = .ok (.if_icmp .gt 44, 3)) (fun hc => ?_) (fun hc => ?_)
  · have H := H1 hc
    refine r_iconst h (v := (-1)) (by decide +kernel : decode cX11_till 77 = .ok (.iconst (-1), 1)) ?_
    exact r_iret h rfl (by decide +kernel : decode cX11_till 78 = .ok (.ireturn, 1)) rfl ⟨rfl, _, rfl, H⟩
  · have H := H2 hc
    refine r_aloadn h (q := 0) 0 rfl (by decide +kernel : decode cX11_till 36 = .ok (.aload_n 0, 1)) ?_
    refine r_getR h (r := 53) f_Main_47 at1C rfl (by decide) (by decide +kernel : decode cX11_till 37 = .ok (.getfield 47, 3)) ?_
    refine r_aloadn h (q := 0) 0 rfl (by decide +kernel : decode cX11_till 40 = .ok (.aload_n 0, 1)) ?_
    obtain ⟨t101, htt101, hat101, H⟩ := H
    refine r_getM h (r := t101) f_Main_19 at1C htt101 hat101.2.1 (by decide +kernel : decode cX11_till 41 = .ok (.getfield 19, 3)) ?_
    refine r_getI h f_Main_151 hat101 (by decide +kernel : decode cX11_till 44 = .ok (.getfield 151, 3)) ?_
    obtain ⟨P1, hSP1, H⟩ := H
    refine r_callV h (as := [vi (M t101 9)]) (S := []) (b := 53) m_Main_242 hSP1 (by decide) (Nat.le_refl _) rfl atC_53 rfl (Nat.le_of_ble_eq_true rfl) (by decide +kernel : decode cX11_till 47 = .ok (.invokevirtual 242, 3)) ?_
    rintro _ _ M1 ⟨rfl, r1, rfl, hP⟩
    have H := H r1 M1 hP
    show K NN RRC _ _ [vi r1] _
    refine r_iloadn h (q := 1) 1 rfl (by decide +kernel : decode cX11_till 50 = .ok (.iload_n 1, 1)) ?_
    obtain ⟨g1, g2, H⟩ := H
    obtain ⟨H1, H2⟩ := H
    refine r_icmp_lt h 56 g1 g2 (by decide) (by decide +kernel : decode cX11_till 51 = .ok (.if_icmp .lt 5, 3)) (fun hc => ?_) (fun hc => ?_)
    · have H := H1 hc
      refine r_aloadn h (q := 0) 0 rfl (by decide +kernel : decode cX11_till 56 = .ok (.aload_n 0, 1)) ?_
      refine r_getR h (r := 61) f_Main_65 at1C rfl (by decide) (by decide +kernel : decode cX11_till 57 = .ok (.getfield 65, 3)) ?_
      refine r_aloadn h (q := 0) 0 rfl (by decide +kernel : decode cX11_till 60 = .ok (.aload_n 0, 1)) ?_
      obtain ⟨t102, htt102, hat102, H⟩ := H
      refine r_getM h (r := t102) f_Main_19 at1C htt102 hat102.2.1 (by decide +kernel : decode cX11_till 61 = .ok (.getfield 19, 3)) ?_
      refine r_aloadn h (q := 0) 0 rfl (by decide +kernel : decode cX11_till 64 = .ok (.aload_n 0, 1)) ?_
      refine r_getR h (r := 53) f_Main_47 at1C rfl (by decide) (by decide +kernel : decode cX11_till 65 = .ok (.getfield 47, 3)) ?_
      obtain ⟨P2, hSP2, H⟩ := H
      refine r_callV h (as := [vr t102, vr 53]) (S := []) (b := 61) m_Main_190 hSP2 (by decide) (Nat.le_refl _) rfl atC_61 rfl (Nat.le_of_ble_eq_true rfl) (by decide +kernel : decode cX11_till 68 = .ok (.invokevirtual 190, 3)) ?_
      rintro _ _ M2 ⟨rfl, rfl, hP⟩
      have H := H M2 hP
      show K NN RRC _ _ [] _
      refine r_iinc h (i := 2) (v := 1) (L' := [(2, vi (x2 + 1)), (0, vr 1), (1, vi x1)]) 2 rfl (by decide) rfl (by decide +kernel : decode cX11_till 71 = .ok (.iinc 2 1, 3)) ?_
      refine r_goto h 30 (by decide) (by decide +kernel : decode cX11_till 74 = .ok (.goto (-44), 3)) ?_
      refine r_drop h [1, 2, 0] rfl ?_
      exact H
    · have H := H2 hc
      refine r_iloadn h (q := 2) 2 rfl (by decide +kernel : decode cX11_till 54 = .ok (.iload_n 2, 1)) ?_
      exact r_iret h rfl (by decide +kernel : decode cX11_till 55 = .ok (.ireturn, 1)) rfl ⟨rfl, _, rfl, H⟩
set_option maxHeartbeats 4000000 in
set_option maxRecDepth 100000 in
theorem w_Main_dry_0 {P : Int → Mm → Prop} {K : Nat → Rr → Nat → List (Nat × AV) → List AV → Mm → Prop} (h : EK shC yX11_dry cX11_dry 3 (some .int) 6 NN NN (QI RRC P) K) (x1 : Int) (M : Mm)
    (H : (rng x1) ∧ (x1 < 0 → (P (-1) M)) ∧ (¬ (x1 < 0) → ((rng x1) ∧ (x1 ≤ 99 → (∃ P1 : Mm → Prop, S_State_copyFrom 53 42 M P1 ∧ ∀ M1 : Mm, P1 M1 → K NN RRC 28 [(0, vr 1), (1, vi x1), (2, vi 0)] [] M1)) ∧ (¬ (x1 ≤ 99) → (P (-1) M))))) :
    K NN RRC 0 [(0, vr 1), (1, vi x1)] [] M := by
  refine r_iloadn h (q := 1) 1 rfl (by decide +kernel : decode cX11_dry 0 = .ok (.iload_n 1, 1)) ?_
  obtain ⟨g1, H⟩ := H
  obtain ⟨H1, H2⟩ := H
  refine r_if_lt h 10 g1 (by decide) (by decide +kernel : decode cX11_dry 1 = .ok (.ifCond .lt 9, 3)) (fun hc => ?_) (fun hc => ?_)
  · have H := H1 hc
    refine r_iconst h (v := (-1)) (by decide +kernel : decode cX11_dry 10 = .ok (.iconst (-1), 1)) ?_
    exact r_iret h rfl (by decide +kernel : decode cX11_dry 11 = .ok (.ireturn, 1)) rfl ⟨rfl, _, rfl, H⟩
  · have H := H2 hc
    refine r_iloadn h (q := 1) 1 rfl (by decide +kernel : decode cX11_dry 4 = .ok (.iload_n 1, 1)) ?_
    refine r_bipush h (v := 99) (by decide) (by decide +kernel : decode cX11_dry 5 = .ok (.bipush 99, 2)) ?_
    obtain ⟨g1, H⟩ := H
    obtain ⟨H1, H2⟩ := H
    refine r_icmp_le h 12 g1 (by decide) (by decide) (by decide +kernel : decode cX11_dry 7 = .ok (.if_icmp .le 5, 3)) (fun hc => ?_) (fun hc => ?_)
    · have H := H1 hc
      refine r_aloadn h (q := 0) 0 rfl (by decide +kernel : decode cX11_dry 12 = .ok (.aload_n 0, 1)) ?_
      refine r_getR h (r := 53) f_Main_47 at1C rfl (by decide) (by decide +kernel : decode cX11_dry 13 = .ok (.getfield 47, 3)) ?_
      refine r_aloadn h (q := 0) 0 rfl (by decide +kernel : decode cX11_dry 16 = .ok (.aload_n 0, 1)) ?_
      refine r_getR h (r := 41) f_Main_43 at1C rfl (by decide) (by decide +kernel : decode cX11_dry 17 = .ok (.getfield 43, 3)) ?_
      refine r_getR h (r := 42) f_Main_133 atC_41 rfl (by decide) (by decide +kernel : decode cX11_dry 20 = .ok (.getfield 133, 3)) ?_
      obtain ⟨P1, hSP1, H⟩ := H
      refine r_callV h (as := [vr 42]) (S := []) (b := 53) m_Main_213 hSP1 (by decide) (Nat.le_refl _) rfl atC_53 rfl (Nat.le_of_ble_eq_true rfl) (by decide +kernel : decode cX11_dry 23 = .ok (.invokevirtual 213, 3)) ?_
      rintro _ _ M1 ⟨rfl, rfl, hP⟩
      have H := H M1 hP
      show K NN RRC _ _ [] _
      refine r_iconst h (v := 0) (by decide +kernel : decode cX11_dry 26 = .ok (.iconst 0, 1)) ?_
      refine r_istoren h (q := 2) (L' := [(2, vi 0), (0, vr 1), (1, vi x1)]) (by decide) rfl (by decide +kernel : decode cX11_dry 27 = .ok (.istore_n 2, 1)) ?_
      refine r_drop h [1, 2, 0] rfl ?_
      exact H
    · have H := H2 hc
      refine r_iconst h (v := (-1)) (by decide +kernel : decode cX11_dry 10 = .ok (.iconst (-1), 1)) ?_
      exact r_iret h rfl (by decide +kernel : decode cX11_dry 11 = .ok (.ireturn, 1)) rfl ⟨rfl, _, rfl, H⟩
set_option maxHeartbeats 4000000 in
set_option maxRecDepth 100000 in
theorem w_Main_dry_28 {P : Int → Mm → Prop} {K : Nat → Rr → Nat → List (Nat × AV) → List AV → Mm → Prop} (h : EK shC yX11_dry cX11_dry 3 (some .int) 6 NN NN (QI RRC P) K) (x1 : Int) (x2 : Int) (M : Mm)
    (H : (rng x2) ∧ (99 < x2 → (P (-1) M)) ∧ (¬ (99 < x2) → (∃ t101 : Nat, M 1 1 = (t101 : Int) ∧ At shC NN t101 (.inl 7) ∧ ∃ P1 : Int → Mm → Prop, S_State_someGoesWithin 53 x1 (M t101 9) M P1 ∧ ∀ (r1 : Int) (M1 : Mm), P1 r1 M1 → (rng r1) ∧ (r1 = 0 → (∃ t102 : Nat, M1 1 1 = (t102 : Int) ∧ At shC NN t102 (.inl 7) ∧ ∃ P2 : Mm → Prop, S_Mangle_drawThrough 61 t102 53 M1 P2 ∧ ∀ M2 : Mm, P2 M2 → K NN RRC 28 [(0, vr 1), (1, vi x1), (2, vi (x2 + 1))] [] M2)) ∧ (r1 ≠ 0 → (P x2 M1))))) :
    K NN RRC 28 [(0, vr 1), (1, vi x1), (2, vi x2)] [] M := by
  refine r_iloadn h (q := 2) 2 rfl (by decide +kernel : decode cX11_dry 28 = .ok (.iload_n 2, 1)) ?_
  refine r_bipush h (v := 99) (by decide) (by decide +kernel : decode cX11_dry 29 = .ok (.bipush 99, 2)) ?_
  obtain ⟨g1, H⟩ := H
  obtain ⟨H1, H2⟩ := H
  refine r_icmp_gt h 75 g1 (by decide) (by decide) (by decide +kernel : decode cX11_dry 31 = .ok (.if_icmp .gt 44, 3)) (fun hc => ?_) (fun hc => ?_)
  · have H := H1 hc
    refine r_iconst h (v := (-1)) (by decide +kernel : decode cX11_dry 75 = .ok (.iconst (-1), 1)) ?_
    exact r_iret h rfl (by decide +kernel : decode cX11_dry 76 = .ok (.ireturn, 1)) rfl ⟨rfl, _, rfl, H⟩
  · have H := H2 hc
    refine r_aloadn h (q := 0) 0 rfl (by decide +kernel : decode cX11_dry 34 = .ok (.aload_n 0, 1)) ?_
    refine r_getR h (r := 53) f_Main_47 at1C rfl (by decide) (by decide +kernel : decode cX11_dry 35 = .ok (.getfield 47, 3)) ?_
    refine r_iloadn h (q := 1) 1 rfl (by decide +kernel : decode cX11_dry 38 = .ok (.iload_n 1, 1)) ?_
    refine r_aloadn h (q := 0) 0 rfl (by decide +kernel : decode cX11_dry 39 = .ok (.aload_n 0, 1)) ?_
    obtain ⟨t101, htt101, hat101, H⟩ := H
    refine r_getM h (r := t101) f_Main_19 at1C htt101 hat101.2.1 (by decide +kernel : decode cX11_dry 40 = .ok (.getfield 19, 3)) ?_
    refine r_getI h f_Main_151 hat101 (by decide +kernel : decode cX11_dry 43 = .ok (.getfield 151, 3)) ?_
    obtain ⟨P1, hSP1, H⟩ := H
    refine r_callV h (as := [vi x1, vi (M t101 9)]) (S := []) (b := 53) m_Main_246 hSP1 (by decide) (Nat.le_refl _) rfl atC_53 rfl (Nat.le_of_ble_eq_true rfl) (by decide +kernel : decode cX11_dry 46 = .ok (.invokevirtual 246, 3)) ?_
    rintro _ _ M1 ⟨rfl, r1, rfl, hP⟩
    have H := H r1 M1 hP
    show K NN RRC _ _ [vi r1] _
    obtain ⟨g1, H⟩ := H
    obtain ⟨H1, H2⟩ := H
    refine r_if_eq h 54 g1 (by decide) (by decide +kernel : decode cX11_dry 49 = .ok (.ifCond .eq 5, 3)) (fun hc => ?_) (fun hc => ?_)
    · have H := H1 hc
      refine r_aloadn h (q := 0) 0 rfl (by decide +kernel : decode cX11_dry 54 = .ok (.aload_n 0, 1)) ?_
      refine r_getR h (r := 61) f_Main_65 at1C rfl (by decide) (by decide +kernel : decode cX11_dry 55 = .ok (.getfield 65, 3)) ?_
      refine r_aloadn h (q := 0) 0 rfl (by decide +kernel : decode cX11_dry 58 = .ok (.aload_n 0, 1)) ?_
      obtain ⟨t102, htt102, hat102, H⟩ := H
      refine r_getM h (r := t102) f_Main_19 at1C htt102 hat102.2.1 (by decide +kernel : decode cX11_dry 59 = .ok (.getfield 19, 3)) ?_
      refine r_aloadn h (q := 0) 0 rfl (by decide +kernel : decode cX11_dry 62 = .ok (.aload_n 0, 1)) ?_
      refine r_getR h (r := 53) f_Main_47 at1C rfl (by decide) (by decide +kernel : decode cX11_dry 63 = .ok (.getfield 47, 3)) ?_
      obtain ⟨P2, hSP2, H⟩ := H
      refine r_callV h (as := [vr t102, vr 53]) (S := []) (b := 61) m_Main_190 hSP2 (by decide) (Nat.le_refl _) rfl atC_61 rfl (Nat.le_of_ble_eq_true rfl) (by decide +kernel : decode cX11_dry 66 = .ok (.invokevirtual 190, 3)) ?_
      rintro _ _ M2 ⟨rfl, rfl, hP⟩
      have H := H M2 hP
      show K NN RRC _ _ [] _
      refine r_iinc h (i := 2) (v := 1) (L' := [(2, vi (x2 + 1)), (0, vr 1), (1, vi x1)]) 2 rfl (by decide) rfl (by decide +kernel : decode cX11_dry 69 = .ok (.iinc 2 1, 3)) ?_
      refine r_goto h 28 (by decide) (by decide +kernel : decode cX11_dry 72 = .ok (.goto (-44), 3)) ?_
      refine r_drop h [1, 2, 0] rfl ?_
      exact H
    · have H := H2 hc
      refine r_iloadn h (q := 2) 2 rfl (by decide +kernel : decode cX11_dry 52 = .ok (.iload_n 2, 1)) ?_
      exact r_iret h rfl (by decide +kernel : decode cX11_dry 53 = .ok (.ireturn, 1)) rfl ⟨rfl, _, rfl, H⟩
set_option maxHeartbeats 4000000 in
set_option maxRecDepth 100000 in
theorem w_Main_best_0 {P : Int → Mm → Prop} {K : Nat → Rr → Nat → List (Nat × AV) → List AV → Mm → Prop} (h : EK shC yX11_best cX11_best 2 (some .int) 7 NN NN (QI RRC P) K) (x1 : Int) (M : Mm)
    (H : (rng x1) ∧ (x1 = (-1) → (K NN RRC 16 [(0, vr 1), (1, vi x1)] [] M)) ∧ (x1 ≠ (-1) → (∃ P1 : Int → Mm → Prop, S_Main_isHouse x1 M P1 ∧ ∀ (r1 : Int) (M1 : Mm), P1 r1 M1 → (rng r1) ∧ (r1 ≠ 0 → (K NN RRC 16 [(0, vr 1), (1, vi x1)] [] M1)) ∧ (r1 = 0 → (P (-2) M1))))) :
    K NN RRC 0 [(0, vr 1), (1, vi x1)] [] M := by
  refine r_iloadn h (q := 1) 1 rfl (by decide +kernel : decode cX11_best 0 = .ok (.iload_n 1, 1)) ?_
  refine r_iconst h (v := (-1)) (by decide +kernel : decode cX11_best 1 = .ok (.iconst (-1), 1)) ?_
  obtain ⟨g1, H⟩ := H
  obtain ⟨H1, H2⟩ := H
  refine r_icmp_eq h 16 g1 (by decide) (by decide) (by decide +kernel : decode cX11_best 2 = .ok (.if_icmp .eq 14, 3)) (fun hc => ?_) (fun hc => ?_)
  · have H := H1 hc
    exact H
  · have H := H2 hc
    refine r_aloadn h (q := 0) 0 rfl (by decide +kernel : decode cX11_best 5 = .ok (.aload_n 0, 1)) ?_
    refine r_iloadn h (q := 1) 1 rfl (by decide +kernel : decode cX11_best 6 = .ok (.iload_n 1, 1)) ?_
    obtain ⟨P1, hSP1, H⟩ := H
    refine r_callV h (as := [vi x1]) (S := []) (b := 1) m_Main_125 hSP1 (by decide) (Nat.le_refl _) rfl at1C rfl (Nat.le_of_ble_eq_true rfl) (by decide +kernel : decode cX11_best 7 = .ok (.invokevirtual 125, 3)) ?_
    rintro _ _ M1 ⟨rfl, r1, rfl, hP⟩
    have H := H r1 M1 hP
    show K NN RRC _ _ [vi r1] _
    obtain ⟨g1, H⟩ := H
    obtain ⟨H1, H2⟩ := H
    refine r_if_ne h 16 g1 (by decide) (by decide +kernel : decode cX11_best 10 = .ok (.ifCond .ne 6, 3)) (fun hc => ?_) (fun hc => ?_)
    · have H := H1 hc
      exact H
    · have H := H2 hc
      refine r_bipush h (v := (-2)) (by decide) (by decide +kernel : decode cX11_best 13 = .ok (.bipush (-2), 2)) ?_
      exact r_iret h rfl (by decide +kernel : decode cX11_best 15 = .ok (.ireturn, 1)) rfl ⟨rfl, _, rfl, H⟩
set_option maxHeartbeats 4000000 in
set_option maxRecDepth 100000 in
theorem w_Main_best_16 {P : Int → Mm → Prop} {K : Nat → Rr → Nat → List (Nat × AV) → List AV → Mm → Prop} (h : EK shC yX11_best cX11_best 2 (some .int) 7 NN NN (QI RRC P) K) (x1 : Int) (M : Mm)
    (H : ∃ t101 : Nat, M 1 1 = (t101 : Int) ∧ At shC NN t101 (.inl 7) ∧ ∃ P1 : Mm → Prop, S_Rows_findBest 62 t101 42 M P1 ∧ ∀ M1 : Mm, P1 M1 → (rng x1) ∧ (x1 ≠ (-1) → ((0 ≤ x1 ∧ x1 < 7) ∧ P (M1 63 x1.toNat) M1)) ∧ (x1 = (-1) → (P (M1 62 1) M1))) :
    K NN RRC 16 [(0, vr 1), (1, vi x1)] [] M := by
  refine r_aloadn h (q := 0) 0 rfl (by decide +kernel : decode cX11_best 16 = .ok (.aload_n 0, 1)) ?_
  refine r_getR h (r := 62) f_Main_72 at1C rfl (by decide) (by decide +kernel : decode cX11_best 17 = .ok (.getfield 72, 3)) ?_
  refine r_aloadn h (q := 0) 0 rfl (by decide +kernel : decode cX11_best 20 = .ok (.aload_n 0, 1)) ?_
  obtain ⟨t101, htt101, hat101, H⟩ := H
  refine r_getM h (r := t101) f_Main_19 at1C htt101 hat101.2.1 (by decide +kernel : decode cX11_best 21 = .ok (.getfield 19, 3)) ?_
  refine r_aloadn h (q := 0) 0 rfl (by decide +kernel : decode cX11_best 24 = .ok (.aload_n 0, 1)) ?_
  refine r_getR h (r := 41) f_Main_43 at1C rfl (by decide) (by decide +kernel : decode cX11_best 25 = .ok (.getfield 43, 3)) ?_
  refine r_getR h (r := 42) f_Main_133 atC_41 rfl (by decide) (by decide +kernel : decode cX11_best 28 = .ok (.getfield 133, 3)) ?_
  obtain ⟨P1, hSP1, H⟩ := H
  refine r_callV h (as := [vr t101, vr 42]) (S := []) (b := 62) m_Main_229 hSP1 (by decide) (Nat.le_refl _) rfl atC_62 rfl (Nat.le_of_ble_eq_true rfl) (by decide +kernel : decode cX11_best 31 = .ok (.invokevirtual 229, 3)) ?_
  rintro _ _ M1 ⟨rfl, rfl, hP⟩
  have H := H M1 hP
  show K NN RRC _ _ [] _
  refine r_iloadn h (q := 1) 1 rfl (by decide +kernel : decode cX11_best 34 = .ok (.iload_n 1, 1)) ?_
  refine r_iconst h (v := (-1)) (by decide +kernel : decode cX11_best 35 = .ok (.iconst (-1), 1)) ?_
  obtain ⟨g1, H⟩ := H
  obtain ⟨H1, H2⟩ := H
  refine r_icmp_ne h 49 g1 (by decide) (by decide) (by decide +kernel : decode cX11_best 36 = .ok (.if_icmp .ne 13, 3)) (fun hc => ?_) (fun hc => ?_)
  · have H := H1 hc
    refine r_aloadn h (q := 0) 0 rfl (by decide +kernel : decode cX11_best 49 = .ok (.aload_n 0, 1)) ?_
    refine r_getR h (r := 62) f_Main_72 at1C rfl (by decide) (by decide +kernel : decode cX11_best 50 = .ok (.getfield 72, 3)) ?_
    refine r_getR h (r := 63) f_Main_235 atC_62 rfl (by decide) (by decide +kernel : decode cX11_best 53 = .ok (.getfield 235, 3)) ?_
    refine r_iloadn h (q := 1) 1 rfl (by decide +kernel : decode cX11_best 56 = .ok (.iload_n 1, 1)) ?_
    obtain ⟨g1, H⟩ := H
    refine r_iald h x1.toNat rfl atC_63 g1 (by decide) (by decide +kernel : decode cX11_best 57 = .ok (.iaload, 1)) ?_
    exact r_iret h rfl (by decide +kernel : decode cX11_best 58 = .ok (.ireturn, 1)) rfl ⟨rfl, _, rfl, H⟩
  · have H := H2 hc
    refine r_aloadn h (q := 0) 0 rfl (by decide +kernel : decode cX11_best 39 = .ok (.aload_n 0, 1)) ?_
    refine r_getR h (r := 62) f_Main_72 at1C rfl (by decide) (by decide +kernel : decode cX11_best 40 = .ok (.getfield 72, 3)) ?_
    refine r_getI h f_Main_232 atC_62 (by decide +kernel : decode cX11_best 43 = .ok (.getfield 232, 3)) ?_
    refine r_goto h 58 (by decide) (by decide +kernel : decode cX11_best 46 = .ok (.goto 12, 3)) ?_
    exact r_iret h rfl (by decide +kernel : decode cX11_best 58 = .ok (.ireturn, 1)) rfl ⟨rfl, _, rfl, H⟩
set_option maxHeartbeats 4000000 in
set_option maxRecDepth 100000 in
theorem w_Main_decades_0 {P : Int → Mm → Prop} {K : Nat → Rr → Nat → List (Nat × AV) → List AV → Mm → Prop} (h : EK shC yX11_decades cX11_decades 4 (some .int) 7 NN NN (QI RRC P) K) (x1 : Int) (x2 : Int) (x3 : Int) (M : Mm)
    (H : (rng x1) ∧ (x1 < 0 → (P (-1) M)) ∧ (¬ (x1 < 0) → ((rng x1) ∧ (9999 < x1 → (P (-1) M)) ∧ (¬ (9999 < x1) → ((rng x2) ∧ (x2 < 1 → (P (-1) M)) ∧ (¬ (x2 < 1) → ((rng x2) ∧ (99 < x2 → (P (-1) M)) ∧ (¬ (99 < x2) → ((rng x3) ∧ (x3 < 0 → (P (-1) M)) ∧ (¬ (x3 < 0) → ((rng x3) ∧ (x3 ≤ 2 → (∃ P1 : Mm → Prop, S_State_copyFrom 53 42 M P1 ∧ ∀ M1 : Mm, P1 M1 → ∃ t101 : Nat, M1 1 1 = (t101 : Int) ∧ At shC NN t101 (.inl 7) ∧ ∃ P2 : Mm → Prop, S_Mangle_passDecades 61 t101 53 x1 x2 M1 P2 ∧ ∀ M2 : Mm, P2 M2 → (rng x3) ∧ (x3 = 0 → (P (M2 61 4) M2)) ∧ (x3 = 1 → (P (M2 61 5) M2)) ∧ (x3 ≠ 0 ∧ x3 ≠ 1 → (P ((M2 53 8) - (M2 42 8)) M2)))) ∧ (¬ (x3 ≤ 2) → (P (-1) M))))))))))))) :
    K NN RRC 0 [(0, vr 1), (1, vi x1), (2, vi x2), (3, vi x3)] [] M := by
  refine r_iloadn h (q := 1) 1 rfl (by decide +kernel : decode cX11_decades 0 = .ok (.iload_n 1, 1)) ?_
  obtain ⟨g1, H⟩ := H
  obtain ⟨H1, H2⟩ := H
  refine r_if_lt h 31 g1 (by decide) (by decide +kernel : decode cX11_decades 1 = .ok (.ifCond .lt 30, 3)) (fun hc => ?_) (fun hc => ?_)
  · have H := H1 hc
    refine r_iconst h (v := (-1)) (by decide +kernel : decode cX11_decades 31 = .ok (.iconst (-1), 1)) ?_
    exact r_iret h rfl (by decide +kernel : decode cX11_decades 32 = .ok (.ireturn, 1)) rfl ⟨rfl, _, rfl, H⟩
  · have H := H2 hc
    refine r_iloadn h (q := 1) 1 rfl (by decide +kernel : decode cX11_decades 4 = .ok (.iload_n 1, 1)) ?_
    refine r_sipush h (v := 9999) (by decide) (by decide +kernel : decode cX11_decades 5 = .ok (.sipush 9999, 3)) ?_
    obtain ⟨g1, H⟩ := H
    obtain ⟨H1, H2⟩ := H
    refine r_icmp_gt h 31 g1 (by decide) (by decide) (by decide +kernel : decode cX11_decades 8 = .ok (.if_icmp .gt 23, 3)) (fun hc => ?_) (fun hc => ?_)
    · have H := H1 hc
      refine r_iconst h (v := (-1)) (by decide +kernel : decode cX11_decades 31 = .ok (.iconst (-1), 1)) ?_
      exact r_iret h rfl (by decide +kernel : decode cX11_decades 32 = .ok (.ireturn, 1)) rfl ⟨rfl, _, rfl, H⟩
    · have H := H2 hc
      refine r_iloadn h (q := 2) 2 rfl (by decide +kernel : decode cX11_decades 11 = .ok (.iload_n 2, 1)) ?_
      refine r_iconst h (v := 1) (by decide +kernel : decode cX11_decades 12 = .ok (.iconst 1, 1)) ?_
      obtain ⟨g1, H⟩ := H
      obtain ⟨H1, H2⟩ := H
      refine r_icmp_lt h 31 g1 (by decide) (by decide) (by decide +kernel : decode cX11_decades 13 = .ok (.if_icmp .lt 18, 3)) (fun hc => ?_) (fun hc => ?_)
      · have H := H1 hc
        refine r_iconst h (v := (-1)) (by decide +kernel : decode cX11_decades 31 = .ok (.iconst (-1), 1)) ?_
        exact r_iret h rfl (by decide +kernel : decode cX11_decades 32 = .ok (.ireturn, 1)) rfl ⟨rfl, _, rfl, H⟩
      · have H := H2 hc
        refine r_iloadn h (q := 2) 2 rfl (by decide +kernel : decode cX11_decades 16 = .ok (.iload_n 2, 1)) ?_
        refine r_bipush h (v := 99) (by decide) (by decide +kernel : decode cX11_decades 17 = .ok (.bipush 99, 2)) ?_
        obtain ⟨g1, H⟩ := H
        obtain ⟨H1, H2⟩ := H
        refine r_icmp_gt h 31 g1 (by decide) (by decide) (by decide +kernel : decode cX11_decades 19 = .ok (.if_icmp .gt 12, 3)) (fun hc => ?_) (fun hc => ?_)
        · have H := H1 hc
          refine r_iconst h (v := (-1)) (by decide +kernel : decode cX11_decades 31 = .ok (.iconst (-1), 1)) ?_
          exact r_iret h rfl (by decide +kernel : decode cX11_decades 32 = .ok (.ireturn, 1)) rfl ⟨rfl, _, rfl, H⟩
        · have H := H2 hc
          refine r_iloadn h (q := 3) 3 rfl (by decide +kernel : decode cX11_decades 22 = .ok (.iload_n 3, 1)) ?_
          obtain ⟨g1, H⟩ := H
          obtain ⟨H1, H2⟩ := H
          refine r_if_lt h 31 g1 (by decide) (by decide +kernel : decode cX11_decades 23 = .ok (.ifCond .lt 8, 3)) (fun hc => ?_) (fun hc => ?_)
          · have H := H1 hc
            refine r_iconst h (v := (-1)) (by decide +kernel : decode cX11_decades 31 = .ok (.iconst (-1), 1)) ?_
            exact r_iret h rfl (by decide +kernel : decode cX11_decades 32 = .ok (.ireturn, 1)) rfl ⟨rfl, _, rfl, H⟩
          · have H := H2 hc
            refine r_iloadn h (q := 3) 3 rfl (by decide +kernel : decode cX11_decades 26 = .ok (.iload_n 3, 1)) ?_
            refine r_iconst h (v := 2) (by decide +kernel : decode cX11_decades 27 = .ok (.iconst 2, 1)) ?_
            obtain ⟨g1, H⟩ := H
            obtain ⟨H1, H2⟩ := H
            refine r_icmp_le h 33 g1 (by decide) (by decide) (by decide +kernel : decode cX11_decades 28 = .ok (.if_icmp .le 5, 3)) (fun hc => ?_) (fun hc => ?_)
            · have H := H1 hc
              refine r_aloadn h (q := 0) 0 rfl (by decide +kernel : decode cX11_decades 33 = .ok (.aload_n 0, 1)) ?_
              refine r_getR h (r := 53) f_Main_47 at1C rfl (by decide) (by decide +kernel : decode cX11_decades 34 = .ok (.getfield 47, 3)) ?_
              refine r_aloadn h (q := 0) 0 rfl (by decide +kernel : decode cX11_decades 37 = .ok (.aload_n 0, 1)) ?_
              refine r_getR h (r := 41) f_Main_43 at1C rfl (by decide) (by decide +kernel : decode cX11_decades 38 = .ok (.getfield 43, 3)) ?_
              refine r_getR h (r := 42) f_Main_133 atC_41 rfl (by decide) (by decide +kernel : decode cX11_decades 41 = .ok (.getfield 133, 3)) ?_
              obtain ⟨P1, hSP1, H⟩ := H
              refine r_callV h (as := [vr 42]) (S := []) (b := 53) m_Main_213 hSP1 (by decide) (Nat.le_refl _) rfl atC_53 rfl (Nat.le_of_ble_eq_true rfl) (by decide +kernel : decode cX11_decades 44 = .ok (.invokevirtual 213, 3)) ?_
              rintro _ _ M1 ⟨rfl, rfl, hP⟩
              have H := H M1 hP
              show K NN RRC _ _ [] _
              refine r_aloadn h (q := 0) 0 rfl (by decide +kernel : decode cX11_decades 47 = .ok (.aload_n 0, 1)) ?_
              refine r_getR h (r := 61) f_Main_65 at1C rfl (by decide) (by decide +kernel : decode cX11_decades 48 = .ok (.getfield 65, 3)) ?_
              refine r_aloadn h (q := 0) 0 rfl (by decide +kernel : decode cX11_decades 51 = .ok (.aload_n 0, 1)) ?_
              obtain ⟨t101, htt101, hat101, H⟩ := H
              refine r_getM h (r := t101) f_Main_19 at1C htt101 hat101.2.1 (by decide +kernel : decode cX11_decades 52 = .ok (.getfield 19, 3)) ?_
              refine r_aloadn h (q := 0) 0 rfl (by decide +kernel : decode cX11_decades 55 = .ok (.aload_n 0, 1)) ?_
              refine r_getR h (r := 53) f_Main_47 at1C rfl (by decide) (by decide +kernel : decode cX11_decades 56 = .ok (.getfield 47, 3)) ?_
              refine r_iloadn h (q := 1) 1 rfl (by decide +kernel : decode cX11_decades 59 = .ok (.iload_n 1, 1)) ?_
              refine r_iloadn h (q := 2) 2 rfl (by decide +kernel : decode cX11_decades 60 = .ok (.iload_n 2, 1)) ?_
              obtain ⟨P2, hSP2, H⟩ := H
              refine r_callV h (as := [vr t101, vr 53, vi x1, vi x2]) (S := []) (b := 61) m_Main_316 hSP2 (by decide) (Nat.le_refl _) rfl atC_61 rfl (Nat.le_of_ble_eq_true rfl) (by decide +kernel : decode cX11_decades 61 = .ok (.invokevirtual 316, 3)) ?_
              rintro _ _ M2 ⟨rfl, rfl, hP⟩
              have H := H M2 hP
              show K NN RRC _ _ [] _
              refine r_iloadn h (q := 3) 3 rfl (by decide +kernel : decode cX11_decades 64 = .ok (.iload_n 3, 1)) ?_
              obtain ⟨g1, H⟩ := H
              obtain ⟨H1, H⟩ := H
              by_cases hk0 : x3 = 0
              · have H := H1 hk0
                refine r_lookup h 92 g1 (by decide) (by rw [hk0]; try rfl) (by decide) (by decide +kernel : decode cX11_decades 65 = .ok (.lookupswitch 43 #[(0, 27), (1, 35)], 27)) ?_
                refine r_aloadn h (q := 0) 0 rfl (by decide +kernel : decode cX11_decades 92 = .ok (.aload_n 0, 1)) ?_
                refine r_getR h (r := 61) f_Main_65 at1C rfl (by decide) (by decide +kernel : decode cX11_decades 93 = .ok (.getfield 65, 3)) ?_
                refine r_getI h f_Main_320 atC_61 (by decide +kernel : decode cX11_decades 96 = .ok (.getfield 320, 3)) ?_
                exact r_iret h rfl (by decide +kernel : decode cX11_decades 99 = .ok (.ireturn, 1)) rfl ⟨rfl, _, rfl, H⟩
              obtain ⟨H1, H⟩ := H
              by_cases hk1 : x3 = 1
              · have H := H1 hk1
                refine r_lookup h 100 g1 (by decide) (by rw [hk1]; try rfl) (by decide) (by decide +kernel : decode cX11_decades 65 = .ok (.lookupswitch 43 #[(0, 27), (1, 35)], 27)) ?_
                refine r_aloadn h (q := 0) 0 rfl (by decide +kernel : decode cX11_decades 100 = .ok (.aload_n 0, 1)) ?_
                refine r_getR h (r := 61) f_Main_65 at1C rfl (by decide) (by decide +kernel : decode cX11_decades 101 = .ok (.getfield 65, 3)) ?_
                refine r_getI h f_Main_323 atC_61 (by decide +kernel : decode cX11_decades 104 = .ok (.getfield 323, 3)) ?_
                exact r_iret h rfl (by decide +kernel : decode cX11_decades 107 = .ok (.ireturn, 1)) rfl ⟨rfl, _, rfl, H⟩
              have H := H ⟨hk0, hk1⟩
              refine r_lookup h 108 g1 (by decide) (lk_dflt hk0 hk1) (by decide) (by decide +kernel : decode cX11_decades 65 = .ok (.lookupswitch 43 #[(0, 27), (1, 35)], 27)) ?_
              refine r_aloadn h (q := 0) 0 rfl (by decide +kernel : decode cX11_decades 108 = .ok (.aload_n 0, 1)) ?_
              refine r_getR h (r := 53) f_Main_47 at1C rfl (by decide) (by decide +kernel : decode cX11_decades 109 = .ok (.getfield 47, 3)) ?_
              refine r_getI h f_Main_207 atC_53 (by decide +kernel : decode cX11_decades 112 = .ok (.getfield 207, 3)) ?_
              refine r_aloadn h (q := 0) 0 rfl (by decide +kernel : decode cX11_decades 115 = .ok (.aload_n 0, 1)) ?_
              refine r_getR h (r := 41) f_Main_43 at1C rfl (by decide) (by decide +kernel : decode cX11_decades 116 = .ok (.getfield 43, 3)) ?_
              refine r_getR h (r := 42) f_Main_133 atC_41 rfl (by decide) (by decide +kernel : decode cX11_decades 119 = .ok (.getfield 133, 3)) ?_
              refine r_getI h f_Main_207 atC_42 (by decide +kernel : decode cX11_decades 122 = .ok (.getfield 207, 3)) ?_
              refine r_isub h (by decide +kernel : decode cX11_decades 125 = .ok (.isub, 1)) ?_
              exact r_iret h rfl (by decide +kernel : decode cX11_decades 126 = .ok (.ireturn, 1)) rfl ⟨rfl, _, rfl, H⟩
            · have H := H2 hc
              refine r_iconst h (v := (-1)) (by decide +kernel : decode cX11_decades 31 = .ok (.iconst (-1), 1)) ?_
              exact r_iret h rfl (by decide +kernel : decode cX11_decades 32 = .ok (.ireturn, 1)) rfl ⟨rfl, _, rfl, H⟩
theorem W_Main_decades (x1 : Int) (x2 : Int) (x3 : Int) (M : Mm) {P : Int → Mm → Prop} (H : (rng x1) ∧ (x1 < 0 → (P (-1) M)) ∧ (¬ (x1 < 0) → ((rng x1) ∧ (9999 < x1 → (P (-1) M)) ∧ (¬ (9999 < x1) → ((rng x2) ∧ (x2 < 1 → (P (-1) M)) ∧ (¬ (x2 < 1) → ((rng x2) ∧ (99 < x2 → (P (-1) M)) ∧ (¬ (99 < x2) → ((rng x3) ∧ (x3 < 0 → (P (-1) M)) ∧ (¬ (x3 < 0) → ((rng x3) ∧ (x3 ≤ 2 → (∃ P1 : Mm → Prop, S_State_copyFrom 53 42 M P1 ∧ ∀ M1 : Mm, P1 M1 → ∃ t101 : Nat, M1 1 1 = (t101 : Int) ∧ At shC NN t101 (.inl 7) ∧ ∃ P2 : Mm → Prop, S_Mangle_passDecades 61 t101 53 x1 x2 M1 P2 ∧ ∀ M2 : Mm, P2 M2 → (rng x3) ∧ (x3 = 0 → (P (M2 61 4) M2)) ∧ (x3 = 1 → (P (M2 61 5) M2)) ∧ (x3 ≠ 0 ∧ x3 ≠ 1 → (P ((M2 53 8) - (M2 42 8)) M2)))) ∧ (¬ (x3 ≤ 2) → (P (-1) M))))))))))))) : S_Main_decades x1 x2 x3 M P := e_Main_decades x1 x2 x3 M (fun _ h => w_Main_decades_0 h x1 x2 x3 M H)
set_option maxHeartbeats 4000000 in
set_option maxRecDepth 100000 in
theorem w_Main_judged_0 {P : Int → Mm → Prop} {K : Nat → Rr → Nat → List (Nat × AV) → List AV → Mm → Prop} (h : EK shC yX11_judged cX11_judged 2 (some .int) 8 NN NN (QI RRC P) K) (x1 : Int) (M : Mm)
    (H : (rng x1) ∧ (x1 < 0 → (P (-2) M)) ∧ (¬ (x1 < 0) → ((rng x1) ∧ (x1 ≤ 2 → (∃ P1 : Mm → Prop, S_State_copyFrom 53 36 M P1 ∧ ∀ M1 : Mm, P1 M1 → ∃ t101 : Nat, M1 1 1 = (t101 : Int) ∧ At shC NN t101 (.inl 7) ∧ ∃ P2 : Mm → Prop, S_Mangle_judge 61 t101 47 53 M1 P2 ∧ ∀ M2 : Mm, P2 M2 → (rng x1) ∧ (x1 ≠ 2 → ((rng x1) ∧ (x1 ≠ 0 → (P (M2 61 3) M2)) ∧ (x1 = 0 → (P (M2 61 2) M2)))) ∧ (x1 = 2 → (P (M2 53 8) M2)))) ∧ (¬ (x1 ≤ 2) → (P (-2) M))))) :
    K NN RRC 0 [(0, vr 1), (1, vi x1)] [] M := by
  refine r_iloadn h (q := 1) 1 rfl (by decide +kernel : decode cX11_judged 0 = .ok (.iload_n 1, 1)) ?_
  obtain ⟨g1, H⟩ := H
  obtain ⟨H1, H2⟩ := H
  refine r_if_lt h 9 g1 (by decide) (by decide +kernel : decode cX11_judged 1 = .ok (.ifCond .lt 8, 3)) (fun hc => ?_) (fun hc => ?_)
  · have H := H1 hc
    refine r_bipush h (v := (-2)) (by decide) (by decide +kernel : decode cX11_judged 9 = .ok (.bipush (-2), 2)) ?_
    exact r_iret h rfl (by decide +kernel : decode cX11_judged 11 = .ok (.ireturn, 1)) rfl ⟨rfl, _, rfl, H⟩
  · have H := H2 hc
    refine r_iloadn h (q := 1) 1 rfl (by decide +kernel : decode cX11_judged 4 = .ok (.iload_n 1, 1)) ?_
    refine r_iconst h (v := 2) (by decide +kernel : decode cX11_judged 5 = .ok (.iconst 2, 1)) ?_
    obtain ⟨g1, H⟩ := H
    obtain ⟨H1, H2⟩ := H
    refine r_icmp_le h 12 g1 (by decide) (by decide) (by decide +kernel : decode cX11_judged 6 = .ok (.if_icmp .le 6, 3)) (fun hc => ?_) (fun hc => ?_)
    · have H := H1 hc
      refine r_aloadn h (q := 0) 0 rfl (by decide +kernel : decode cX11_judged 12 = .ok (.aload_n 0, 1)) ?_
      refine r_getR h (r := 53) f_Main_47 at1C rfl (by decide) (by decide +kernel : decode cX11_judged 13 = .ok (.getfield 47, 3)) ?_
      refine r_aloadn h (q := 0) 0 rfl (by decide +kernel : decode cX11_judged 16 = .ok (.aload_n 0, 1)) ?_
      refine r_getR h (r := 36) f_Main_36 at1C rfl (by decide) (by decide +kernel : decode cX11_judged 17 = .ok (.getfield 36, 3)) ?_
      obtain ⟨P1, hSP1, H⟩ := H
      refine r_callV h (as := [vr 36]) (S := []) (b := 53) m_Main_213 hSP1 (by decide) (Nat.le_refl _) rfl atC_53 rfl (Nat.le_of_ble_eq_true rfl) (by decide +kernel : decode cX11_judged 20 = .ok (.invokevirtual 213, 3)) ?_
      rintro _ _ M1 ⟨rfl, rfl, hP⟩
      have H := H M1 hP
      show K NN RRC _ _ [] _
      refine r_aloadn h (q := 0) 0 rfl (by decide +kernel : decode cX11_judged 23 = .ok (.aload_n 0, 1)) ?_
      refine r_getR h (r := 61) f_Main_65 at1C rfl (by decide) (by decide +kernel : decode cX11_judged 24 = .ok (.getfield 65, 3)) ?_
      refine r_aloadn h (q := 0) 0 rfl (by decide +kernel : decode cX11_judged 27 = .ok (.aload_n 0, 1)) ?_
      obtain ⟨t101, htt101, hat101, H⟩ := H
      refine r_getM h (r := t101) f_Main_19 at1C htt101 hat101.2.1 (by decide +kernel : decode cX11_judged 28 = .ok (.getfield 19, 3)) ?_
      refine r_aloadn h (q := 0) 0 rfl (by decide +kernel : decode cX11_judged 31 = .ok (.aload_n 0, 1)) ?_
      refine r_getR h (r := 41) f_Main_43 at1C rfl (by decide) (by decide +kernel : decode cX11_judged 32 = .ok (.getfield 43, 3)) ?_
      refine r_getR h (r := 47) f_Main_118 atC_41 rfl (by decide) (by decide +kernel : decode cX11_judged 35 = .ok (.getfield 118, 3)) ?_
      refine r_aloadn h (q := 0) 0 rfl (by decide +kernel : decode cX11_judged 38 = .ok (.aload_n 0, 1)) ?_
      refine r_getR h (r := 53) f_Main_47 at1C rfl (by decide) (by decide +kernel : decode cX11_judged 39 = .ok (.getfield 47, 3)) ?_
      obtain ⟨P2, hSP2, H⟩ := H
      refine r_callV h (as := [vr t101, vr 47, vr 53]) (S := []) (b := 61) m_Main_215 hSP2 (by decide) (Nat.le_refl _) rfl atC_61 rfl (Nat.le_of_ble_eq_true rfl) (by decide +kernel : decode cX11_judged 42 = .ok (.invokevirtual 215, 3)) ?_
      rintro _ _ M2 ⟨rfl, rfl, hP⟩
      have H := H M2 hP
      show K NN RRC _ _ [] _
      refine r_iloadn h (q := 1) 1 rfl (by decide +kernel : decode cX11_judged 45 = .ok (.iload_n 1, 1)) ?_
      refine r_iconst h (v := 2) (by decide +kernel : decode cX11_judged 46 = .ok (.iconst 2, 1)) ?_
      obtain ⟨g1, H⟩ := H
      obtain ⟨H1, H2⟩ := H
      refine r_icmp_ne h 58 g1 (by decide) (by decide) (by decide +kernel : decode cX11_judged 47 = .ok (.if_icmp .ne 11, 3)) (fun hc => ?_) (fun hc => ?_)
      · have H := H1 hc
        refine r_iloadn h (q := 1) 1 rfl (by decide +kernel : decode cX11_judged 58 = .ok (.iload_n 1, 1)) ?_
        obtain ⟨g1, H⟩ := H
        obtain ⟨H1, H2⟩ := H
        refine r_if_ne h 72 g1 (by decide) (by decide +kernel : decode cX11_judged 59 = .ok (.ifCond .ne 13, 3)) (fun hc => ?_) (fun hc => ?_)
        · have H := H1 hc
          refine r_aloadn h (q := 0) 0 rfl (by decide +kernel : decode cX11_judged 72 = .ok (.aload_n 0, 1)) ?_
          refine r_getR h (r := 61) f_Main_65 at1C rfl (by decide) (by decide +kernel : decode cX11_judged 73 = .ok (.getfield 65, 3)) ?_
          refine r_getI h f_Main_222 atC_61 (by decide +kernel : decode cX11_judged 76 = .ok (.getfield 222, 3)) ?_
          exact r_iret h rfl (by decide +kernel : decode cX11_judged 79 = .ok (.ireturn, 1)) rfl ⟨rfl, _, rfl, H⟩
        · have H := H2 hc
          refine r_aloadn h (q := 0) 0 rfl (by decide +kernel : decode cX11_judged 62 = .ok (.aload_n 0, 1)) ?_
          refine r_getR h (r := 61) f_Main_65 at1C rfl (by decide) (by decide +kernel : decode cX11_judged 63 = .ok (.getfield 65, 3)) ?_
          refine r_getI h f_Main_219 atC_61 (by decide +kernel : decode cX11_judged 66 = .ok (.getfield 219, 3)) ?_
          refine r_goto h 79 (by decide) (by decide +kernel : decode cX11_judged 69 = .ok (.goto 10, 3)) ?_
          exact r_iret h rfl (by decide +kernel : decode cX11_judged 79 = .ok (.ireturn, 1)) rfl ⟨rfl, _, rfl, H⟩
      · have H := H2 hc
        refine r_aloadn h (q := 0) 0 rfl (by decide +kernel : decode cX11_judged 50 = .ok (.aload_n 0, 1)) ?_
        refine r_getR h (r := 53) f_Main_47 at1C rfl (by decide) (by decide +kernel : decode cX11_judged 51 = .ok (.getfield 47, 3)) ?_
        refine r_getI h f_Main_207 atC_53 (by decide +kernel : decode cX11_judged 54 = .ok (.getfield 207, 3)) ?_
        exact r_iret h rfl (by decide +kernel : decode cX11_judged 57 = .ok (.ireturn, 1)) rfl ⟨rfl, _, rfl, H⟩
    · have H := H2 hc
      refine r_bipush h (v := (-2)) (by decide) (by decide +kernel : decode cX11_judged 9 = .ok (.bipush (-2), 2)) ?_
      exact r_iret h rfl (by decide +kernel : decode cX11_judged 11 = .ok (.ireturn, 1)) rfl ⟨rfl, _, rfl, H⟩
theorem W_Main_judged (x1 : Int) (M : Mm) {P : Int → Mm → Prop} (H : (rng x1) ∧ (x1 < 0 → (P (-2) M)) ∧ (¬ (x1 < 0) → ((rng x1) ∧ (x1 ≤ 2 → (∃ P1 : Mm → Prop, S_State_copyFrom 53 36 M P1 ∧ ∀ M1 : Mm, P1 M1 → ∃ t101 : Nat, M1 1 1 = (t101 : Int) ∧ At shC NN t101 (.inl 7) ∧ ∃ P2 : Mm → Prop, S_Mangle_judge 61 t101 47 53 M1 P2 ∧ ∀ M2 : Mm, P2 M2 → (rng x1) ∧ (x1 ≠ 2 → ((rng x1) ∧ (x1 ≠ 0 → (P (M2 61 3) M2)) ∧ (x1 = 0 → (P (M2 61 2) M2)))) ∧ (x1 = 2 → (P (M2 53 8) M2)))) ∧ (¬ (x1 ≤ 2) → (P (-2) M))))) : S_Main_judged x1 M P := e_Main_judged x1 M (fun _ h => w_Main_judged_0 h x1 M H)
set_option maxHeartbeats 4000000 in
set_option maxRecDepth 100000 in
theorem w_Main_years_0 {P : Int → Mm → Prop} {K : Nat → Rr → Nat → List (Nat × AV) → List AV → Mm → Prop} (h : EK shC yX11_years cX11_years 1 (some .int) 13 NN NN (QI RRC P) K)  (M : Mm)
    (H : ∃ P1 : Mm → Prop, S_Tape_beginReading 2 M P1 ∧ ∀ M1 : Mm, P1 M1 → ∃ t101 : Nat, M1 1 1 = (t101 : Int) ∧ At shC NN t101 (.inl 7) ∧ ∃ P2 : Int → Mm → Prop, S_Years_readFrom 32 2 t101 M1 P2 ∧ ∀ (r2 : Int) (M2 : Mm), P2 r2 M2 → (rng r2) ∧ (r2 ≠ 0 → (∃ P3 : Mm → Prop, S_Years_copyFrom 47 32 M2 P3 ∧ ∀ M3 : Mm, P3 M3 → P 0 M3)) ∧ (r2 = 0 → (P (M2 2 10) M2))) :
    K NN RRC 0 [(0, vr 1)] [] M := by
  refine r_aloadn h (q := 0) 0 rfl (by decide +kernel : decode cX11_years 0 = .ok (.aload_n 0, 1)) ?_
  refine r_getR h (r := 2) f_Main_10 at1C rfl (by decide) (by decide +kernel : decode cX11_years 1 = .ok (.getfield 10, 3)) ?_
  obtain ⟨P1, hSP1, H⟩ := H
  refine r_callV h (as := []) (S := []) (b := 2) m_Main_102 hSP1 (by decide) (Nat.le_refl _) rfl atC_2 rfl (Nat.le_of_ble_eq_true rfl) (by decide +kernel : decode cX11_years 4 = .ok (.invokevirtual 102, 3)) ?_
  rintro _ _ M1 ⟨rfl, rfl, hP⟩
  have H := H M1 hP
  show K NN RRC _ _ [] _
  refine r_aloadn h (q := 0) 0 rfl (by decide +kernel : decode cX11_years 7 = .ok (.aload_n 0, 1)) ?_
  refine r_getR h (r := 32) f_Main_29 at1C rfl (by decide) (by decide +kernel : decode cX11_years 8 = .ok (.getfield 29, 3)) ?_
  refine r_aloadn h (q := 0) 0 rfl (by decide +kernel : decode cX11_years 11 = .ok (.aload_n 0, 1)) ?_
  refine r_getR h (r := 2) f_Main_10 at1C rfl (by decide) (by decide +kernel : decode cX11_years 12 = .ok (.getfield 10, 3)) ?_
  refine r_aloadn h (q := 0) 0 rfl (by decide +kernel : decode cX11_years 15 = .ok (.aload_n 0, 1)) ?_
  obtain ⟨t101, htt101, hat101, H⟩ := H
  refine r_getM h (r := t101) f_Main_19 at1C htt101 hat101.2.1 (by decide +kernel : decode cX11_years 16 = .ok (.getfield 19, 3)) ?_
  obtain ⟨P2, hSP2, H⟩ := H
  refine r_callV h (as := [vr 2, vr t101]) (S := []) (b := 32) m_Main_115 hSP2 (by decide) (Nat.le_refl _) rfl atC_32 rfl (Nat.le_of_ble_eq_true rfl) (by decide +kernel : decode cX11_years 19 = .ok (.invokevirtual 115, 3)) ?_
  rintro _ _ M2 ⟨rfl, r2, rfl, hP⟩
  have H := H r2 M2 hP
  show K NN RRC _ _ [vi r2] _
  obtain ⟨g1, H⟩ := H
  obtain ⟨H1, H2⟩ := H
  refine r_if_ne h 33 g1 (by decide) (by decide +kernel : decode cX11_years 22 = .ok (.ifCond .ne 11, 3)) (fun hc => ?_) (fun hc => ?_)
  · have H := H1 hc
    refine r_aloadn h (q := 0) 0 rfl (by decide +kernel : decode cX11_years 33 = .ok (.aload_n 0, 1)) ?_
    refine r_getR h (r := 41) f_Main_43 at1C rfl (by decide) (by decide +kernel : decode cX11_years 34 = .ok (.getfield 43, 3)) ?_
    refine r_getR h (r := 47) f_Main_118 atC_41 rfl (by decide) (by decide +kernel : decode cX11_years 37 = .ok (.getfield 118, 3)) ?_
    refine r_aloadn h (q := 0) 0 rfl (by decide +kernel : decode cX11_years 40 = .ok (.aload_n 0, 1)) ?_
    refine r_getR h (r := 32) f_Main_29 at1C rfl (by decide) (by decide +kernel : decode cX11_years 41 = .ok (.getfield 29, 3)) ?_
    obtain ⟨P3, hSP3, H⟩ := H
    refine r_callV h (as := [vr 32]) (S := []) (b := 47) m_Main_121 hSP3 (by decide) (Nat.le_refl _) rfl atC_47 rfl (Nat.le_of_ble_eq_true rfl) (by decide +kernel : decode cX11_years 44 = .ok (.invokevirtual 121, 3)) ?_
    rintro _ _ M3 ⟨rfl, rfl, hP⟩
    have H := H M3 hP
    show K NN RRC _ _ [] _
    refine r_iconst h (v := 0) (by decide +kernel : decode cX11_years 47 = .ok (.iconst 0, 1)) ?_
    exact r_iret h rfl (by decide +kernel : decode cX11_years 48 = .ok (.ireturn, 1)) rfl ⟨rfl, _, rfl, H⟩
  · have H := H2 hc
    refine r_aloadn h (q := 0) 0 rfl (by decide +kernel : decode cX11_years 25 = .ok (.aload_n 0, 1)) ?_
    refine r_getR h (r := 2) f_Main_10 at1C rfl (by decide) (by decide +kernel : decode cX11_years 26 = .ok (.getfield 10, 3)) ?_
    refine r_getI h f_Main_109 atC_2 (by decide +kernel : decode cX11_years 29 = .ok (.getfield 109, 3)) ?_
    exact r_iret h rfl (by decide +kernel : decode cX11_years 32 = .ok (.ireturn, 1)) rfl ⟨rfl, _, rfl, H⟩
theorem W_Main_years  (M : Mm) {P : Int → Mm → Prop} (H : ∃ P1 : Mm → Prop, S_Tape_beginReading 2 M P1 ∧ ∀ M1 : Mm, P1 M1 → ∃ t101 : Nat, M1 1 1 = (t101 : Int) ∧ At shC NN t101 (.inl 7) ∧ ∃ P2 : Int → Mm → Prop, S_Years_readFrom 32 2 t101 M1 P2 ∧ ∀ (r2 : Int) (M2 : Mm), P2 r2 M2 → (rng r2) ∧ (r2 ≠ 0 → (∃ P3 : Mm → Prop, S_Years_copyFrom 47 32 M2 P3 ∧ ∀ M3 : Mm, P3 M3 → P 0 M3)) ∧ (r2 = 0 → (P (M2 2 10) M2))) : S_Main_years  M P := e_Main_years  M (fun _ h => w_Main_years_0 h  M H)
set_option maxHeartbeats 4000000 in
set_option maxRecDepth 100000 in
theorem w_Main_town_0 {P : Int → Mm → Prop} {K : Nat → Rr → Nat → List (Nat × AV) → List AV → Mm → Prop} (h : EK shC yX11_town cX11_town 3 (some .int) 64 NN NN (QI RRC P) K)  (M : Mm)
    (H : ∃ P1 : Mm → Prop, S_Tape_beginReading 2 M P1 ∧ ∀ M1 : Mm, P1 M1 → ∃ t101 : Nat, M1 1 2 = (t101 : Int) ∧ At shC NN t101 (.inl 7) ∧ ∃ P2 : Int → Mm → Prop, S_Town_readFrom t101 2 M1 P2 ∧ ∀ (r2 : Int) (M2 : Mm), P2 r2 M2 → (rng r2) ∧ (r2 ≠ 0 → (∃ t102 : Nat, M2 1 1 = (t102 : Int) ∧ At shC NN t102 (.inl 7) ∧ ∃ t103 : Nat, M2 1 2 = (t103 : Int) ∧ At shC NN t103 (.inl 7) ∧ ∀ M3 : Mm, M3 = (upr M2 1 (up1 (M2 1) 1 (t103 : Int))) → ∀ M4 : Mm, M4 = (upr M3 1 (up1 (M3 1) 2 (t102 : Int))) → ∃ t104 : Nat, M4 1 1 = (t104 : Int) ∧ At shC NN t104 (.inl 7) ∧ ∃ P5 : Mm → Prop, S_State_beginAs 36 t104 M4 P5 ∧ ∀ M5 : Mm, P5 M5 → ∃ P6 : Mm → Prop, S_Standing_beginAs 41 36 M5 P6 ∧ ∀ M6 : Mm, P6 M6 → ∀ M7 : Mm, M7 = (upr M6 1 (up1 (M6 1) 11 0)) → K NN RRC 76 [(0, vr 1), (2, vi 0)] [] M7)) ∧ (r2 = 0 → (P (M2 2 10) M2))) :
    K NN RRC 0 [(0, vr 1)] [] M := by
  refine r_aloadn h (q := 0) 0 rfl (by decide +kernel : decode cX11_town 0 = .ok (.aload_n 0, 1)) ?_
  refine r_getR h (r := 2) f_Main_10 at1C rfl (by decide) (by decide +kernel : decode cX11_town 1 = .ok (.getfield 10, 3)) ?_
  obtain ⟨P1, hSP1, H⟩ := H
  refine r_callV h (as := []) (S := []) (b := 2) m_Main_102 hSP1 (by decide) (Nat.le_refl _) rfl atC_2 rfl (Nat.le_of_ble_eq_true rfl) (by decide +kernel : decode cX11_town 4 = .ok (.invokevirtual 102, 3)) ?_
  rintro _ _ M1 ⟨rfl, rfl, hP⟩
  have H := H M1 hP
  show K NN RRC _ _ [] _
  refine r_aloadn h (q := 0) 0 rfl (by decide +kernel : decode cX11_town 7 = .ok (.aload_n 0, 1)) ?_
  obtain ⟨t101, htt101, hat101, H⟩ := H
  refine r_getM h (r := t101) f_Main_23 at1C htt101 hat101.2.1 (by decide +kernel : decode cX11_town 8 = .ok (.getfield 23, 3)) ?_
  refine r_aloadn h (q := 0) 0 rfl (by decide +kernel : decode cX11_town 11 = .ok (.aload_n 0, 1)) ?_
  refine r_getR h (r := 2) f_Main_10 at1C rfl (by decide) (by decide +kernel : decode cX11_town 12 = .ok (.getfield 10, 3)) ?_
  obtain ⟨P2, hSP2, H⟩ := H
  refine r_callV h (as := [vr 2]) (S := []) (b := t101) m_Main_105 hSP2 (by decide) (Nat.le_refl _) rfl hat101 rfl (Nat.le_of_ble_eq_true rfl) (by decide +kernel : decode cX11_town 15 = .ok (.invokevirtual 105, 3)) ?_
  rintro _ _ M2 ⟨rfl, r2, rfl, hP⟩
  have H := H r2 M2 hP
  show K NN RRC _ _ [vi r2] _
  obtain ⟨g1, H⟩ := H
  obtain ⟨H1, H2⟩ := H
  refine r_if_ne h 29 g1 (by decide) (by decide +kernel : decode cX11_town 18 = .ok (.ifCond .ne 11, 3)) (fun hc => ?_) (fun hc => ?_)
  · have H := H1 hc
    refine r_aloadn h (q := 0) 0 rfl (by decide +kernel : decode cX11_town 29 = .ok (.aload_n 0, 1)) ?_
    obtain ⟨t102, htt102, hat102, H⟩ := H
    refine r_getM h (r := t102) f_Main_19 at1C htt102 hat102.2.1 (by decide +kernel : decode cX11_town 30 = .ok (.getfield 19, 3)) ?_
    refine r_astoren h (q := 1) (L' := [(1, vr t102), (0, vr 1)]) (by decide) rfl (by decide +kernel : decode cX11_town 33 = .ok (.astore_n 1, 1)) ?_
    refine r_aloadn h (q := 0) 1 rfl (by decide +kernel : decode cX11_town 34 = .ok (.aload_n 0, 1)) ?_
    refine r_aloadn h (q := 0) 1 rfl (by decide +kernel : decode cX11_town 35 = .ok (.aload_n 0, 1)) ?_
    obtain ⟨t103, htt103, hat103, H⟩ := H
    refine r_getM h (r := t103) f_Main_23 at1C htt103 hat103.2.1 (by decide +kernel : decode cX11_town 36 = .ok (.getfield 23, 3)) ?_
    refine r_putM h hat103.2.1 f_Main_19 at1C rfl rfl (by decide +kernel : decode cX11_town 39 = .ok (.putfield 19, 3)) ?_
    have H := H _ rfl
    revert H
    generalize (upr M2 1 (up1 (M2 1) 1 (t103 : Int))) = M3
    intro H
    refine r_aloadn h (q := 0) 1 rfl (by decide +kernel : decode cX11_town 42 = .ok (.aload_n 0, 1)) ?_
    refine r_aloadn h (q := 1) 0 rfl (by decide +kernel : decode cX11_town 43 = .ok (.aload_n 1, 1)) ?_
    refine r_putM h hat102.2.1 f_Main_23 at1C rfl rfl (by decide +kernel : decode cX11_town 44 = .ok (.putfield 23, 3)) ?_
    have H := H _ rfl
    revert H
    generalize (upr M3 1 (up1 (M3 1) 2 (t102 : Int))) = M4
    intro H
    refine r_aloadn h (q := 0) 1 rfl (by decide +kernel : decode cX11_town 47 = .ok (.aload_n 0, 1)) ?_
    refine r_getR h (r := 36) f_Main_36 at1C rfl (by decide) (by decide +kernel : decode cX11_town 48 = .ok (.getfield 36, 3)) ?_
    refine r_aloadn h (q := 0) 1 rfl (by decide +kernel : decode cX11_town 51 = .ok (.aload_n 0, 1)) ?_
    obtain ⟨t104, htt104, hat104, H⟩ := H
    refine r_getM h (r := t104) f_Main_19 at1C htt104 hat104.2.1 (by decide +kernel : decode cX11_town 52 = .ok (.getfield 19, 3)) ?_
    obtain ⟨P5, hSP5, H⟩ := H
    refine r_callV h (as := [vr t104]) (S := []) (b := 36) m_Main_87 hSP5 (by decide) (Nat.le_refl _) rfl atC_36 rfl (Nat.le_of_ble_eq_true rfl) (by decide +kernel : decode cX11_town 55 = .ok (.invokevirtual 87, 3)) ?_
    rintro _ _ M5 ⟨rfl, rfl, hP⟩
    have H := H M5 hP
    show K NN RRC _ _ [] _
    refine r_aloadn h (q := 0) 1 rfl (by decide +kernel : decode cX11_town 58 = .ok (.aload_n 0, 1)) ?_
    refine r_getR h (r := 41) f_Main_43 at1C rfl (by decide) (by decide +kernel : decode cX11_town 59 = .ok (.getfield 43, 3)) ?_
    refine r_aloadn h (q := 0) 1 rfl (by decide +kernel : decode cX11_town 62 = .ok (.aload_n 0, 1)) ?_
    refine r_getR h (r := 36) f_Main_36 at1C rfl (by decide) (by decide +kernel : decode cX11_town 63 = .ok (.getfield 36, 3)) ?_
    obtain ⟨P6, hSP6, H⟩ := H
    refine r_callV h (as := [vr 36]) (S := []) (b := 41) m_Main_91 hSP6 (by decide) (Nat.le_refl _) rfl atC_41 rfl (Nat.le_of_ble_eq_true rfl) (by decide +kernel : decode cX11_town 66 = .ok (.invokevirtual 91, 3)) ?_
    rintro _ _ M6 ⟨rfl, rfl, hP⟩
    have H := H M6 hP
    show K NN RRC _ _ [] _
    refine r_aloadn h (q := 0) 1 rfl (by decide +kernel : decode cX11_town 69 = .ok (.aload_n 0, 1)) ?_
    refine r_iconst h (v := 0) (by decide +kernel : decode cX11_town 70 = .ok (.iconst 0, 1)) ?_
    refine r_putI h f_Main_112 at1C rfl rfl (by decide +kernel : decode cX11_town 71 = .ok (.putfield 112, 3)) ?_
    have H := H _ rfl
    revert H
    generalize (upr M6 1 (up1 (M6 1) 11 0)) = M7
    intro H
    refine r_iconst h (v := 0) (by decide +kernel : decode cX11_town 74 = .ok (.iconst 0, 1)) ?_
    refine r_istoren h (q := 2) (L' := [(2, vi 0), (1, vr t102), (0, vr 1)]) (by decide) rfl (by decide +kernel : decode cX11_town 75 = .ok (.istore_n 2, 1)) ?_
    refine r_drop h [2, 0] rfl ?_
    exact H
  · have H := H2 hc
    refine r_aloadn h (q := 0) 0 rfl (by decide +kernel : decode cX11_town 21 = .ok (.aload_n 0, 1)) ?_
    refine r_getR h (r := 2) f_Main_10 at1C rfl (by decide) (by decide +kernel : decode cX11_town 22 = .ok (.getfield 10, 3)) ?_
    refine r_getI h f_Main_109 atC_2 (by decide +kernel : decode cX11_town 25 = .ok (.getfield 109, 3)) ?_
    exact r_iret h rfl (by decide +kernel : decode cX11_town 28 = .ok (.ireturn, 1)) rfl ⟨rfl, _, rfl, H⟩
set_option maxHeartbeats 4000000 in
set_option maxRecDepth 100000 in
theorem w_Main_town_76 {P : Int → Mm → Prop} {K : Nat → Rr → Nat → List (Nat × AV) → List AV → Mm → Prop} (h : EK shC yX11_town cX11_town 3 (some .int) 64 NN NN (QI RRC P) K) (x2 : Int) (M : Mm)
    (H : (rng x2) ∧ (4 ≤ x2 → (P 0 M)) ∧ (¬ (4 ≤ x2) → ((0 ≤ x2 ∧ x2 < 4) ∧ ∀ M1 : Mm, M1 = (upr M 59 (up1 (M 59) x2.toNat 0)) → K NN RRC 76 [(0, vr 1), (2, vi (x2 + 1))] [] M1))) :
    K NN RRC 76 [(0, vr 1), (2, vi x2)] [] M := by
  refine r_iloadn h (q := 2) 1 rfl (by decide +kernel : decode cX11_town 76 = .ok (.iload_n 2, 1)) ?_
  refine r_iconst h (v := 4) (by decide +kernel : decode cX11_town 77 = .ok (.iconst 4, 1)) ?_
  obtain ⟨g1, H⟩ := H
  obtain ⟨H1, H2⟩ := H
  refine r_icmp_ge h 94 g1 (by decide) (by decide) (by decide +kernel : decode cX11_town 78 = .ok (.if_icmp .ge 16, 3)) (fun hc => ?_) (fun hc => ?_)
  · have H := H1 hc
    refine r_iconst h (v := 0) (by decide +kernel : decode cX11_town 94 = .ok (.iconst 0, 1)) ?_
    exact r_iret h rfl (by decide +kernel : decode cX11_town 95 = .ok (.ireturn, 1)) rfl ⟨rfl, _, rfl, H⟩
  · have H := H2 hc
    refine r_aloadn h (q := 0) 0 rfl (by decide +kernel : decode cX11_town 81 = .ok (.aload_n 0, 1)) ?_
    refine r_getR h (r := 59) f_Main_54 at1C rfl (by decide) (by decide +kernel : decode cX11_town 82 = .ok (.getfield 54, 3)) ?_
    refine r_iloadn h (q := 2) 1 rfl (by decide +kernel : decode cX11_town 85 = .ok (.iload_n 2, 1)) ?_
    refine r_iconst h (v := 0) (by decide +kernel : decode cX11_town 86 = .ok (.iconst 0, 1)) ?_
    obtain ⟨g1, H⟩ := H
    refine r_zast h x2.toNat rfl atC_59 g1 (by decide) (by decide) (by decide +kernel : decode cX11_town 87 = .ok (.bastore, 1)) ?_
    have H := H _ rfl
    revert H
    generalize (upr M 59 (up1 (M 59) x2.toNat 0)) = M1
    intro H
    refine r_iinc h (i := 2) (v := 1) (L' := [(2, vi (x2 + 1)), (0, vr 1)]) 1 rfl (by decide) rfl (by decide +kernel : decode cX11_town 88 = .ok (.iinc 2 1, 3)) ?_
    refine r_goto h 76 (by decide) (by decide +kernel : decode cX11_town 91 = .ok (.goto (-15), 3)) ?_
    refine r_drop h [1, 0] rfl ?_
    exact H
