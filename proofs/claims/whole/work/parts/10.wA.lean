set_option maxHeartbeats 4000000 in
set_option maxRecDepth 100000 in
theorem w_Tape_addSign_0 {P : Mm → Prop} {K : Nat → Rr → Nat → List (Nat × AV) → List AV → Mm → Prop} (h : EK shC yX7_addSign cX7_addSign 3 none 1 NN NN (QV RRC P) K) (b : Nat) (hb : At shC NN b (.inl 6)) (x1 : Int) (M : Mm)
    (H : (rng x1) ∧ (x1 = 10 → (K NN RRC 23 [(0, vr b), (1, vi x1)] [vi 1] M)) ∧ (x1 ≠ 10 → ((rng x1) ∧ (x1 < 32 → (K NN RRC 23 [(0, vr b), (1, vi x1)] [vi 0] M)) ∧ (¬ (x1 < 32) → ((rng x1) ∧ (126 < x1 → (K NN RRC 23 [(0, vr b), (1, vi x1)] [vi 0] M)) ∧ (¬ (126 < x1) → (K NN RRC 23 [(0, vr b), (1, vi x1)] [vi 1] M))))))) :
    K NN RRC 0 [(0, vr b), (1, vi x1)] [] M := by
  refine r_iloadn h (q := 1) 1 rfl (by decide +kernel : decode cX7_addSign 0 = .ok (.iload_n 1, 1)) ?_
  refine r_bipush h (v := 10) (by decide) (by decide +kernel : decode cX7_addSign 1 = .ok (.bipush 10, 2)) ?_
  obtain ⟨g1, H⟩ := H
  obtain ⟨H1, H2⟩ := H
  refine r_icmp_eq h 18 g1 (by decide) (by decide) (by decide +kernel : decode cX7_addSign 3 = .ok (.if_icmp .eq 15, 3)) (fun hc => ?_) (fun hc => ?_)
  · have H := H1 hc
    refine r_iconst h (v := 1) (by decide +kernel : decode cX7_addSign 18 = .ok (.iconst 1, 1)) ?_
    refine r_goto h 23 (by decide) (by decide +kernel : decode cX7_addSign 19 = .ok (.goto 4, 3)) ?_
    exact H
  · have H := H2 hc
    refine r_iloadn h (q := 1) 1 rfl (by decide +kernel : decode cX7_addSign 6 = .ok (.iload_n 1, 1)) ?_
    refine r_bipush h (v := 32) (by decide) (by decide +kernel : decode cX7_addSign 7 = .ok (.bipush 32, 2)) ?_
    obtain ⟨g1, H⟩ := H
    obtain ⟨H1, H2⟩ := H
    refine r_icmp_lt h 22 g1 (by decide) (by decide) (by decide +kernel : decode cX7_addSign 9 = .ok (.if_icmp .lt 13, 3)) (fun hc => ?_) (fun hc => ?_)
    · have H := H1 hc
      refine r_iconst h (v := 0) (by decide +kernel : decode cX7_addSign 22 = .ok (.iconst 0, 1)) ?_
      exact H
    · have H := H2 hc
      refine r_iloadn h (q := 1) 1 rfl (by decide +kernel : decode cX7_addSign 12 = .ok (.iload_n 1, 1)) ?_
      refine r_bipush h (v := 126) (by decide) (by decide +kernel : decode cX7_addSign 13 = .ok (.bipush 126, 2)) ?_
      obtain ⟨g1, H⟩ := H
      obtain ⟨H1, H2⟩ := H
      refine r_icmp_gt h 22 g1 (by decide) (by decide) (by decide +kernel : decode cX7_addSign 15 = .ok (.if_icmp .gt 7, 3)) (fun hc => ?_) (fun hc => ?_)
      · have H := H1 hc
        refine r_iconst h (v := 0) (by decide +kernel : decode cX7_addSign 22 = .ok (.iconst 0, 1)) ?_
        exact H
      · have H := H2 hc
        refine r_iconst h (v := 1) (by decide +kernel : decode cX7_addSign 18 = .ok (.iconst 1, 1)) ?_
        refine r_goto h 23 (by decide) (by decide +kernel : decode cX7_addSign 19 = .ok (.goto 4, 3)) ?_
        exact H
set_option maxHeartbeats 4000000 in
set_option maxRecDepth 100000 in
theorem w_Tape_addSign_23 {P : Mm → Prop} {K : Nat → Rr → Nat → List (Nat × AV) → List AV → Mm → Prop} (h : EK shC yX7_addSign cX7_addSign 3 none 1 NN NN (QV RRC P) K) (b : Nat) (hb : At shC NN b (.inl 6)) (x1 : Int) (s0 : Int) (M : Mm)
    (H : (rng s0) ∧ (s0 = 0 → (P M)) ∧ (s0 ≠ 0 → ((rng (M b 1)) ∧ (1000 ≤ (M b 1) → (P M)) ∧ (¬ (1000 ≤ (M b 1)) → ((-128 ≤ x1 ∧ x1 ≤ 127) ∧ (0 ≤ (M b 1) ∧ (M b 1) < 1000) ∧ (-128 ≤ x1 ∧ x1 ≤ 127) ∧ ∀ M1 : Mm, M1 = (upr M (b + 1) (up1 (M (b + 1)) (M b 1).toNat x1)) → ∀ M2 : Mm, M2 = (upr M1 b (up1 (M1 b) 1 ((M1 b 1) + 1))) → P M2))))) :
    K NN RRC 23 [(0, vr b), (1, vi x1)] [vi s0] M := by
  refine r_istoren h (q := 2) (L' := [(2, vi s0), (0, vr b), (1, vi x1)]) (by decide) rfl (by decide +kernel : decode cX7_addSign 23 = .ok (.istore_n 2, 1)) ?_
  refine r_iloadn h (q := 2) 0 rfl (by decide +kernel : decode cX7_addSign 24 = .ok (.iload_n 2, 1)) ?_
  obtain ⟨g1, H⟩ := H
  obtain ⟨H1, H2⟩ := H
  refine r_if_eq h 59 g1 (by decide) (by decide +kernel : decode cX7_addSign 25 = .ok (.ifCond .eq 34, 3)) (fun hc => ?_) (fun hc => ?_)
  · have H := H1 hc
    exact r_vret h rfl (by decide +kernel : decode cX7_addSign 59 = .ok (.return_, 1)) rfl ⟨rfl, rfl, H⟩
  · have H := H2 hc
    refine r_aloadn h (q := 0) 1 rfl (by decide +kernel : decode cX7_addSign 28 = .ok (.aload_n 0, 1)) ?_
    refine r_getI h f_Tape_24 hb (by decide +kernel : decode cX7_addSign 29 = .ok (.getfield 24, 3)) ?_
    refine r_sipush h (v := 1000) (by decide) (by decide +kernel : decode cX7_addSign 32 = .ok (.sipush 1000, 3)) ?_
    obtain ⟨g1, H⟩ := H
    obtain ⟨H1, H2⟩ := H
    refine r_icmp_ge h 59 g1 (by decide) (by decide) (by decide +kernel : decode cX7_addSign 35 = .ok (.if_icmp .ge 24, 3)) (fun hc => ?_) (fun hc => ?_)
    · have H := H1 hc
      exact r_vret h rfl (by decide +kernel : decode cX7_addSign 59 = .ok (.return_, 1)) rfl ⟨rfl, rfl, H⟩
    · have H := H2 hc
      refine r_aloadn h (q := 0) 1 rfl (by decide +kernel : decode cX7_addSign 38 = .ok (.aload_n 0, 1)) ?_
      refine r_getR h (r := (b + 1)) f_Tape_9 hb (rr_6_0 hb) (by omega) (by decide +kernel : decode cX7_addSign 39 = .ok (.getfield 9, 3)) ?_
      refine r_aloadn h (q := 0) 1 rfl (by decide +kernel : decode cX7_addSign 42 = .ok (.aload_n 0, 1)) ?_
      refine r_getI h f_Tape_24 hb (by decide +kernel : decode cX7_addSign 43 = .ok (.getfield 24, 3)) ?_
      refine r_iloadn h (q := 1) 2 rfl (by decide +kernel : decode cX7_addSign 46 = .ok (.iload_n 1, 1)) ?_
      obtain ⟨g1, H⟩ := H
      refine r_i2b h g1 (by decide +kernel : decode cX7_addSign 47 = .ok (.i2b, 1)) ?_
      obtain ⟨g1, g2, H⟩ := H
      refine r_bast h (M b 1).toNat rfl (at_6_0 hb) g1 (by decide) g2 (by decide +kernel : decode cX7_addSign 48 = .ok (.bastore, 1)) ?_
      have H := H _ rfl
      revert H
      generalize (upr M (b + 1) (up1 (M (b + 1)) (M b 1).toNat x1)) = M1
      intro H
      refine r_aloadn h (q := 0) 1 rfl (by decide +kernel : decode cX7_addSign 49 = .ok (.aload_n 0, 1)) ?_
      refine r_dup h rfl (by decide +kernel : decode cX7_addSign 50 = .ok (.dup, 1)) ?_
      refine r_getI h f_Tape_24 hb (by decide +kernel : decode cX7_addSign 51 = .ok (.getfield 24, 3)) ?_
      refine r_iconst h (v := 1) (by decide +kernel : decode cX7_addSign 54 = .ok (.iconst 1, 1)) ?_
      refine r_iadd h (by decide +kernel : decode cX7_addSign 55 = .ok (.iadd, 1)) ?_
      refine r_putI h f_Tape_24 hb rfl rfl (by decide +kernel : decode cX7_addSign 56 = .ok (.putfield 24, 3)) ?_
      have H := H _ rfl
      revert H
      generalize (upr M1 b (up1 (M1 b) 1 ((M1 b 1) + 1))) = M2
      intro H
      exact r_vret h rfl (by decide +kernel : decode cX7_addSign 59 = .ok (.return_, 1)) rfl ⟨rfl, rfl, H⟩
set_option maxHeartbeats 4000000 in
set_option maxRecDepth 100000 in
theorem w_Tape_readWord_0 {P : Mm → Prop} {K : Nat → Rr → Nat → List (Nat × AV) → List AV → Mm → Prop} (h : EK shC yX7_readWord cX7_readWord 1 none 1 NN NN (QV RRC P) K) (b : Nat) (hb : At shC NN b (.inl 6)) (M : Mm)
    (H : ∀ M1 : Mm, M1 = (upr M b (up1 (M b) 7 0)) → K NN RRC 5 [(0, vr b)] [] M1) :
    K NN RRC 0 [(0, vr b)] [] M := by
  refine r_aloadn h (q := 0) 0 rfl (by decide +kernel : decode cX7_readWord 0 = .ok (.aload_n 0, 1)) ?_
  refine r_lconst h (v := 0) (w := 0) (by decide) (by decide +kernel : decode cX7_readWord 1 = .ok (.lconst 0, 1)) ?_
  refine r_putL h f_Tape_49 hb rfl rfl (by decide +kernel : decode cX7_readWord 2 = .ok (.putfield 49, 3)) ?_
  have H := H _ rfl
  revert H
  generalize (upr M b (up1 (M b) 7 0)) = M1
  intro H
  exact H
set_option maxHeartbeats 4000000 in
set_option maxRecDepth 100000 in
theorem w_Tape_readWord_5 {P : Mm → Prop} {K : Nat → Rr → Nat → List (Nat × AV) → List AV → Mm → Prop} (h : EK shC yX7_readWord cX7_readWord 1 none 1 NN NN (QV RRC P) K) (b : Nat) (hb : At shC NN b (.inl 6)) (M : Mm)
    (H : (rng (M b 4)) ∧ (rng (M b 2)) ∧ ((M b 2) ≤ (M b 4) → (K NN RRC 85 [(0, vr b)] [] M)) ∧ (¬ ((M b 2) ≤ (M b 4)) → ((0 ≤ (M b 4) ∧ (M b 4) < 1000) ∧ (rng (M (b + 1) (M b 4).toNat)) ∧ ((M (b + 1) (M b 4).toNat) < 97 → (K NN RRC 85 [(0, vr b)] [] M)) ∧ (¬ ((M (b + 1) (M b 4).toNat) < 97) → ((0 ≤ (M b 4) ∧ (M b 4) < 1000) ∧ (rng (M (b + 1) (M b 4).toNat)) ∧ (122 < (M (b + 1) (M b 4).toNat) → (K NN RRC 85 [(0, vr b)] [] M)) ∧ (¬ (122 < (M (b + 1) (M b 4).toNat)) → ((0 ≤ (M b 4) ∧ (M b 4) < 1000) ∧ (rng (((M (b + 1) (M b 4).toNat) - 97) + 1)) ∧ ∀ M1 : Mm, M1 = (upr M b (up1 (M b) 7 (((M b 7) * 32) + (((M (b + 1) (M b 4).toNat) - 97) + 1)))) → ∀ M2 : Mm, M2 = (upr M1 b (up1 (M1 b) 4 ((M1 b 4) + 1))) → K NN RRC 5 [(0, vr b)] [] M2))))))) :
    K NN RRC 5 [(0, vr b)] [] M := by
  refine r_aloadn h (q := 0) 0 rfl (by decide +kernel : decode cX7_readWord 5 = .ok (.aload_n 0, 1)) ?_
  refine r_getI h f_Tape_31 hb (by decide +kernel : decode cX7_readWord 6 = .ok (.getfield 31, 3)) ?_
  refine r_aloadn h (q := 0) 0 rfl (by decide +kernel : decode cX7_readWord 9 = .ok (.aload_n 0, 1)) ?_
  refine r_getI h f_Tape_28 hb (by decide +kernel : decode cX7_readWord 10 = .ok (.getfield 28, 3)) ?_
  obtain ⟨g1, g2, H⟩ := H
  obtain ⟨H1, H2⟩ := H
  refine r_icmp_ge h 85 g1 g2 (by decide) (by decide +kernel : decode cX7_readWord 13 = .ok (.if_icmp .ge 72, 3)) (fun hc => ?_) (fun hc => ?_)
  · have H := H1 hc
    exact H
  · have H := H2 hc
    refine r_aloadn h (q := 0) 0 rfl (by decide +kernel : decode cX7_readWord 16 = .ok (.aload_n 0, 1)) ?_
    refine r_getR h (r := (b + 1)) f_Tape_9 hb (rr_6_0 hb) (by omega) (by decide +kernel : decode cX7_readWord 17 = .ok (.getfield 9, 3)) ?_
    refine r_aloadn h (q := 0) 0 rfl (by decide +kernel : decode cX7_readWord 20 = .ok (.aload_n 0, 1)) ?_
    refine r_getI h f_Tape_31 hb (by decide +kernel : decode cX7_readWord 21 = .ok (.getfield 31, 3)) ?_
    obtain ⟨g1, H⟩ := H
    refine r_bald h (M b 4).toNat rfl (at_6_0 hb) g1 (by decide) (by decide +kernel : decode cX7_readWord 24 = .ok (.baload, 1)) ?_
    refine r_bipush h (v := 97) (by decide) (by decide +kernel : decode cX7_readWord 25 = .ok (.bipush 97, 2)) ?_
    obtain ⟨g1, H⟩ := H
    obtain ⟨H1, H2⟩ := H
    refine r_icmp_lt h 85 g1 (by decide) (by decide) (by decide +kernel : decode cX7_readWord 27 = .ok (.if_icmp .lt 58, 3)) (fun hc => ?_) (fun hc => ?_)
    · have H := H1 hc
      exact H
    · have H := H2 hc
      refine r_aloadn h (q := 0) 0 rfl (by decide +kernel : decode cX7_readWord 30 = .ok (.aload_n 0, 1)) ?_
      refine r_getR h (r := (b + 1)) f_Tape_9 hb (rr_6_0 hb) (by omega) (by decide +kernel : decode cX7_readWord 31 = .ok (.getfield 9, 3)) ?_
      refine r_aloadn h (q := 0) 0 rfl (by decide +kernel : decode cX7_readWord 34 = .ok (.aload_n 0, 1)) ?_
      refine r_getI h f_Tape_31 hb (by decide +kernel : decode cX7_readWord 35 = .ok (.getfield 31, 3)) ?_
      obtain ⟨g1, H⟩ := H
      refine r_bald h (M b 4).toNat rfl (at_6_0 hb) g1 (by decide) (by decide +kernel : decode cX7_readWord 38 = .ok (.baload, 1)) ?_
      refine r_bipush h (v := 122) (by decide) (by decide +kernel : decode cX7_readWord 39 = .ok (.bipush 122, 2)) ?_
      obtain ⟨g1, H⟩ := H
      obtain ⟨H1, H2⟩ := H
      refine r_icmp_gt h 85 g1 (by decide) (by decide) (by decide +kernel : decode cX7_readWord 41 = .ok (.if_icmp .gt 44, 3)) (fun hc => ?_) (fun hc => ?_)
      · have H := H1 hc
        exact H
      · have H := H2 hc
        refine r_aloadn h (q := 0) 0 rfl (by decide +kernel : decode cX7_readWord 44 = .ok (.aload_n 0, 1)) ?_
        refine r_aloadn h (q := 0) 0 rfl (by decide +kernel : decode cX7_readWord 45 = .ok (.aload_n 0, 1)) ?_
        refine r_getL h f_Tape_49 hb (by decide +kernel : decode cX7_readWord 46 = .ok (.getfield 49, 3)) ?_
        refine r_ldc2 h (v := 32) kc_Tape_71 (by decide +kernel : decode cX7_readWord 49 = .ok (.ldc2_w 71, 3)) ?_
        refine r_lmul h (by decide +kernel : decode cX7_readWord 52 = .ok (.lmul, 1)) ?_
        refine r_aloadn h (q := 0) 0 rfl (by decide +kernel : decode cX7_readWord 53 = .ok (.aload_n 0, 1)) ?_
        refine r_getR h (r := (b + 1)) f_Tape_9 hb (rr_6_0 hb) (by omega) (by decide +kernel : decode cX7_readWord 54 = .ok (.getfield 9, 3)) ?_
        refine r_aloadn h (q := 0) 0 rfl (by decide +kernel : decode cX7_readWord 57 = .ok (.aload_n 0, 1)) ?_
        refine r_getI h f_Tape_31 hb (by decide +kernel : decode cX7_readWord 58 = .ok (.getfield 31, 3)) ?_
        obtain ⟨g1, H⟩ := H
        refine r_bald h (M b 4).toNat rfl (at_6_0 hb) g1 (by decide) (by decide +kernel : decode cX7_readWord 61 = .ok (.baload, 1)) ?_
        refine r_bipush h (v := 97) (by decide) (by decide +kernel : decode cX7_readWord 62 = .ok (.bipush 97, 2)) ?_
        refine r_isub h (by decide +kernel : decode cX7_readWord 64 = .ok (.isub, 1)) ?_
        refine r_iconst h (v := 1) (by decide +kernel : decode cX7_readWord 65 = .ok (.iconst 1, 1)) ?_
        refine r_iadd h (by decide +kernel : decode cX7_readWord 66 = .ok (.iadd, 1)) ?_
        obtain ⟨g1, H⟩ := H
        refine r_i2l h g1 (by decide +kernel : decode cX7_readWord 67 = .ok (.i2l, 1)) ?_
        refine r_ladd h (by decide +kernel : decode cX7_readWord 68 = .ok (.ladd, 1)) ?_
        refine r_putL h f_Tape_49 hb rfl rfl (by decide +kernel : decode cX7_readWord 69 = .ok (.putfield 49, 3)) ?_
        have H := H _ rfl
        revert H
        generalize (upr M b (up1 (M b) 7 (((M b 7) * 32) + (((M (b + 1) (M b 4).toNat) - 97) + 1)))) = M1
        intro H
        refine r_aloadn h (q := 0) 0 rfl (by decide +kernel : decode cX7_readWord 72 = .ok (.aload_n 0, 1)) ?_
        refine r_dup h rfl (by decide +kernel : decode cX7_readWord 73 = .ok (.dup, 1)) ?_
        refine r_getI h f_Tape_31 hb (by decide +kernel : decode cX7_readWord 74 = .ok (.getfield 31, 3)) ?_
        refine r_iconst h (v := 1) (by decide +kernel : decode cX7_readWord 77 = .ok (.iconst 1, 1)) ?_
        refine r_iadd h (by decide +kernel : decode cX7_readWord 78 = .ok (.iadd, 1)) ?_
        refine r_putI h f_Tape_31 hb rfl rfl (by decide +kernel : decode cX7_readWord 79 = .ok (.putfield 31, 3)) ?_
        have H := H _ rfl
        revert H
        generalize (upr M1 b (up1 (M1 b) 4 ((M1 b 4) + 1))) = M2
        intro H
        refine r_goto h 5 (by decide) (by decide +kernel : decode cX7_readWord 82 = .ok (.goto (-77), 3)) ?_
        exact H
set_option maxHeartbeats 4000000 in
set_option maxRecDepth 100000 in
theorem w_Tape_readWord_85 {P : Mm → Prop} {K : Nat → Rr → Nat → List (Nat × AV) → List AV → Mm → Prop} (h : EK shC yX7_readWord cX7_readWord 1 none 1 NN NN (QV RRC P) K) (b : Nat) (hb : At shC NN b (.inl 6)) (M : Mm)
    (H : (rng ((M b 4) - (M b 3))) ∧ (8 < ((M b 4) - (M b 3)) → (∀ M1 : Mm, M1 = (upr M b (up1 (M b) 5 1)) → P M1)) ∧ (¬ (8 < ((M b 4) - (M b 3))) → (∀ M2 : Mm, M2 = (upr M b (up1 (M b) 5 2)) → P M2))) :
    K NN RRC 85 [(0, vr b)] [] M := by
  refine r_aloadn h (q := 0) 0 rfl (by decide +kernel : decode cX7_readWord 85 = .ok (.aload_n 0, 1)) ?_
  refine r_aloadn h (q := 0) 0 rfl (by decide +kernel : decode cX7_readWord 86 = .ok (.aload_n 0, 1)) ?_
  refine r_getI h f_Tape_31 hb (by decide +kernel : decode cX7_readWord 87 = .ok (.getfield 31, 3)) ?_
  refine r_aloadn h (q := 0) 0 rfl (by decide +kernel : decode cX7_readWord 90 = .ok (.aload_n 0, 1)) ?_
  refine r_getI h f_Tape_40 hb (by decide +kernel : decode cX7_readWord 91 = .ok (.getfield 40, 3)) ?_
  refine r_isub h (by decide +kernel : decode cX7_readWord 94 = .ok (.isub, 1)) ?_
  refine r_bipush h (v := 8) (by decide) (by decide +kernel : decode cX7_readWord 95 = .ok (.bipush 8, 2)) ?_
  obtain ⟨g1, H⟩ := H
  obtain ⟨H1, H2⟩ := H
  refine r_icmp_gt h 104 g1 (by decide) (by decide) (by decide +kernel : decode cX7_readWord 97 = .ok (.if_icmp .gt 7, 3)) (fun hc => ?_) (fun hc => ?_)
  · have H := H1 hc
    refine r_iconst h (v := 1) (by decide +kernel : decode cX7_readWord 104 = .ok (.iconst 1, 1)) ?_
    refine r_putI h f_Tape_43 hb rfl rfl (by decide +kernel : decode cX7_readWord 105 = .ok (.putfield 43, 3)) ?_
    have H := H _ rfl
    revert H
    generalize (upr M b (up1 (M b) 5 1)) = M1
    intro H
    exact r_vret h rfl (by decide +kernel : decode cX7_readWord 108 = .ok (.return_, 1)) rfl ⟨rfl, rfl, H⟩
  · have H := H2 hc
    refine r_iconst h (v := 2) (by decide +kernel : decode cX7_readWord 100 = .ok (.iconst 2, 1)) ?_
    refine r_goto h 105 (by decide) (by decide +kernel : decode cX7_readWord 101 = .ok (.goto 4, 3)) ?_
    refine r_putI h f_Tape_43 hb rfl rfl (by decide +kernel : decode cX7_readWord 105 = .ok (.putfield 43, 3)) ?_
    have H := H _ rfl
    revert H
    generalize (upr M b (up1 (M b) 5 2)) = M2
    intro H
    exact r_vret h rfl (by decide +kernel : decode cX7_readWord 108 = .ok (.return_, 1)) rfl ⟨rfl, rfl, H⟩
set_option maxHeartbeats 4000000 in
set_option maxRecDepth 100000 in
theorem w_Tape_readNumber_0 {P : Mm → Prop} {K : Nat → Rr → Nat → List (Nat × AV) → List AV → Mm → Prop} (h : EK shC yX7_readNumber cX7_readNumber 1 none 1 NN NN (QV RRC P) K) (b : Nat) (hb : At shC NN b (.inl 6)) (M : Mm)
    (H : ∀ M1 : Mm, M1 = (upr M b (up1 (M b) 8 0)) → K NN RRC 5 [(0, vr b)] [] M1) :
    K NN RRC 0 [(0, vr b)] [] M := by
  refine r_aloadn h (q := 0) 0 rfl (by decide +kernel : decode cX7_readNumber 0 = .ok (.aload_n 0, 1)) ?_
  refine r_iconst h (v := 0) (by decide +kernel : decode cX7_readNumber 1 = .ok (.iconst 0, 1)) ?_
  refine r_putI h f_Tape_73 hb rfl rfl (by decide +kernel : decode cX7_readNumber 2 = .ok (.putfield 73, 3)) ?_
  have H := H _ rfl
  revert H
  generalize (upr M b (up1 (M b) 8 0)) = M1
  intro H
  exact H
set_option maxHeartbeats 4000000 in
set_option maxRecDepth 100000 in
theorem w_Tape_readNumber_5 {P : Mm → Prop} {K : Nat → Rr → Nat → List (Nat × AV) → List AV → Mm → Prop} (h : EK shC yX7_readNumber cX7_readNumber 1 none 1 NN NN (QV RRC P) K) (b : Nat) (hb : At shC NN b (.inl 6)) (M : Mm)
    (H : (rng (M b 4)) ∧ (rng (M b 2)) ∧ ((M b 2) ≤ (M b 4) → (K NN RRC 81 [(0, vr b)] [] M)) ∧ (¬ ((M b 2) ≤ (M b 4)) → ((0 ≤ (M b 4) ∧ (M b 4) < 1000) ∧ (rng (M (b + 1) (M b 4).toNat)) ∧ ((M (b + 1) (M b 4).toNat) < 48 → (K NN RRC 81 [(0, vr b)] [] M)) ∧ (¬ ((M (b + 1) (M b 4).toNat) < 48) → ((0 ≤ (M b 4) ∧ (M b 4) < 1000) ∧ (rng (M (b + 1) (M b 4).toNat)) ∧ (57 < (M (b + 1) (M b 4).toNat) → (K NN RRC 81 [(0, vr b)] [] M)) ∧ (¬ (57 < (M (b + 1) (M b 4).toNat)) → ((0 ≤ (M b 4) ∧ (M b 4) < 1000) ∧ ∀ M1 : Mm, M1 = (upr M b (up1 (M b) 8 (((M b 8) * 10) + ((M (b + 1) (M b 4).toNat) - 48)))) → ∀ M2 : Mm, M2 = (upr M1 b (up1 (M1 b) 4 ((M1 b 4) + 1))) → K NN RRC 5 [(0, vr b)] [] M2))))))) :
    K NN RRC 5 [(0, vr b)] [] M := by
  refine r_aloadn h (q := 0) 0 rfl (by decide +kernel : decode cX7_readNumber 5 = .ok (.aload_n 0, 1)) ?_
  refine r_getI h f_Tape_31 hb (by decide +kernel : decode cX7_readNumber 6 = .ok (.getfield 31, 3)) ?_
  refine r_aloadn h (q := 0) 0 rfl (by decide +kernel : decode cX7_readNumber 9 = .ok (.aload_n 0, 1)) ?_
  refine r_getI h f_Tape_28 hb (by decide +kernel : decode cX7_readNumber 10 = .ok (.getfield 28, 3)) ?_
  obtain ⟨g1, g2, H⟩ := H
  obtain ⟨H1, H2⟩ := H
  refine r_icmp_ge h 81 g1 g2 (by decide) (by decide +kernel : decode cX7_readNumber 13 = .ok (.if_icmp .ge 68, 3)) (fun hc => ?_) (fun hc => ?_)
  · have H := H1 hc
    exact H
  · have H := H2 hc
    refine r_aloadn h (q := 0) 0 rfl (by decide +kernel : decode cX7_readNumber 16 = .ok (.aload_n 0, 1)) ?_
    refine r_getR h (r := (b + 1)) f_Tape_9 hb (rr_6_0 hb) (by omega) (by decide +kernel : decode cX7_readNumber 17 = .ok (.getfield 9, 3)) ?_
    refine r_aloadn h (q := 0) 0 rfl (by decide +kernel : decode cX7_readNumber 20 = .ok (.aload_n 0, 1)) ?_
    refine r_getI h f_Tape_31 hb (by decide +kernel : decode cX7_readNumber 21 = .ok (.getfield 31, 3)) ?_
    obtain ⟨g1, H⟩ := H
    refine r_bald h (M b 4).toNat rfl (at_6_0 hb) g1 (by decide) (by decide +kernel : decode cX7_readNumber 24 = .ok (.baload, 1)) ?_
    refine r_bipush h (v := 48) (by decide) (by decide +kernel : decode cX7_readNumber 25 = .ok (.bipush 48, 2)) ?_
    obtain ⟨g1, H⟩ := H
    obtain ⟨H1, H2⟩ := H
    refine r_icmp_lt h 81 g1 (by decide) (by decide) (by decide +kernel : decode cX7_readNumber 27 = .ok (.if_icmp .lt 54, 3)) (fun hc => ?_) (fun hc => ?_)
    · have H := H1 hc
      exact H
    · have H := H2 hc
      refine r_aloadn h (q := 0) 0 rfl (by decide +kernel : decode cX7_readNumber 30 = .ok (.aload_n 0, 1)) ?_
      refine r_getR h (r := (b + 1)) f_Tape_9 hb (rr_6_0 hb) (by omega) (by decide +kernel : decode cX7_readNumber 31 = .ok (.getfield 9, 3)) ?_
      refine r_aloadn h (q := 0) 0 rfl (by decide +kernel : decode cX7_readNumber 34 = .ok (.aload_n 0, 1)) ?_
      refine r_getI h f_Tape_31 hb (by decide +kernel : decode cX7_readNumber 35 = .ok (.getfield 31, 3)) ?_
      obtain ⟨g1, H⟩ := H
      refine r_bald h (M b 4).toNat rfl (at_6_0 hb) g1 (by decide) (by decide +kernel : decode cX7_readNumber 38 = .ok (.baload, 1)) ?_
      refine r_bipush h (v := 57) (by decide) (by decide +kernel : decode cX7_readNumber 39 = .ok (.bipush 57, 2)) ?_
      obtain ⟨g1, H⟩ := H
      obtain ⟨H1, H2⟩ := H
      refine r_icmp_gt h 81 g1 (by decide) (by decide) (by decide +kernel : decode cX7_readNumber 41 = .ok (.if_icmp .gt 40, 3)) (fun hc => ?_) (fun hc => ?_)
      · have H := H1 hc
        exact H
      · have H := H2 hc
        refine r_aloadn h (q := 0) 0 rfl (by decide +kernel : decode cX7_readNumber 44 = .ok (.aload_n 0, 1)) ?_
        refine r_aloadn h (q := 0) 0 rfl (by decide +kernel : decode cX7_readNumber 45 = .ok (.aload_n 0, 1)) ?_
        refine r_getI h f_Tape_73 hb (by decide +kernel : decode cX7_readNumber 46 = .ok (.getfield 73, 3)) ?_
        refine r_bipush h (v := 10) (by decide) (by decide +kernel : decode cX7_readNumber 49 = .ok (.bipush 10, 2)) ?_
        refine r_imul h (by decide +kernel : decode cX7_readNumber 51 = .ok (.imul, 1)) ?_
        refine r_aloadn h (q := 0) 0 rfl (by decide +kernel : decode cX7_readNumber 52 = .ok (.aload_n 0, 1)) ?_
        refine r_getR h (r := (b + 1)) f_Tape_9 hb (rr_6_0 hb) (by omega) (by decide +kernel : decode cX7_readNumber 53 = .ok (.getfield 9, 3)) ?_
        refine r_aloadn h (q := 0) 0 rfl (by decide +kernel : decode cX7_readNumber 56 = .ok (.aload_n 0, 1)) ?_
        refine r_getI h f_Tape_31 hb (by decide +kernel : decode cX7_readNumber 57 = .ok (.getfield 31, 3)) ?_
        obtain ⟨g1, H⟩ := H
        refine r_bald h (M b 4).toNat rfl (at_6_0 hb) g1 (by decide) (by decide +kernel : decode cX7_readNumber 60 = .ok (.baload, 1)) ?_
        refine r_bipush h (v := 48) (by decide) (by decide +kernel : decode cX7_readNumber 61 = .ok (.bipush 48, 2)) ?_
        refine r_isub h (by decide +kernel : decode cX7_readNumber 63 = .ok (.isub, 1)) ?_
        refine r_iadd h (by decide +kernel : decode cX7_readNumber 64 = .ok (.iadd, 1)) ?_
        refine r_putI h f_Tape_73 hb rfl rfl (by decide +kernel : decode cX7_readNumber 65 = .ok (.putfield 73, 3)) ?_
        have H := H _ rfl
        revert H
        generalize (upr M b (up1 (M b) 8 (((M b 8) * 10) + ((M (b + 1) (M b 4).toNat) - 48)))) = M1
        intro H
        refine r_aloadn h (q := 0) 0 rfl (by decide +kernel : decode cX7_readNumber 68 = .ok (.aload_n 0, 1)) ?_
        refine r_dup h rfl (by decide +kernel : decode cX7_readNumber 69 = .ok (.dup, 1)) ?_
        refine r_getI h f_Tape_31 hb (by decide +kernel : decode cX7_readNumber 70 = .ok (.getfield 31, 3)) ?_
        refine r_iconst h (v := 1) (by decide +kernel : decode cX7_readNumber 73 = .ok (.iconst 1, 1)) ?_
        refine r_iadd h (by decide +kernel : decode cX7_readNumber 74 = .ok (.iadd, 1)) ?_
        refine r_putI h f_Tape_31 hb rfl rfl (by decide +kernel : decode cX7_readNumber 75 = .ok (.putfield 31, 3)) ?_
        have H := H _ rfl
        revert H
        generalize (upr M1 b (up1 (M1 b) 4 ((M1 b 4) + 1))) = M2
        intro H
        refine r_goto h 5 (by decide) (by decide +kernel : decode cX7_readNumber 78 = .ok (.goto (-73), 3)) ?_
        exact H
set_option maxHeartbeats 4000000 in
set_option maxRecDepth 100000 in
theorem w_Tape_readNumber_81 {P : Mm → Prop} {K : Nat → Rr → Nat → List (Nat × AV) → List AV → Mm → Prop} (h : EK shC yX7_readNumber cX7_readNumber 1 none 1 NN NN (QV RRC P) K) (b : Nat) (hb : At shC NN b (.inl 6)) (M : Mm)
    (H : (rng ((M b 4) - (M b 3))) ∧ (4 < ((M b 4) - (M b 3)) → (∀ M1 : Mm, M1 = (upr M b (up1 (M b) 5 1)) → P M1)) ∧ (¬ (4 < ((M b 4) - (M b 3))) → (∀ M2 : Mm, M2 = (upr M b (up1 (M b) 5 3)) → P M2))) :
    K NN RRC 81 [(0, vr b)] [] M := by
  refine r_aloadn h (q := 0) 0 rfl (by decide +kernel : decode cX7_readNumber 81 = .ok (.aload_n 0, 1)) ?_
  refine r_aloadn h (q := 0) 0 rfl (by decide +kernel : decode cX7_readNumber 82 = .ok (.aload_n 0, 1)) ?_
  refine r_getI h f_Tape_31 hb (by decide +kernel : decode cX7_readNumber 83 = .ok (.getfield 31, 3)) ?_
  refine r_aloadn h (q := 0) 0 rfl (by decide +kernel : decode cX7_readNumber 86 = .ok (.aload_n 0, 1)) ?_
  refine r_getI h f_Tape_40 hb (by decide +kernel : decode cX7_readNumber 87 = .ok (.getfield 40, 3)) ?_
  refine r_isub h (by decide +kernel : decode cX7_readNumber 90 = .ok (.isub, 1)) ?_
  refine r_iconst h (v := 4) (by decide +kernel : decode cX7_readNumber 91 = .ok (.iconst 4, 1)) ?_
  obtain ⟨g1, H⟩ := H
  obtain ⟨H1, H2⟩ := H
  refine r_icmp_gt h 99 g1 (by decide) (by decide) (by decide +kernel : decode cX7_readNumber 92 = .ok (.if_icmp .gt 7, 3)) (fun hc => ?_) (fun hc => ?_)
  · have H := H1 hc
    refine r_iconst h (v := 1) (by decide +kernel : decode cX7_readNumber 99 = .ok (.iconst 1, 1)) ?_
    refine r_putI h f_Tape_43 hb rfl rfl (by decide +kernel : decode cX7_readNumber 100 = .ok (.putfield 43, 3)) ?_
    have H := H _ rfl
    revert H
    generalize (upr M b (up1 (M b) 5 1)) = M1
    intro H
    exact r_vret h rfl (by decide +kernel : decode cX7_readNumber 103 = .ok (.return_, 1)) rfl ⟨rfl, rfl, H⟩
  · have H := H2 hc
    refine r_iconst h (v := 3) (by decide +kernel : decode cX7_readNumber 95 = .ok (.iconst 3, 1)) ?_
    refine r_goto h 100 (by decide) (by decide +kernel : decode cX7_readNumber 96 = .ok (.goto 4, 3)) ?_
    refine r_putI h f_Tape_43 hb rfl rfl (by decide +kernel : decode cX7_readNumber 100 = .ok (.putfield 43, 3)) ?_
    have H := H _ rfl
    revert H
    generalize (upr M b (up1 (M b) 5 3)) = M2
    intro H
    exact r_vret h rfl (by decide +kernel : decode cX7_readNumber 103 = .ok (.return_, 1)) rfl ⟨rfl, rfl, H⟩
set_option maxHeartbeats 4000000 in
set_option maxRecDepth 100000 in
theorem w_Tape_fail_0 {P : Int → Mm → Prop} {K : Nat → Rr → Nat → List (Nat × AV) → List AV → Mm → Prop} (h : EK shC yX7_fail cX7_fail 2 (some .boolean) 1 NN NN (QI RRC P) K) (b : Nat) (hb : At shC NN b (.inl 6)) (x1 : Int) (M : Mm)
    (H : ∀ M1 : Mm, M1 = (upr M b (up1 (M b) 10 (x1 + (16 * (M b 3))))) → P 0 M1) :
    K NN RRC 0 [(0, vr b), (1, vi x1)] [] M := by
  refine r_aloadn h (q := 0) 0 rfl (by decide +kernel : decode cX7_fail 0 = .ok (.aload_n 0, 1)) ?_
  refine r_iloadn h (q := 1) 1 rfl (by decide +kernel : decode cX7_fail 1 = .ok (.iload_n 1, 1)) ?_
  refine r_bipush h (v := 16) (by decide) (by decide +kernel : decode cX7_fail 2 = .ok (.bipush 16, 2)) ?_
  refine r_aloadn h (q := 0) 0 rfl (by decide +kernel : decode cX7_fail 4 = .ok (.aload_n 0, 1)) ?_
  refine r_getI h f_Tape_40 hb (by decide +kernel : decode cX7_fail 5 = .ok (.getfield 40, 3)) ?_
  refine r_imul h (by decide +kernel : decode cX7_fail 8 = .ok (.imul, 1)) ?_
  refine r_iadd h (by decide +kernel : decode cX7_fail 9 = .ok (.iadd, 1)) ?_
  refine r_putI h f_Tape_34 hb rfl rfl (by decide +kernel : decode cX7_fail 10 = .ok (.putfield 34, 3)) ?_
  have H := H _ rfl
  revert H
  generalize (upr M b (up1 (M b) 10 (x1 + (16 * (M b 3))))) = M1
  intro H
  refine r_iconst h (v := 0) (by decide +kernel : decode cX7_fail 13 = .ok (.iconst 0, 1)) ?_
  exact r_zret h rfl (by decide) (by decide +kernel : decode cX7_fail 14 = .ok (.ireturn, 1)) rfl ⟨rfl, _, rfl, H⟩
theorem W_Tape_fail (b : Nat) (hb : At shC NN b (.inl 6)) (x1 : Int) (M : Mm) {P : Int → Mm → Prop} (H : ∀ M1 : Mm, M1 = (upr M b (up1 (M b) 10 (x1 + (16 * (M b 3))))) → P 0 M1) : S_Tape_fail b x1 M P := e_Tape_fail b x1 M (fun _ h => w_Tape_fail_0 h b hb x1 M H)
set_option maxHeartbeats 4000000 in
set_option maxRecDepth 100000 in
theorem w_Tape_isName_0 {P : Int → Mm → Prop} {K : Nat → Rr → Nat → List (Nat × AV) → List AV → Mm → Prop} (h : EK shC yX7_isName cX7_isName 1 (some .boolean) 1 NN NN (QI RRC P) K) (b : Nat) (hb : At shC NN b (.inl 6)) (M : Mm)
    (H : (rng (M b 5)) ∧ ((M b 5) ≠ 2 → (P 0 M)) ∧ ((M b 5) = 2 → (∃ k101 : Nat, M b 6 = (k101 : Int) + 1 ∧ k101 < 27 ∧ ((wK.getD k101 0) ≠ 0 → (P 0 M)) ∧ ((wK.getD k101 0) = 0 → (P 1 M))))) :
    K NN RRC 0 [(0, vr b)] [] M := by
  refine r_aloadn h (q := 0) 0 rfl (by decide +kernel : decode cX7_isName 0 = .ok (.aload_n 0, 1)) ?_
  refine r_getI h f_Tape_43 hb (by decide +kernel : decode cX7_isName 1 = .ok (.getfield 43, 3)) ?_
  refine r_iconst h (v := 2) (by decide +kernel : decode cX7_isName 4 = .ok (.iconst 2, 1)) ?_
  obtain ⟨g1, H⟩ := H
  obtain ⟨H1, H2⟩ := H
  refine r_icmp_ne h 22 g1 (by decide) (by decide) (by decide +kernel : decode cX7_isName 5 = .ok (.if_icmp .ne 17, 3)) (fun hc => ?_) (fun hc => ?_)
  · have H := H1 hc
    refine r_iconst h (v := 0) (by decide +kernel : decode cX7_isName 22 = .ok (.iconst 0, 1)) ?_
    exact r_zret h rfl (by decide) (by decide +kernel : decode cX7_isName 23 = .ok (.ireturn, 1)) rfl ⟨rfl, _, rfl, H⟩
  · have H := H2 hc
    refine r_aloadn h (q := 0) 0 rfl (by decide +kernel : decode cX7_isName 8 = .ok (.aload_n 0, 1)) ?_
    obtain ⟨k101, htk101, hlk101, H⟩ := H
    refine r_getE h (r := k101) f_Tape_21 hb htk101 (by decide +kernel : decode cX7_isName 9 = .ok (.getfield 21, 3)) ?_
    refine r_getO h (oF_kept hlk101) rfl (inT8 188 rfl rfl) (by decide +kernel : decode cX7_isName 12 = .ok (.getfield 76, 3)) ?_
    obtain ⟨H1, H2⟩ := H
    refine r_if_ne h 22 (wK_rng hlk101) (by decide) (by decide +kernel : decode cX7_isName 15 = .ok (.ifCond .ne 7, 3)) (fun hc => ?_) (fun hc => ?_)
    · have H := H1 hc
      refine r_iconst h (v := 0) (by decide +kernel : decode cX7_isName 22 = .ok (.iconst 0, 1)) ?_
      exact r_zret h rfl (by decide) (by decide +kernel : decode cX7_isName 23 = .ok (.ireturn, 1)) rfl ⟨rfl, _, rfl, H⟩
    · have H := H2 hc
      refine r_iconst h (v := 1) (by decide +kernel : decode cX7_isName 18 = .ok (.iconst 1, 1)) ?_
      refine r_goto h 23 (by decide) (by decide +kernel : decode cX7_isName 19 = .ok (.goto 4, 3)) ?_
      exact r_zret h rfl (by decide) (by decide +kernel : decode cX7_isName 23 = .ok (.ireturn, 1)) rfl ⟨rfl, _, rfl, H⟩
theorem W_Tape_isName (b : Nat) (hb : At shC NN b (.inl 6)) (M : Mm) {P : Int → Mm → Prop} (H : (rng (M b 5)) ∧ ((M b 5) ≠ 2 → (P 0 M)) ∧ ((M b 5) = 2 → (∃ k101 : Nat, M b 6 = (k101 : Int) + 1 ∧ k101 < 27 ∧ ((wK.getD k101 0) ≠ 0 → (P 0 M)) ∧ ((wK.getD k101 0) = 0 → (P 1 M))))) : S_Tape_isName b M P := e_Tape_isName b M (fun _ h => w_Tape_isName_0 h b hb M H)
set_option maxHeartbeats 4000000 in
set_option maxRecDepth 100000 in
theorem w_Tape_isSign_0 {P : Int → Mm → Prop} {K : Nat → Rr → Nat → List (Nat × AV) → List AV → Mm → Prop} (h : EK shC yX7_isSign cX7_isSign 2 (some .boolean) 1 NN NN (QI RRC P) K) (b : Nat) (hb : At shC NN b (.inl 6)) (x1 : Int) (M : Mm)
    (H : (rng (M b 5)) ∧ ((M b 5) ≠ 4 → (P 0 M)) ∧ ((M b 5) = 4 → ((rng (M b 11)) ∧ (rng x1) ∧ ((M b 11) ≠ x1 → (P 0 M)) ∧ ((M b 11) = x1 → (P 1 M))))) :
    K NN RRC 0 [(0, vr b), (1, vi x1)] [] M := by
  refine r_aloadn h (q := 0) 0 rfl (by decide +kernel : decode cX7_isSign 0 = .ok (.aload_n 0, 1)) ?_
  refine r_getI h f_Tape_43 hb (by decide +kernel : decode cX7_isSign 1 = .ok (.getfield 43, 3)) ?_
  refine r_iconst h (v := 4) (by decide +kernel : decode cX7_isSign 4 = .ok (.iconst 4, 1)) ?_
  obtain ⟨g1, H⟩ := H
  obtain ⟨H1, H2⟩ := H
  refine r_icmp_ne h 20 g1 (by decide) (by decide) (by decide +kernel : decode cX7_isSign 5 = .ok (.if_icmp .ne 15, 3)) (fun hc => ?_) (fun hc => ?_)
  · have H := H1 hc
    refine r_iconst h (v := 0) (by decide +kernel : decode cX7_isSign 20 = .ok (.iconst 0, 1)) ?_
    exact r_zret h rfl (by decide) (by decide +kernel : decode cX7_isSign 21 = .ok (.ireturn, 1)) rfl ⟨rfl, _, rfl, H⟩
  · have H := H2 hc
    refine r_aloadn h (q := 0) 0 rfl (by decide +kernel : decode cX7_isSign 8 = .ok (.aload_n 0, 1)) ?_
    refine r_getI h f_Tape_68 hb (by decide +kernel : decode cX7_isSign 9 = .ok (.getfield 68, 3)) ?_
    refine r_iloadn h (q := 1) 1 rfl (by decide +kernel : decode cX7_isSign 12 = .ok (.iload_n 1, 1)) ?_
    obtain ⟨g1, g2, H⟩ := H
    obtain ⟨H1, H2⟩ := H
    refine r_icmp_ne h 20 g1 g2 (by decide) (by decide +kernel : decode cX7_isSign 13 = .ok (.if_icmp .ne 7, 3)) (fun hc => ?_) (fun hc => ?_)
    · have H := H1 hc
      refine r_iconst h (v := 0) (by decide +kernel : decode cX7_isSign 20 = .ok (.iconst 0, 1)) ?_
      exact r_zret h rfl (by decide) (by decide +kernel : decode cX7_isSign 21 = .ok (.ireturn, 1)) rfl ⟨rfl, _, rfl, H⟩
    · have H := H2 hc
      refine r_iconst h (v := 1) (by decide +kernel : decode cX7_isSign 16 = .ok (.iconst 1, 1)) ?_
      refine r_goto h 21 (by decide) (by decide +kernel : decode cX7_isSign 17 = .ok (.goto 4, 3)) ?_
      exact r_zret h rfl (by decide) (by decide +kernel : decode cX7_isSign 21 = .ok (.ireturn, 1)) rfl ⟨rfl, _, rfl, H⟩
theorem W_Tape_isSign (b : Nat) (hb : At shC NN b (.inl 6)) (x1 : Int) (M : Mm) {P : Int → Mm → Prop} (H : (rng (M b 5)) ∧ ((M b 5) ≠ 4 → (P 0 M)) ∧ ((M b 5) = 4 → ((rng (M b 11)) ∧ (rng x1) ∧ ((M b 11) ≠ x1 → (P 0 M)) ∧ ((M b 11) = x1 → (P 1 M))))) : S_Tape_isSign b x1 M P := e_Tape_isSign b x1 M (fun _ h => w_Tape_isSign_0 h b hb x1 M H)
set_option maxHeartbeats 4000000 in
set_option maxRecDepth 100000 in
theorem w_Word_spelled_0 {P : Nat → Mm → Prop} {K : Nat → Rr → Nat → List (Nat × AV) → List AV → Mm → Prop} (h : EK shC yX9_spelled cX9_spelled 3 (some (.object "MangleTown$Word")) 1 NN NN (QE RRC P) K) (x0 : Int) (M : Mm)
    (H : K NN RRC 2 [(0, vl x0), (2, vi 0)] [] M) :
    K NN RRC 0 [(0, vl x0)] [] M := by
  refine r_iconst h (v := 0) (by decide +kernel : decode cX9_spelled 0 = .ok (.iconst 0, 1)) ?_
  refine r_istoren h (q := 2) (L' := [(2, vi 0), (0, vl x0)]) (by decide) rfl (by decide +kernel : decode cX9_spelled 1 = .ok (.istore_n 2, 1)) ?_
  refine r_drop h [1, 0] rfl ?_
  exact H
set_option maxHeartbeats 4000000 in
set_option maxRecDepth 100000 in
theorem w_Word_spelled_2 {P : Nat → Mm → Prop} {K : Nat → Rr → Nat → List (Nat × AV) → List AV → Mm → Prop} (h : EK shC yX9_spelled cX9_spelled 3 (some (.object "MangleTown$Word")) 1 NN NN (QE RRC P) K) (x0 : Int) (x2 : Int) (M : Mm)
    (H : (rng x2) ∧ (27 ≤ x2 → (P 0 M)) ∧ (¬ (27 ≤ x2) → ((0 ≤ x2 ∧ x2 < 27) ∧ (rngL x0) ∧ ((cmpL (wL.getD x2.toNat 0) x0) ≠ 0 → (K NN RRC 2 [(0, vl x0), (2, vi (x2 + 1))] [] M)) ∧ ((cmpL (wL.getD x2.toNat 0) x0) = 0 → ((0 ≤ x2 ∧ x2 < 27) ∧ P x2.toNat M))))) :
    K NN RRC 2 [(0, vl x0), (2, vi x2)] [] M := by
  refine r_iloadn h (q := 2) 1 rfl (by decide +kernel : decode cX9_spelled 2 = .ok (.iload_n 2, 1)) ?_
  refine r_getS h zF_27 rfl (inT3 3 rfl rfl) (by decide +kernel : decode cX9_spelled 3 = .ok (.getstatic 124, 3)) ?_
  refine r_tlen h tF_all (by decide +kernel : decode cX9_spelled 6 = .ok (.arraylength, 1)) ?_
  obtain ⟨g1, H⟩ := H
  obtain ⟨H1, H2⟩ := H
  refine r_icmp_ge h 35 g1 (by decide) (by decide) (by decide +kernel : decode cX9_spelled 7 = .ok (.if_icmp .ge 28, 3)) (fun hc => ?_) (fun hc => ?_)
  · have H := H1 hc
    refine r_getS h zF_0 rfl (inT3 5 rfl rfl) (by decide +kernel : decode cX9_spelled 35 = .ok (.getstatic 3, 3)) ?_
    exact r_eret h rfl (by decide +kernel : decode cX9_spelled 38 = .ok (.areturn, 1)) rfl ⟨rfl, _, rfl, H⟩
  · have H := H2 hc
    refine r_getS h zF_27 rfl (inT3 3 rfl rfl) (by decide +kernel : decode cX9_spelled 10 = .ok (.getstatic 124, 3)) ?_
    refine r_iloadn h (q := 2) 1 rfl (by decide +kernel : decode cX9_spelled 13 = .ok (.iload_n 2, 1)) ?_
    obtain ⟨g1, H⟩ := H
    refine r_tA h tF_all g1 (by decide) rfl (by decide +kernel : decode cX9_spelled 14 = .ok (.aaload, 1)) ?_
    have gk1 := lt_of_ix g1
    refine r_getO h (oF_let gk1) rfl (inT8 184 rfl rfl) (by decide +kernel : decode cX9_spelled 15 = .ok (.getfield 116, 3)) ?_
    refine r_lloadn h (q := 0) 0 rfl (by decide +kernel : decode cX9_spelled 18 = .ok (.lload_n 0, 1)) ?_
    obtain ⟨g1, H⟩ := H
    refine r_lcmp h (wL_rng gk1) g1 (by decide +kernel : decode cX9_spelled 19 = .ok (.lcmp, 1)) ?_
    obtain ⟨H1, H2⟩ := H
    refine r_if_ne h 29 (rng_cmpL _ _) (by decide) (by decide +kernel : decode cX9_spelled 20 = .ok (.ifCond .ne 9, 3)) (fun hc => ?_) (fun hc => ?_)
    · have H := H1 hc
      refine r_iinc h (i := 2) (v := 1) (L' := [(2, vi (x2 + 1)), (0, vl x0)]) 1 rfl (by decide) rfl (by decide +kernel : decode cX9_spelled 29 = .ok (.iinc 2 1, 3)) ?_
      refine r_goto h 2 (by decide) (by decide +kernel : decode cX9_spelled 32 = .ok (.goto (-30), 3)) ?_
      refine r_drop h [1, 0] rfl ?_
      exact H
    · have H := H2 hc
      refine r_getS h zF_27 rfl (inT3 3 rfl rfl) (by decide +kernel : decode cX9_spelled 23 = .ok (.getstatic 124, 3)) ?_
      refine r_iloadn h (q := 2) 1 rfl (by decide +kernel : decode cX9_spelled 26 = .ok (.iload_n 2, 1)) ?_
      obtain ⟨g1, H⟩ := H
      refine r_tA h tF_all g1 (by decide) rfl (by decide +kernel : decode cX9_spelled 27 = .ok (.aaload, 1)) ?_
      have gk2 := lt_of_ix g1
      exact r_eret h rfl (by decide +kernel : decode cX9_spelled 28 = .ok (.areturn, 1)) rfl ⟨rfl, _, rfl, H⟩
set_option maxHeartbeats 4000000 in
set_option maxRecDepth 100000 in
theorem w_JEnum_ordinal_0 {P : Int → Mm → Prop} {K : Nat → Rr → Nat → List (Nat × AV) → List AV → Mm → Prop} (h : EK shC yJx29ce0_ordinal_8abf5 cJx29ce0_ordinal_8abf5 1 (some .int) 1 NN NN (QI RRC P) K) (k : Nat) (hk : k < 27) (M : Mm)
    (H : P (k : Int) M) :
    K NN RRC 0 [(0, ve k)] [] M := by
  refine r_aloadEn h (q := 0) 0 rfl (by decide +kernel : decode cJx29ce0_ordinal_8abf5 0 = .ok (.aload_n 0, 1)) ?_
  refine r_getO h (oF_ord hk) rfl (inT8 187 rfl rfl) (by decide +kernel : decode cJx29ce0_ordinal_8abf5 1 = .ok (.getfield 7, 3)) ?_
  exact r_iret h rfl (by decide +kernel : decode cJx29ce0_ordinal_8abf5 4 = .ok (.ireturn, 1)) rfl ⟨rfl, _, rfl, H⟩
theorem W_JEnum_ordinal (k : Nat) (hk : k < 27) (M : Mm) {P : Int → Mm → Prop} (H : P (k : Int) M) : S_JEnum_ordinal k M P := e_JEnum_ordinal k M (fun _ h => w_JEnum_ordinal_0 h k hk M H)
set_option maxHeartbeats 4000000 in
set_option maxRecDepth 100000 in
theorem w_JInt_bitCount_0 {P : Int → Mm → Prop} {K : Nat → Rr → Nat → List (Nat × AV) → List AV → Mm → Prop} (h : EK shC yJ6_bitCount_0f7a4 cJ6_bitCount_0f7a4 1 (some .int) 1 NN NN (QI RRC P) K) (x0 : Int) (M : Mm)
    (H : P (andI (((andI (((andI (x0 - (andI (ushrI x0 1) 1431655765)) 858993459) + (andI (ushrI (x0 - (andI (ushrI x0 1) 1431655765)) 2) 858993459)) + (ushrI ((andI (x0 - (andI (ushrI x0 1) 1431655765)) 858993459) + (andI (ushrI (x0 - (andI (ushrI x0 1) 1431655765)) 2) 858993459)) 4)) 252645135) + (ushrI (andI (((andI (x0 - (andI (ushrI x0 1) 1431655765)) 858993459) + (andI (ushrI (x0 - (andI (ushrI x0 1) 1431655765)) 2) 858993459)) + (ushrI ((andI (x0 - (andI (ushrI x0 1) 1431655765)) 858993459) + (andI (ushrI (x0 - (andI (ushrI x0 1) 1431655765)) 2) 858993459)) 4)) 252645135) 8)) + (ushrI ((andI (((andI (x0 - (andI (ushrI x0 1) 1431655765)) 858993459) + (andI (ushrI (x0 - (andI (ushrI x0 1) 1431655765)) 2) 858993459)) + (ushrI ((andI (x0 - (andI (ushrI x0 1) 1431655765)) 858993459) + (andI (ushrI (x0 - (andI (ushrI x0 1) 1431655765)) 2) 858993459)) 4)) 252645135) + (ushrI (andI (((andI (x0 - (andI (ushrI x0 1) 1431655765)) 858993459) + (andI (ushrI (x0 - (andI (ushrI x0 1) 1431655765)) 2) 858993459)) + (ushrI ((andI (x0 - (andI (ushrI x0 1) 1431655765)) 858993459) + (andI (ushrI (x0 - (andI (ushrI x0 1) 1431655765)) 2) 858993459)) 4)) 252645135) 8)) 16)) 63) M) :
    K NN RRC 0 [(0, vi x0)] [] M := by
  refine r_iloadn h (q := 0) 0 rfl (by decide +kernel : decode cJ6_bitCount_0f7a4 0 = .ok (.iload_n 0, 1)) ?_
  refine r_iloadn h (q := 0) 0 rfl (by decide +kernel : decode cJ6_bitCount_0f7a4 1 = .ok (.iload_n 0, 1)) ?_
  refine r_iconst h (v := 1) (by decide +kernel : decode cJ6_bitCount_0f7a4 2 = .ok (.iconst 1, 1)) ?_
  refine r_iushr h (by decide +kernel : decode cJ6_bitCount_0f7a4 3 = .ok (.iushr, 1)) ?_
  refine r_ldcw h (v := 1431655765) kc_JInt_265 (by decide +kernel : decode cJ6_bitCount_0f7a4 4 = .ok (.ldc_w 265, 3)) ?_
  refine r_iand h (by decide +kernel : decode cJ6_bitCount_0f7a4 7 = .ok (.iand, 1)) ?_
  refine r_isub h (by decide +kernel : decode cJ6_bitCount_0f7a4 8 = .ok (.isub, 1)) ?_
  refine r_istoren h (q := 0) (L' := [(0, vi (x0 - (andI (ushrI x0 1) 1431655765)))]) (by decide) rfl (by decide +kernel : decode cJ6_bitCount_0f7a4 9 = .ok (.istore_n 0, 1)) ?_
  refine r_iloadn h (q := 0) 0 rfl (by decide +kernel : decode cJ6_bitCount_0f7a4 10 = .ok (.iload_n 0, 1)) ?_
  refine r_ldcw h (v := 858993459) kc_JInt_266 (by decide +kernel : decode cJ6_bitCount_0f7a4 11 = .ok (.ldc_w 266, 3)) ?_
  refine r_iand h (by decide +kernel : decode cJ6_bitCount_0f7a4 14 = .ok (.iand, 1)) ?_
  refine r_iloadn h (q := 0) 0 rfl (by decide +kernel : decode cJ6_bitCount_0f7a4 15 = .ok (.iload_n 0, 1)) ?_
  refine r_iconst h (v := 2) (by decide +kernel : decode cJ6_bitCount_0f7a4 16 = .ok (.iconst 2, 1)) ?_
  refine r_iushr h (by decide +kernel : decode cJ6_bitCount_0f7a4 17 = .ok (.iushr, 1)) ?_
  refine r_ldcw h (v := 858993459) kc_JInt_266 (by decide +kernel : decode cJ6_bitCount_0f7a4 18 = .ok (.ldc_w 266, 3)) ?_
  refine r_iand h (by decide +kernel : decode cJ6_bitCount_0f7a4 21 = .ok (.iand, 1)) ?_
  refine r_iadd h (by decide +kernel : decode cJ6_bitCount_0f7a4 22 = .ok (.iadd, 1)) ?_
  refine r_istoren h (q := 0) (L' := [(0, vi ((andI (x0 - (andI (ushrI x0 1) 1431655765)) 858993459) + (andI (ushrI (x0 - (andI (ushrI x0 1) 1431655765)) 2) 858993459)))]) (by decide) rfl (by decide +kernel : decode cJ6_bitCount_0f7a4 23 = .ok (.istore_n 0, 1)) ?_
  refine r_iloadn h (q := 0) 0 rfl (by decide +kernel : decode cJ6_bitCount_0f7a4 24 = .ok (.iload_n 0, 1)) ?_
  refine r_iloadn h (q := 0) 0 rfl (by decide +kernel : decode cJ6_bitCount_0f7a4 25 = .ok (.iload_n 0, 1)) ?_
  refine r_iconst h (v := 4) (by decide +kernel : decode cJ6_bitCount_0f7a4 26 = .ok (.iconst 4, 1)) ?_
  refine r_iushr h (by decide +kernel : decode cJ6_bitCount_0f7a4 27 = .ok (.iushr, 1)) ?_
  refine r_iadd h (by decide +kernel : decode cJ6_bitCount_0f7a4 28 = .ok (.iadd, 1)) ?_
  refine r_ldcw h (v := 252645135) kc_JInt_267 (by decide +kernel : decode cJ6_bitCount_0f7a4 29 = .ok (.ldc_w 267, 3)) ?_
  refine r_iand h (by decide +kernel : decode cJ6_bitCount_0f7a4 32 = .ok (.iand, 1)) ?_
  refine r_istoren h (q := 0) (L' := [(0, vi (andI (((andI (x0 - (andI (ushrI x0 1) 1431655765)) 858993459) + (andI (ushrI (x0 - (andI (ushrI x0 1) 1431655765)) 2) 858993459)) + (ushrI ((andI (x0 - (andI (ushrI x0 1) 1431655765)) 858993459) + (andI (ushrI (x0 - (andI (ushrI x0 1) 1431655765)) 2) 858993459)) 4)) 252645135))]) (by decide) rfl (by decide +kernel : decode cJ6_bitCount_0f7a4 33 = .ok (.istore_n 0, 1)) ?_
  refine r_iloadn h (q := 0) 0 rfl (by decide +kernel : decode cJ6_bitCount_0f7a4 34 = .ok (.iload_n 0, 1)) ?_
  refine r_iloadn h (q := 0) 0 rfl (by decide +kernel : decode cJ6_bitCount_0f7a4 35 = .ok (.iload_n 0, 1)) ?_
  refine r_bipush h (v := 8) (by decide) (by decide +kernel : decode cJ6_bitCount_0f7a4 36 = .ok (.bipush 8, 2)) ?_
  refine r_iushr h (by decide +kernel : decode cJ6_bitCount_0f7a4 38 = .ok (.iushr, 1)) ?_
  refine r_iadd h (by decide +kernel : decode cJ6_bitCount_0f7a4 39 = .ok (.iadd, 1)) ?_
  refine r_istoren h (q := 0) (L' := [(0, vi ((andI (((andI (x0 - (andI (ushrI x0 1) 1431655765)) 858993459) + (andI (ushrI (x0 - (andI (ushrI x0 1) 1431655765)) 2) 858993459)) + (ushrI ((andI (x0 - (andI (ushrI x0 1) 1431655765)) 858993459) + (andI (ushrI (x0 - (andI (ushrI x0 1) 1431655765)) 2) 858993459)) 4)) 252645135) + (ushrI (andI (((andI (x0 - (andI (ushrI x0 1) 1431655765)) 858993459) + (andI (ushrI (x0 - (andI (ushrI x0 1) 1431655765)) 2) 858993459)) + (ushrI ((andI (x0 - (andI (ushrI x0 1) 1431655765)) 858993459) + (andI (ushrI (x0 - (andI (ushrI x0 1) 1431655765)) 2) 858993459)) 4)) 252645135) 8)))]) (by decide) rfl (by decide +kernel : decode cJ6_bitCount_0f7a4 40 = .ok (.istore_n 0, 1)) ?_
  refine r_iloadn h (q := 0) 0 rfl (by decide +kernel : decode cJ6_bitCount_0f7a4 41 = .ok (.iload_n 0, 1)) ?_
  refine r_iloadn h (q := 0) 0 rfl (by decide +kernel : decode cJ6_bitCount_0f7a4 42 = .ok (.iload_n 0, 1)) ?_
  refine r_bipush h (v := 16) (by decide) (by decide +kernel : decode cJ6_bitCount_0f7a4 43 = .ok (.bipush 16, 2)) ?_
  refine r_iushr h (by decide +kernel : decode cJ6_bitCount_0f7a4 45 = .ok (.iushr, 1)) ?_
  refine r_iadd h (by decide +kernel : decode cJ6_bitCount_0f7a4 46 = .ok (.iadd, 1)) ?_
  refine r_istoren h (q := 0) (L' := [(0, vi (((andI (((andI (x0 - (andI (ushrI x0 1) 1431655765)) 858993459) + (andI (ushrI (x0 - (andI (ushrI x0 1) 1431655765)) 2) 858993459)) + (ushrI ((andI (x0 - (andI (ushrI x0 1) 1431655765)) 858993459) + (andI (ushrI (x0 - (andI (ushrI x0 1) 1431655765)) 2) 858993459)) 4)) 252645135) + (ushrI (andI (((andI (x0 - (andI (ushrI x0 1) 1431655765)) 858993459) + (andI (ushrI (x0 - (andI (ushrI x0 1) 1431655765)) 2) 858993459)) + (ushrI ((andI (x0 - (andI (ushrI x0 1) 1431655765)) 858993459) + (andI (ushrI (x0 - (andI (ushrI x0 1) 1431655765)) 2) 858993459)) 4)) 252645135) 8)) + (ushrI ((andI (((andI (x0 - (andI (ushrI x0 1) 1431655765)) 858993459) + (andI (ushrI (x0 - (andI (ushrI x0 1) 1431655765)) 2) 858993459)) + (ushrI ((andI (x0 - (andI (ushrI x0 1) 1431655765)) 858993459) + (andI (ushrI (x0 - (andI (ushrI x0 1) 1431655765)) 2) 858993459)) 4)) 252645135) + (ushrI (andI (((andI (x0 - (andI (ushrI x0 1) 1431655765)) 858993459) + (andI (ushrI (x0 - (andI (ushrI x0 1) 1431655765)) 2) 858993459)) + (ushrI ((andI (x0 - (andI (ushrI x0 1) 1431655765)) 858993459) + (andI (ushrI (x0 - (andI (ushrI x0 1) 1431655765)) 2) 858993459)) 4)) 252645135) 8)) 16)))]) (by decide) rfl (by decide +kernel : decode cJ6_bitCount_0f7a4 47 = .ok (.istore_n 0, 1)) ?_
  refine r_iloadn h (q := 0) 0 rfl (by decide +kernel : decode cJ6_bitCount_0f7a4 48 = .ok (.iload_n 0, 1)) ?_
  refine r_bipush h (v := 63) (by decide) (by decide +kernel : decode cJ6_bitCount_0f7a4 49 = .ok (.bipush 63, 2)) ?_
  refine r_iand h (by decide +kernel : decode cJ6_bitCount_0f7a4 51 = .ok (.iand, 1)) ?_
  exact r_iret h rfl (by decide +kernel : decode cJ6_bitCount_0f7a4 52 = .ok (.ireturn, 1)) rfl ⟨rfl, _, rfl, H⟩
theorem W_JInt_bitCount (x0 : Int) (M : Mm) {P : Int → Mm → Prop} (H : P (andI (((andI (((andI (x0 - (andI (ushrI x0 1) 1431655765)) 858993459) + (andI (ushrI (x0 - (andI (ushrI x0 1) 1431655765)) 2) 858993459)) + (ushrI ((andI (x0 - (andI (ushrI x0 1) 1431655765)) 858993459) + (andI (ushrI (x0 - (andI (ushrI x0 1) 1431655765)) 2) 858993459)) 4)) 252645135) + (ushrI (andI (((andI (x0 - (andI (ushrI x0 1) 1431655765)) 858993459) + (andI (ushrI (x0 - (andI (ushrI x0 1) 1431655765)) 2) 858993459)) + (ushrI ((andI (x0 - (andI (ushrI x0 1) 1431655765)) 858993459) + (andI (ushrI (x0 - (andI (ushrI x0 1) 1431655765)) 2) 858993459)) 4)) 252645135) 8)) + (ushrI ((andI (((andI (x0 - (andI (ushrI x0 1) 1431655765)) 858993459) + (andI (ushrI (x0 - (andI (ushrI x0 1) 1431655765)) 2) 858993459)) + (ushrI ((andI (x0 - (andI (ushrI x0 1) 1431655765)) 858993459) + (andI (ushrI (x0 - (andI (ushrI x0 1) 1431655765)) 2) 858993459)) 4)) 252645135) + (ushrI (andI (((andI (x0 - (andI (ushrI x0 1) 1431655765)) 858993459) + (andI (ushrI (x0 - (andI (ushrI x0 1) 1431655765)) 2) 858993459)) + (ushrI ((andI (x0 - (andI (ushrI x0 1) 1431655765)) 858993459) + (andI (ushrI (x0 - (andI (ushrI x0 1) 1431655765)) 2) 858993459)) 4)) 252645135) 8)) 16)) 63) M) : S_JInt_bitCount x0 M P := e_JInt_bitCount x0 M (fun _ h => w_JInt_bitCount_0 h x0 M H)
set_option maxHeartbeats 4000000 in
set_option maxRecDepth 100000 in
theorem w_JMath_floorMod_0 {P : Int → Mm → Prop} {K : Nat → Rr → Nat → List (Nat × AV) → List AV → Mm → Prop} (h : EK shC yJ9_floorMod_7cf53 cJ9_floorMod_7cf53 3 (some .int) 1 NN NN (QI RRC P) K) (x0 : Int) (x1 : Int) (M : Mm)
    (H : (rng x1) ∧ (x1 ≠ 0) ∧ (0 ≤ (xorI x0 x1) → (P (remI x0 x1) M)) ∧ (¬ (0 ≤ (xorI x0 x1)) → (((remI x0 x1) = 0 → (P (remI x0 x1) M)) ∧ ((remI x0 x1) ≠ 0 → (P ((remI x0 x1) + x1) M))))) :
    K NN RRC 0 [(0, vi x0), (1, vi x1)] [] M := by
  refine r_iloadn h (q := 0) 0 rfl (by decide +kernel : decode cJ9_floorMod_7cf53 0 = .ok (.iload_n 0, 1)) ?_
  refine r_iloadn h (q := 1) 1 rfl (by decide +kernel : decode cJ9_floorMod_7cf53 1 = .ok (.iload_n 1, 1)) ?_
  obtain ⟨g1, g2, H⟩ := H
  refine r_irem h g1 g2 (by decide +kernel : decode cJ9_floorMod_7cf53 2 = .ok (.irem, 1)) ?_
  refine r_istoren h (q := 2) (L' := [(2, vi (remI x0 x1)), (0, vi x0), (1, vi x1)]) (by decide) rfl (by decide +kernel : decode cJ9_floorMod_7cf53 3 = .ok (.istore_n 2, 1)) ?_
  refine r_iloadn h (q := 0) 1 rfl (by decide +kernel : decode cJ9_floorMod_7cf53 4 = .ok (.iload_n 0, 1)) ?_
  refine r_iloadn h (q := 1) 2 rfl (by decide +kernel : decode cJ9_floorMod_7cf53 5 = .ok (.iload_n 1, 1)) ?_
  refine r_ixor h (by decide +kernel : decode cJ9_floorMod_7cf53 6 = .ok (.ixor, 1)) ?_
  obtain ⟨H1, H2⟩ := H
  refine r_if_ge h 18 (rng_toInt _) (by decide) (by decide +kernel : decode cJ9_floorMod_7cf53 7 = .ok (.ifCond .ge 11, 3)) (fun hc => ?_) (fun hc => ?_)
  · have H := H1 hc
    refine r_iloadn h (q := 2) 0 rfl (by decide +kernel : decode cJ9_floorMod_7cf53 18 = .ok (.iload_n 2, 1)) ?_
    exact r_iret h rfl (by decide +kernel : decode cJ9_floorMod_7cf53 19 = .ok (.ireturn, 1)) rfl ⟨rfl, _, rfl, H⟩
  · have H := H2 hc
    refine r_iloadn h (q := 2) 0 rfl (by decide +kernel : decode cJ9_floorMod_7cf53 10 = .ok (.iload_n 2, 1)) ?_
    obtain ⟨H1, H2⟩ := H
    refine r_if_eq h 18 (rng_toInt _) (by decide) (by decide +kernel : decode cJ9_floorMod_7cf53 11 = .ok (.ifCond .eq 7, 3)) (fun hc => ?_) (fun hc => ?_)
    · have H := H1 hc
      refine r_iloadn h (q := 2) 0 rfl (by decide +kernel : decode cJ9_floorMod_7cf53 18 = .ok (.iload_n 2, 1)) ?_
      exact r_iret h rfl (by decide +kernel : decode cJ9_floorMod_7cf53 19 = .ok (.ireturn, 1)) rfl ⟨rfl, _, rfl, H⟩
    · have H := H2 hc
      refine r_iloadn h (q := 2) 0 rfl (by decide +kernel : decode cJ9_floorMod_7cf53 14 = .ok (.iload_n 2, 1)) ?_
      refine r_iloadn h (q := 1) 2 rfl (by decide +kernel : decode cJ9_floorMod_7cf53 15 = .ok (.iload_n 1, 1)) ?_
      refine r_iadd h (by decide +kernel : decode cJ9_floorMod_7cf53 16 = .ok (.iadd, 1)) ?_
      exact r_iret h rfl (by decide +kernel : decode cJ9_floorMod_7cf53 17 = .ok (.ireturn, 1)) rfl ⟨rfl, _, rfl, H⟩
theorem W_JMath_floorMod (x0 : Int) (x1 : Int) (M : Mm) {P : Int → Mm → Prop} (H : (rng x1) ∧ (x1 ≠ 0) ∧ (0 ≤ (xorI x0 x1) → (P (remI x0 x1) M)) ∧ (¬ (0 ≤ (xorI x0 x1)) → (((remI x0 x1) = 0 → (P (remI x0 x1) M)) ∧ ((remI x0 x1) ≠ 0 → (P ((remI x0 x1) + x1) M))))) : S_JMath_floorMod x0 x1 M P := e_JMath_floorMod x0 x1 M (fun _ h => w_JMath_floorMod_0 h x0 x1 M H)
set_option maxHeartbeats 4000000 in
set_option maxRecDepth 100000 in
theorem w_JLat_canEncode_0 {P : Int → Mm → Prop} {K : Nat → Rr → Nat → List (Nat × AV) → List AV → Mm → Prop} (h : EK shC yJ1_canEncode_9a6ad cJ1_canEncode_9a6ad 1 (some .boolean) 1 NN NN (QI RRC P) K) (x0 : Int) (M : Mm)
    (H : (rng x0) ∧ (x0 < 0 → (P 0 M)) ∧ (¬ (x0 < 0) → ((rng x0) ∧ (255 < x0 → (P 0 M)) ∧ (¬ (255 < x0) → (P 1 M))))) :
    K NN RRC 0 [(0, vi x0)] [] M := by
  refine r_iloadn h (q := 0) 0 rfl (by decide +kernel : decode cJ1_canEncode_9a6ad 0 = .ok (.iload_n 0, 1)) ?_
  obtain ⟨g1, H⟩ := H
  obtain ⟨H1, H2⟩ := H
  refine r_if_lt h 15 g1 (by decide) (by decide +kernel : decode cJ1_canEncode_9a6ad 1 = .ok (.ifCond .lt 14, 3)) (fun hc => ?_) (fun hc => ?_)
  · have H := H1 hc
    refine r_iconst h (v := 0) (by decide +kernel : decode cJ1_canEncode_9a6ad 15 = .ok (.iconst 0, 1)) ?_
    exact r_zret h rfl (by decide) (by decide +kernel : decode cJ1_canEncode_9a6ad 16 = .ok (.ireturn, 1)) rfl ⟨rfl, _, rfl, H⟩
  · have H := H2 hc
    refine r_iloadn h (q := 0) 0 rfl (by decide +kernel : decode cJ1_canEncode_9a6ad 4 = .ok (.iload_n 0, 1)) ?_
    refine r_sipush h (v := 255) (by decide) (by decide +kernel : decode cJ1_canEncode_9a6ad 5 = .ok (.sipush 255, 3)) ?_
    obtain ⟨g1, H⟩ := H
    obtain ⟨H1, H2⟩ := H
    refine r_icmp_gt h 15 g1 (by decide) (by decide) (by decide +kernel : decode cJ1_canEncode_9a6ad 8 = .ok (.if_icmp .gt 7, 3)) (fun hc => ?_) (fun hc => ?_)
    · have H := H1 hc
      refine r_iconst h (v := 0) (by decide +kernel : decode cJ1_canEncode_9a6ad 15 = .ok (.iconst 0, 1)) ?_
      exact r_zret h rfl (by decide) (by decide +kernel : decode cJ1_canEncode_9a6ad 16 = .ok (.ireturn, 1)) rfl ⟨rfl, _, rfl, H⟩
    · have H := H2 hc
      refine r_iconst h (v := 1) (by decide +kernel : decode cJ1_canEncode_9a6ad 11 = .ok (.iconst 1, 1)) ?_
      refine r_goto h 16 (by decide) (by decide +kernel : decode cJ1_canEncode_9a6ad 12 = .ok (.goto 4, 3)) ?_
      exact r_zret h rfl (by decide) (by decide +kernel : decode cJ1_canEncode_9a6ad 16 = .ok (.ireturn, 1)) rfl ⟨rfl, _, rfl, H⟩
theorem W_JLat_canEncode (x0 : Int) (M : Mm) {P : Int → Mm → Prop} (H : (rng x0) ∧ (x0 < 0 → (P 0 M)) ∧ (¬ (x0 < 0) → ((rng x0) ∧ (255 < x0 → (P 0 M)) ∧ (¬ (255 < x0) → (P 1 M))))) : S_JLat_canEncode x0 M P := e_JLat_canEncode x0 M (fun _ h => w_JLat_canEncode_0 h x0 M H)
set_option maxHeartbeats 4000000 in
set_option maxRecDepth 100000 in
theorem w_JLat_indexOfChar_0 {P : Int → Mm → Prop} {K : Nat → Rr → Nat → List (Nat × AV) → List AV → Mm → Prop} (h : EK shC yJ1_indexOfChar_4cfef cJ1_indexOfChar_4cfef 6 (some .int) 1 NN NN (QI RRC P) K) (x1 : Int) (x2 : Int) (x3 : Int) (M : Mm)
    (H : (-128 ≤ x1 ∧ x1 ≤ 127) ∧ K NN RRC 7 [(0, ve 30), (3, vi x3), (4, vi x1), (5, vi x2)] [] M) :
    K NN RRC 0 [(0, ve 30), (1, vi x1), (2, vi x2), (3, vi x3)] [] M := by
  refine r_iloadn h (q := 1) 1 rfl (by decide +kernel : decode cJ1_indexOfChar_4cfef 0 = .ok (.iload_n 1, 1)) ?_
  obtain ⟨g1, H⟩ := H
  refine r_i2b h g1 (by decide +kernel : decode cJ1_indexOfChar_4cfef 1 = .ok (.i2b, 1)) ?_
  refine r_istore h (L' := [(4, vi x1), (0, ve 30), (1, vi x1), (2, vi x2), (3, vi x3)]) (by decide) rfl (by decide +kernel : decode cJ1_indexOfChar_4cfef 2 = .ok (.istore 4, 2)) ?_
  refine r_iloadn h (q := 2) 3 rfl (by decide +kernel : decode cJ1_indexOfChar_4cfef 4 = .ok (.iload_n 2, 1)) ?_
  refine r_istore h (L' := [(5, vi x2), (4, vi x1), (0, ve 30), (1, vi x1), (2, vi x2), (3, vi x3)]) (by decide) rfl (by decide +kernel : decode cJ1_indexOfChar_4cfef 5 = .ok (.istore 5, 2)) ?_
  refine r_drop h [2, 5, 1, 0] rfl ?_
  exact H
set_option maxHeartbeats 4000000 in
set_option maxRecDepth 100000 in
theorem w_JLat_indexOfChar_7 {P : Int → Mm → Prop} {K : Nat → Rr → Nat → List (Nat × AV) → List AV → Mm → Prop} (h : EK shC yJ1_indexOfChar_4cfef cJ1_indexOfChar_4cfef 6 (some .int) 1 NN NN (QI RRC P) K) (x3 : Int) (x4 : Int) (x5 : Int) (M : Mm)
    (H : (rng x5) ∧ (rng x3) ∧ (x3 ≤ x5 → (P (-1) M)) ∧ (¬ (x3 ≤ x5) → ((0 ≤ x5 ∧ x5 < 8) ∧ (rng x4) ∧ ((sB.getD x5.toNat 0) ≠ x4 → (K NN RRC 7 [(0, ve 30), (3, vi x3), (4, vi x4), (5, vi (x5 + 1))] [] M)) ∧ ((sB.getD x5.toNat 0) = x4 → (P x5 M))))) :
    K NN RRC 7 [(0, ve 30), (3, vi x3), (4, vi x4), (5, vi x5)] [] M := by
  refine r_iload h 3 rfl (by decide +kernel : decode cJ1_indexOfChar_4cfef 7 = .ok (.iload 5, 2)) ?_
  refine r_iloadn h (q := 3) 1 rfl (by decide +kernel : decode cJ1_indexOfChar_4cfef 9 = .ok (.iload_n 3, 1)) ?_
  obtain ⟨g1, g2, H⟩ := H
  obtain ⟨H1, H2⟩ := H
  refine r_icmp_ge h 31 g1 g2 (by decide) (by decide +kernel : decode cJ1_indexOfChar_4cfef 10 = .ok (.if_icmp .ge 21, 3)) (fun hc => ?_) (fun hc => ?_)
  · have H := H1 hc
    refine r_iconst h (v := (-1)) (by decide +kernel : decode cJ1_indexOfChar_4cfef 31 = .ok (.iconst (-1), 1)) ?_
    exact r_iret h rfl (by decide +kernel : decode cJ1_indexOfChar_4cfef 32 = .ok (.ireturn, 1)) rfl ⟨rfl, _, rfl, H⟩
  · have H := H2 hc
    refine r_aloadEn h (q := 0) 0 rfl (by decide +kernel : decode cJ1_indexOfChar_4cfef 13 = .ok (.aload_n 0, 1)) ?_
    refine r_iload h 3 rfl (by decide +kernel : decode cJ1_indexOfChar_4cfef 14 = .ok (.iload 5, 2)) ?_
    obtain ⟨g1, H⟩ := H
    refine r_tB h tF_b g1 (by decide) rfl (by decide +kernel : decode cJ1_indexOfChar_4cfef 16 = .ok (.baload, 1)) ?_
    refine r_iload h 2 rfl (by decide +kernel : decode cJ1_indexOfChar_4cfef 17 = .ok (.iload 4, 2)) ?_
    obtain ⟨g1, H⟩ := H
    obtain ⟨H1, H2⟩ := H
    refine r_icmp_ne h 25 (sB_rng _) g1 (by decide) (by decide +kernel : decode cJ1_indexOfChar_4cfef 19 = .ok (.if_icmp .ne 6, 3)) (fun hc => ?_) (fun hc => ?_)
    · have H := H1 hc
      refine r_iinc h (i := 5) (v := 1) (L' := [(5, vi (x5 + 1)), (0, ve 30), (3, vi x3), (4, vi x4)]) 3 rfl (by decide) rfl (by decide +kernel : decode cJ1_indexOfChar_4cfef 25 = .ok (.iinc 5 1, 3)) ?_
      refine r_goto h 7 (by decide) (by decide +kernel : decode cJ1_indexOfChar_4cfef 28 = .ok (.goto (-21), 3)) ?_
      refine r_drop h [1, 2, 3, 0] rfl ?_
      exact H
    · have H := H2 hc
      refine r_iload h 3 rfl (by decide +kernel : decode cJ1_indexOfChar_4cfef 22 = .ok (.iload 5, 2)) ?_
      exact r_iret h rfl (by decide +kernel : decode cJ1_indexOfChar_4cfef 24 = .ok (.ireturn, 1)) rfl ⟨rfl, _, rfl, H⟩
set_option maxHeartbeats 4000000 in
set_option maxRecDepth 100000 in
theorem w_JLat_indexOf_0 {P : Int → Mm → Prop} {K : Nat → Rr → Nat → List (Nat × AV) → List AV → Mm → Prop} (h : EK shC yJ1_indexOf_4cfef cJ1_indexOf_4cfef 4 (some .int) 2 NN NN (QI RRC P) K) (x1 : Int) (x2 : Int) (x3 : Int) (M : Mm)
    (H : ∃ P1 : Int → Mm → Prop, S_JLat_canEncode x1 M P1 ∧ ∀ (r1 : Int) (M1 : Mm), P1 r1 M1 → (rng r1) ∧ (r1 ≠ 0 → ((rng x2) ∧ (rng x3) ∧ ((max x2 0) < (min x3 8) → (∃ P2 : Int → Mm → Prop, S_JLat_indexOfChar x1 (max x2 0) (min x3 8) M1 P2 ∧ ∀ (r2 : Int) (M2 : Mm), P2 r2 M2 → P r2 M2)) ∧ (¬ ((max x2 0) < (min x3 8)) → (P (-1) M1)))) ∧ (r1 = 0 → (P (-1) M1))) :
    K NN RRC 0 [(0, ve 30), (1, vi x1), (2, vi x2), (3, vi x3)] [] M := by
  refine r_iloadn h (q := 1) 1 rfl (by decide +kernel : decode cJ1_indexOf_4cfef 0 = .ok (.iload_n 1, 1)) ?_
  obtain ⟨P1, hSP1, H⟩ := H
  refine r_callS h (as := [vi x1]) (S := []) m_JLat_88 hSP1 (by decide) (Nat.le_refl _) rfl rfl (Nat.le_of_ble_eq_true rfl) (by decide +kernel : decode cJ1_indexOf_4cfef 1 = .ok (.invokestatic 88, 3)) ?_
  rintro _ _ M1 ⟨rfl, r1, rfl, hP⟩
  have H := H r1 M1 hP
  show K NN RRC _ _ [vi r1] _
  obtain ⟨g1, H⟩ := H
  obtain ⟨H1, H2⟩ := H
  refine r_if_ne h 9 g1 (by decide) (by decide +kernel : decode cJ1_indexOf_4cfef 4 = .ok (.ifCond .ne 5, 3)) (fun hc => ?_) (fun hc => ?_)
  · have H := H1 hc
    refine r_iloadn h (q := 2) 2 rfl (by decide +kernel : decode cJ1_indexOf_4cfef 9 = .ok (.iload_n 2, 1)) ?_
    refine r_iconst h (v := 0) (by decide +kernel : decode cJ1_indexOf_4cfef 10 = .ok (.iconst 0, 1)) ?_
    obtain ⟨g1, H⟩ := H
    refine r_max h g1 (by decide) kM_max_JLat (by decide) (Nat.le_refl _) (Nat.le_of_ble_eq_true rfl) (by decide +kernel : decode cJ1_indexOf_4cfef 11 = .ok (.invokestatic 92, 3)) ?_
    rw [max_if]
    have gm1 : rng (max x2 0) := max_rng g1 (by decide)
    refine r_istoren h (q := 2) (L' := [(2, vi (max x2 0)), (0, ve 30), (1, vi x1), (3, vi x3)]) (by decide) rfl (by decide +kernel : decode cJ1_indexOf_4cfef 14 = .ok (.istore_n 2, 1)) ?_
    refine r_iloadn h (q := 3) 3 rfl (by decide +kernel : decode cJ1_indexOf_4cfef 15 = .ok (.iload_n 3, 1)) ?_
    refine r_aloadEn h (q := 0) 1 rfl (by decide +kernel : decode cJ1_indexOf_4cfef 16 = .ok (.aload_n 0, 1)) ?_
    refine r_tlen h tF_b (by decide +kernel : decode cJ1_indexOf_4cfef 17 = .ok (.arraylength, 1)) ?_
    obtain ⟨g1, H⟩ := H
    refine r_min h g1 (by decide) kM_min_JLat (by decide) (Nat.le_refl _) (Nat.le_of_ble_eq_true rfl) (by decide +kernel : decode cJ1_indexOf_4cfef 18 = .ok (.invokestatic 38, 3)) ?_
    rw [min_if]
    have gm2 : rng (min x3 8) := min_rng g1 (by decide)
    refine r_istoren h (q := 3) (L' := [(3, vi (min x3 8)), (2, vi (max x2 0)), (0, ve 30), (1, vi x1)]) (by decide) rfl (by decide +kernel : decode cJ1_indexOf_4cfef 21 = .ok (.istore_n 3, 1)) ?_
    refine r_iloadn h (q := 2) 1 rfl (by decide +kernel : decode cJ1_indexOf_4cfef 22 = .ok (.iload_n 2, 1)) ?_
    refine r_iloadn h (q := 3) 0 rfl (by decide +kernel : decode cJ1_indexOf_4cfef 23 = .ok (.iload_n 3, 1)) ?_
    obtain ⟨H1, H2⟩ := H
    refine r_icmp_lt h 29 gm1 gm2 (by decide) (by decide +kernel : decode cJ1_indexOf_4cfef 24 = .ok (.if_icmp .lt 5, 3)) (fun hc => ?_) (fun hc => ?_)
    · have H := H1 hc
      refine r_aloadEn h (q := 0) 2 rfl (by decide +kernel : decode cJ1_indexOf_4cfef 29 = .ok (.aload_n 0, 1)) ?_
      refine r_iloadn h (q := 1) 3 rfl (by decide +kernel : decode cJ1_indexOf_4cfef 30 = .ok (.iload_n 1, 1)) ?_
      refine r_iloadn h (q := 2) 1 rfl (by decide +kernel : decode cJ1_indexOf_4cfef 31 = .ok (.iload_n 2, 1)) ?_
      refine r_iloadn h (q := 3) 0 rfl (by decide +kernel : decode cJ1_indexOf_4cfef 32 = .ok (.iload_n 3, 1)) ?_
      obtain ⟨P2, hSP2, H⟩ := H
      refine r_callS h (as := [ve 30, vi x1, vi (max x2 0), vi (min x3 8)]) (S := []) m_JLat_95 hSP2 (by decide) (Nat.le_refl _) rfl rfl (Nat.le_of_ble_eq_true rfl) (by decide +kernel : decode cJ1_indexOf_4cfef 33 = .ok (.invokestatic 95, 3)) ?_
      rintro _ _ M2 ⟨rfl, r2, rfl, hP⟩
      have H := H r2 M2 hP
      show K NN RRC _ _ [vi r2] _
      exact r_iret h rfl (by decide +kernel : decode cJ1_indexOf_4cfef 36 = .ok (.ireturn, 1)) rfl ⟨rfl, _, rfl, H⟩
    · have H := H2 hc
      refine r_iconst h (v := (-1)) (by decide +kernel : decode cJ1_indexOf_4cfef 27 = .ok (.iconst (-1), 1)) ?_
      exact r_iret h rfl (by decide +kernel : decode cJ1_indexOf_4cfef 28 = .ok (.ireturn, 1)) rfl ⟨rfl, _, rfl, H⟩
  · have H := H2 hc
    refine r_iconst h (v := (-1)) (by decide +kernel : decode cJ1_indexOf_4cfef 7 = .ok (.iconst (-1), 1)) ?_
    exact r_iret h rfl (by decide +kernel : decode cJ1_indexOf_4cfef 8 = .ok (.ireturn, 1)) rfl ⟨rfl, _, rfl, H⟩
theorem W_JLat_indexOf (x1 : Int) (x2 : Int) (x3 : Int) (M : Mm) {P : Int → Mm → Prop} (H : ∃ P1 : Int → Mm → Prop, S_JLat_canEncode x1 M P1 ∧ ∀ (r1 : Int) (M1 : Mm), P1 r1 M1 → (rng r1) ∧ (r1 ≠ 0 → ((rng x2) ∧ (rng x3) ∧ ((max x2 0) < (min x3 8) → (∃ P2 : Int → Mm → Prop, S_JLat_indexOfChar x1 (max x2 0) (min x3 8) M1 P2 ∧ ∀ (r2 : Int) (M2 : Mm), P2 r2 M2 → P r2 M2)) ∧ (¬ ((max x2 0) < (min x3 8)) → (P (-1) M1)))) ∧ (r1 = 0 → (P (-1) M1))) : S_JLat_indexOf x1 x2 x3 M P := e_JLat_indexOf x1 x2 x3 M (fun _ h => w_JLat_indexOf_0 h x1 x2 x3 M H)
set_option maxHeartbeats 4000000 in
set_option maxRecDepth 100000 in
theorem w_JStr_indexOf_0_0 {P : Int → Mm → Prop} {K : Nat → Rr → Nat → List (Nat × AV) → List AV → Mm → Prop} (h : EK shC yJ0_indexOf_0f7a4 cJ0_indexOf_0f7a4 2 (some .int) 7 NN NN (QI RRC P) K) (x1 : Int) (M : Mm)
    (H : ∃ P1 : Int → Mm → Prop, S_JStr_indexOf_1 x1 0 M P1 ∧ ∀ (r1 : Int) (M1 : Mm), P1 r1 M1 → P r1 M1) :
    K NN RRC 0 [(0, ve 29), (1, vi x1)] [] M := by
  refine r_aloadEn h (q := 0) 0 rfl (by decide +kernel : decode cJ0_indexOf_0f7a4 0 = .ok (.aload_n 0, 1)) ?_
  refine r_iloadn h (q := 1) 1 rfl (by decide +kernel : decode cJ0_indexOf_0f7a4 1 = .ok (.iload_n 1, 1)) ?_
  refine r_iconst h (v := 0) (by decide +kernel : decode cJ0_indexOf_0f7a4 2 = .ok (.iconst 0, 1)) ?_
  obtain ⟨P1, hSP1, H⟩ := H
  refine r_callE h (as := [vi x1, vi 0]) (S := []) (b := 29) m_JStr_633 hSP1 (by decide) (Nat.le_refl _) rfl oC_s rfl (Nat.le_of_ble_eq_true rfl) (by decide +kernel : decode cJ0_indexOf_0f7a4 3 = .ok (.invokevirtual 633, 3)) ?_
  rintro _ _ M1 ⟨rfl, r1, rfl, hP⟩
  have H := H r1 M1 hP
  show K NN RRC _ _ [vi r1] _
  exact r_iret h rfl (by decide +kernel : decode cJ0_indexOf_0f7a4 6 = .ok (.ireturn, 1)) rfl ⟨rfl, _, rfl, H⟩
theorem W_JStr_indexOf_0 (x1 : Int) (M : Mm) {P : Int → Mm → Prop} (H : ∃ P1 : Int → Mm → Prop, S_JStr_indexOf_1 x1 0 M P1 ∧ ∀ (r1 : Int) (M1 : Mm), P1 r1 M1 → P r1 M1) : S_JStr_indexOf_0 x1 M P := e_JStr_indexOf_0 x1 M (fun _ h => w_JStr_indexOf_0_0 h x1 M H)
set_option maxHeartbeats 4000000 in
set_option maxRecDepth 100000 in
theorem w_Tape_advance_0 {P : Mm → Prop} {K : Nat → Rr → Nat → List (Nat × AV) → List AV → Mm → Prop} (h : EK shC yX7_advance cX7_advance 2 none 8 NN NN (QV RRC P) K) (b : Nat) (hb : At shC NN b (.inl 6)) (M : Mm)
    (H : (rng (M b 4)) ∧ (rng (M b 2)) ∧ ((M b 2) ≤ (M b 4) → (K NN RRC 52 [(0, vr b)] [] M)) ∧ (¬ ((M b 2) ≤ (M b 4)) → ((0 ≤ (M b 4) ∧ (M b 4) < 1000) ∧ (rng (M (b + 1) (M b 4).toNat)) ∧ ((M (b + 1) (M b 4).toNat) = 10 → (∀ M1 : Mm, M1 = (upr M b (up1 (M b) 4 ((M b 4) + 1))) → K NN RRC 0 [(0, vr b)] [] M1)) ∧ ((M (b + 1) (M b 4).toNat) ≠ 10 → ((0 ≤ (M b 4) ∧ (M b 4) < 1000) ∧ (rng (M (b + 1) (M b 4).toNat)) ∧ ((M (b + 1) (M b 4).toNat) ≠ 32 → (K NN RRC 52 [(0, vr b)] [] M)) ∧ ((M (b + 1) (M b 4).toNat) = 32 → (∀ M2 : Mm, M2 = (upr M b (up1 (M b) 4 ((M b 4) + 1))) → K NN RRC 0 [(0, vr b)] [] M2))))))) :
    K NN RRC 0 [(0, vr b)] [] M := by
  refine r_aloadn h (q := 0) 0 rfl (by decide +kernel : decode cX7_advance 0 = .ok (.aload_n 0, 1)) ?_
  refine r_getI h f_Tape_31 hb (by decide +kernel : decode cX7_advance 1 = .ok (.getfield 31, 3)) ?_
  refine r_aloadn h (q := 0) 0 rfl (by decide +kernel : decode cX7_advance 4 = .ok (.aload_n 0, 1)) ?_
  refine r_getI h f_Tape_28 hb (by decide +kernel : decode cX7_advance 5 = .ok (.getfield 28, 3)) ?_
  obtain ⟨g1, g2, H⟩ := H
  obtain ⟨H1, H2⟩ := H
  refine r_icmp_ge h 52 g1 g2 (by decide) (by decide +kernel : decode cX7_advance 8 = .ok (.if_icmp .ge 44, 3)) (fun hc => ?_) (fun hc => ?_)
  · have H := H1 hc
    exact H
  · have H := H2 hc
    refine r_aloadn h (q := 0) 0 rfl (by decide +kernel : decode cX7_advance 11 = .ok (.aload_n 0, 1)) ?_
    refine r_getR h (r := (b + 1)) f_Tape_9 hb (rr_6_0 hb) (by omega) (by decide +kernel : decode cX7_advance 12 = .ok (.getfield 9, 3)) ?_
    refine r_aloadn h (q := 0) 0 rfl (by decide +kernel : decode cX7_advance 15 = .ok (.aload_n 0, 1)) ?_
    refine r_getI h f_Tape_31 hb (by decide +kernel : decode cX7_advance 16 = .ok (.getfield 31, 3)) ?_
    obtain ⟨g1, H⟩ := H
    refine r_bald h (M b 4).toNat rfl (at_6_0 hb) g1 (by decide) (by decide +kernel : decode cX7_advance 19 = .ok (.baload, 1)) ?_
    refine r_bipush h (v := 10) (by decide) (by decide +kernel : decode cX7_advance 20 = .ok (.bipush 10, 2)) ?_
    obtain ⟨g1, H⟩ := H
    obtain ⟨H1, H2⟩ := H
    refine r_icmp_eq h 39 g1 (by decide) (by decide) (by decide +kernel : decode cX7_advance 22 = .ok (.if_icmp .eq 17, 3)) (fun hc => ?_) (fun hc => ?_)
    · have H := H1 hc
      refine r_aloadn h (q := 0) 0 rfl (by decide +kernel : decode cX7_advance 39 = .ok (.aload_n 0, 1)) ?_
      refine r_dup h rfl (by decide +kernel : decode cX7_advance 40 = .ok (.dup, 1)) ?_
      refine r_getI h f_Tape_31 hb (by decide +kernel : decode cX7_advance 41 = .ok (.getfield 31, 3)) ?_
      refine r_iconst h (v := 1) (by decide +kernel : decode cX7_advance 44 = .ok (.iconst 1, 1)) ?_
      refine r_iadd h (by decide +kernel : decode cX7_advance 45 = .ok (.iadd, 1)) ?_
      refine r_putI h f_Tape_31 hb rfl rfl (by decide +kernel : decode cX7_advance 46 = .ok (.putfield 31, 3)) ?_
      have H := H _ rfl
      revert H
      generalize (upr M b (up1 (M b) 4 ((M b 4) + 1))) = M1
      intro H
      refine r_goto h 0 (by decide) (by decide +kernel : decode cX7_advance 49 = .ok (.goto (-49), 3)) ?_
      exact H
    · have H := H2 hc
      refine r_aloadn h (q := 0) 0 rfl (by decide +kernel : decode cX7_advance 25 = .ok (.aload_n 0, 1)) ?_
      refine r_getR h (r := (b + 1)) f_Tape_9 hb (rr_6_0 hb) (by omega) (by decide +kernel : decode cX7_advance 26 = .ok (.getfield 9, 3)) ?_
      refine r_aloadn h (q := 0) 0 rfl (by decide +kernel : decode cX7_advance 29 = .ok (.aload_n 0, 1)) ?_
      refine r_getI h f_Tape_31 hb (by decide +kernel : decode cX7_advance 30 = .ok (.getfield 31, 3)) ?_
      obtain ⟨g1, H⟩ := H
      refine r_bald h (M b 4).toNat rfl (at_6_0 hb) g1 (by decide) (by decide +kernel : decode cX7_advance 33 = .ok (.baload, 1)) ?_
      refine r_bipush h (v := 32) (by decide) (by decide +kernel : decode cX7_advance 34 = .ok (.bipush 32, 2)) ?_
      obtain ⟨g1, H⟩ := H
      obtain ⟨H1, H2⟩ := H
      refine r_icmp_ne h 52 g1 (by decide) (by decide) (by decide +kernel : decode cX7_advance 36 = .ok (.if_icmp .ne 16, 3)) (fun hc => ?_) (fun hc => ?_)
      · have H := H1 hc
        exact H
      · have H := H2 hc
        refine r_aloadn h (q := 0) 0 rfl (by decide +kernel : decode cX7_advance 39 = .ok (.aload_n 0, 1)) ?_
        refine r_dup h rfl (by decide +kernel : decode cX7_advance 40 = .ok (.dup, 1)) ?_
        refine r_getI h f_Tape_31 hb (by decide +kernel : decode cX7_advance 41 = .ok (.getfield 31, 3)) ?_
        refine r_iconst h (v := 1) (by decide +kernel : decode cX7_advance 44 = .ok (.iconst 1, 1)) ?_
        refine r_iadd h (by decide +kernel : decode cX7_advance 45 = .ok (.iadd, 1)) ?_
        refine r_putI h f_Tape_31 hb rfl rfl (by decide +kernel : decode cX7_advance 46 = .ok (.putfield 31, 3)) ?_
        have H := H _ rfl
        revert H
        generalize (upr M b (up1 (M b) 4 ((M b 4) + 1))) = M2
        intro H
        refine r_goto h 0 (by decide) (by decide +kernel : decode cX7_advance 49 = .ok (.goto (-49), 3)) ?_
        exact H
set_option maxHeartbeats 4000000 in
set_option maxRecDepth 100000 in
theorem w_Tape_advance_52 {P : Mm → Prop} {K : Nat → Rr → Nat → List (Nat × AV) → List AV → Mm → Prop} (h : EK shC yX7_advance cX7_advance 2 none 8 NN NN (QV RRC P) K) (b : Nat) (hb : At shC NN b (.inl 6)) (M : Mm)
    (H : ∀ M1 : Mm, M1 = (upr M b (up1 (M b) 3 (M b 4))) → ∀ M2 : Mm, M2 = (upr M1 b (up1 (M1 b) 6 ((0 : Int) + 1))) → (rng (M2 b 4)) ∧ (rng (M2 b 2)) ∧ ((M2 b 2) ≤ (M2 b 4) → (K NN RRC 91 [(0, vr b)] [vi 0] M2)) ∧ (¬ ((M2 b 2) ≤ (M2 b 4)) → ((0 ≤ (M2 b 4) ∧ (M2 b 4) < 1000) ∧ K NN RRC 91 [(0, vr b)] [vi (M2 (b + 1) (M2 b 4).toNat)] M2))) :
    K NN RRC 52 [(0, vr b)] [] M := by
  refine r_aloadn h (q := 0) 0 rfl (by decide +kernel : decode cX7_advance 52 = .ok (.aload_n 0, 1)) ?_
  refine r_aloadn h (q := 0) 0 rfl (by decide +kernel : decode cX7_advance 53 = .ok (.aload_n 0, 1)) ?_
  refine r_getI h f_Tape_31 hb (by decide +kernel : decode cX7_advance 54 = .ok (.getfield 31, 3)) ?_
  refine r_putI h f_Tape_40 hb rfl rfl (by decide +kernel : decode cX7_advance 57 = .ok (.putfield 40, 3)) ?_
  have H := H _ rfl
  revert H
  generalize (upr M b (up1 (M b) 3 (M b 4))) = M1
  intro H
  refine r_aloadn h (q := 0) 0 rfl (by decide +kernel : decode cX7_advance 60 = .ok (.aload_n 0, 1)) ?_
  refine r_getS h zF_0 rfl (inT1 41 rfl rfl) (by decide +kernel : decode cX7_advance 61 = .ok (.getstatic 15, 3)) ?_
  refine r_putE h f_Tape_21 hb rfl rfl (by decide +kernel : decode cX7_advance 64 = .ok (.putfield 21, 3)) ?_
  have H := H _ rfl
  revert H
  generalize (upr M1 b (up1 (M1 b) 6 ((0 : Int) + 1))) = M2
  intro H
  refine r_aloadn h (q := 0) 0 rfl (by decide +kernel : decode cX7_advance 67 = .ok (.aload_n 0, 1)) ?_
  refine r_getI h f_Tape_31 hb (by decide +kernel : decode cX7_advance 68 = .ok (.getfield 31, 3)) ?_
  refine r_aloadn h (q := 0) 0 rfl (by decide +kernel : decode cX7_advance 71 = .ok (.aload_n 0, 1)) ?_
  refine r_getI h f_Tape_28 hb (by decide +kernel : decode cX7_advance 72 = .ok (.getfield 28, 3)) ?_
  obtain ⟨g1, g2, H⟩ := H
  obtain ⟨H1, H2⟩ := H
  refine r_icmp_ge h 90 g1 g2 (by decide) (by decide +kernel : decode cX7_advance 75 = .ok (.if_icmp .ge 15, 3)) (fun hc => ?_) (fun hc => ?_)
  · have H := H1 hc
    refine r_iconst h (v := 0) (by decide +kernel : decode cX7_advance 90 = .ok (.iconst 0, 1)) ?_
    exact H
  · have H := H2 hc
    refine r_aloadn h (q := 0) 0 rfl (by decide +kernel : decode cX7_advance 78 = .ok (.aload_n 0, 1)) ?_
    refine r_getR h (r := (b + 1)) f_Tape_9 hb (rr_6_0 hb) (by omega) (by decide +kernel : decode cX7_advance 79 = .ok (.getfield 9, 3)) ?_
    refine r_aloadn h (q := 0) 0 rfl (by decide +kernel : decode cX7_advance 82 = .ok (.aload_n 0, 1)) ?_
    refine r_getI h f_Tape_31 hb (by decide +kernel : decode cX7_advance 83 = .ok (.getfield 31, 3)) ?_
    obtain ⟨g1, H⟩ := H
    refine r_bald h (M2 b 4).toNat rfl (at_6_0 hb) g1 (by decide) (by decide +kernel : decode cX7_advance 86 = .ok (.baload, 1)) ?_
    refine r_goto h 91 (by decide) (by decide +kernel : decode cX7_advance 87 = .ok (.goto 4, 3)) ?_
    exact H
set_option maxHeartbeats 4000000 in
set_option maxRecDepth 100000 in
theorem w_Tape_advance_91 {P : Mm → Prop} {K : Nat → Rr → Nat → List (Nat × AV) → List AV → Mm → Prop} (h : EK shC yX7_advance cX7_advance 2 none 8 NN NN (QV RRC P) K) (b : Nat) (hb : At shC NN b (.inl 6)) (s0 : Int) (M : Mm)
    (H : (rng (M b 4)) ∧ (rng (M b 2)) ∧ ((M b 4) < (M b 2) → ((rng s0) ∧ (s0 < 97 → (K NN RRC 155 [(0, vr b), (1, vi s0)] [] M)) ∧ (¬ (s0 < 97) → ((rng s0) ∧ (122 < s0 → (K NN RRC 155 [(0, vr b), (1, vi s0)] [] M)) ∧ (¬ (122 < s0) → (∃ P1 : Mm → Prop, S_Tape_readWord b M P1 ∧ ∀ M1 : Mm, P1 M1 → (rng (M1 b 5)) ∧ ((M1 b 5) ≠ 2 → (∀ M2 : Mm, M2 = (upr M1 b (up1 (M1 b) 6 ((0 : Int) + 1))) → P M2)) ∧ ((M1 b 5) = 2 → (∃ P3 : Nat → Mm → Prop, S_Word_spelled (M1 b 7) M1 P3 ∧ ∀ (r2 : Nat) (M3 : Mm), P3 r2 M3 → r2 < 27 ∧ ∀ M4 : Mm, M4 = (upr M3 b (up1 (M3 b) 6 ((r2 : Int) + 1))) → P M4)))))))) ∧ (¬ ((M b 4) < (M b 2)) → (∀ M5 : Mm, M5 = (upr M b (up1 (M b) 5 0)) → P M5))) :
    K NN RRC 91 [(0, vr b)] [vi s0] M := by
  refine r_istoren h (q := 1) (L' := [(1, vi s0), (0, vr b)]) (by decide) rfl (by decide +kernel : decode cX7_advance 91 = .ok (.istore_n 1, 1)) ?_
  refine r_aloadn h (q := 0) 1 rfl (by decide +kernel : decode cX7_advance 92 = .ok (.aload_n 0, 1)) ?_
  refine r_getI h f_Tape_31 hb (by decide +kernel : decode cX7_advance 93 = .ok (.getfield 31, 3)) ?_
  refine r_aloadn h (q := 0) 1 rfl (by decide +kernel : decode cX7_advance 96 = .ok (.aload_n 0, 1)) ?_
  refine r_getI h f_Tape_28 hb (by decide +kernel : decode cX7_advance 97 = .ok (.getfield 28, 3)) ?_
  obtain ⟨g1, g2, H⟩ := H
  obtain ⟨H1, H2⟩ := H
  refine r_icmp_lt h 111 g1 g2 (by decide) (by decide +kernel : decode cX7_advance 100 = .ok (.if_icmp .lt 11, 3)) (fun hc => ?_) (fun hc => ?_)
  · have H := H1 hc
    refine r_iloadn h (q := 1) 0 rfl (by decide +kernel : decode cX7_advance 111 = .ok (.iload_n 1, 1)) ?_
    refine r_bipush h (v := 97) (by decide) (by decide +kernel : decode cX7_advance 112 = .ok (.bipush 97, 2)) ?_
    obtain ⟨g1, H⟩ := H
    obtain ⟨H1, H2⟩ := H
    refine r_icmp_lt h 155 g1 (by decide) (by decide) (by decide +kernel : decode cX7_advance 114 = .ok (.if_icmp .lt 41, 3)) (fun hc => ?_) (fun hc => ?_)
    · have H := H1 hc
      refine r_drop h [1, 0] rfl ?_
      exact H
    · have H := H2 hc
      refine r_iloadn h (q := 1) 0 rfl (by decide +kernel : decode cX7_advance 117 = .ok (.iload_n 1, 1)) ?_
      refine r_bipush h (v := 122) (by decide) (by decide +kernel : decode cX7_advance 118 = .ok (.bipush 122, 2)) ?_
      obtain ⟨g1, H⟩ := H
      obtain ⟨H1, H2⟩ := H
      refine r_icmp_gt h 155 g1 (by decide) (by decide) (by decide +kernel : decode cX7_advance 120 = .ok (.if_icmp .gt 35, 3)) (fun hc => ?_) (fun hc => ?_)
      · have H := H1 hc
        refine r_drop h [1, 0] rfl ?_
        exact H
      · have H := H2 hc
        refine r_aloadn h (q := 0) 1 rfl (by decide +kernel : decode cX7_advance 123 = .ok (.aload_n 0, 1)) ?_
        obtain ⟨P1, hSP1, H⟩ := H
        refine r_callV h (as := []) (S := []) (b := b) m_Tape_46 hSP1 (by decide) (Nat.le_refl _) rfl hb rfl (Nat.le_of_ble_eq_true rfl) (by decide +kernel : decode cX7_advance 124 = .ok (.invokevirtual 46, 3)) ?_
        rintro _ _ M1 ⟨rfl, rfl, hP⟩
        have H := H M1 hP
        show K NN RRC _ _ [] _
        refine r_aloadn h (q := 0) 1 rfl (by decide +kernel : decode cX7_advance 127 = .ok (.aload_n 0, 1)) ?_
        refine r_aloadn h (q := 0) 1 rfl (by decide +kernel : decode cX7_advance 128 = .ok (.aload_n 0, 1)) ?_
        refine r_getI h f_Tape_43 hb (by decide +kernel : decode cX7_advance 129 = .ok (.getfield 43, 3)) ?_
        refine r_iconst h (v := 2) (by decide +kernel : decode cX7_advance 132 = .ok (.iconst 2, 1)) ?_
        obtain ⟨g1, H⟩ := H
        obtain ⟨H1, H2⟩ := H
        refine r_icmp_ne h 146 g1 (by decide) (by decide) (by decide +kernel : decode cX7_advance 133 = .ok (.if_icmp .ne 13, 3)) (fun hc => ?_) (fun hc => ?_)
        · have H := H1 hc
          refine r_getS h zF_0 rfl (inT1 41 rfl rfl) (by decide +kernel : decode cX7_advance 146 = .ok (.getstatic 15, 3)) ?_
          refine r_putE h f_Tape_21 hb rfl rfl (by decide +kernel : decode cX7_advance 149 = .ok (.putfield 21, 3)) ?_
          have H := H _ rfl
          revert H
          generalize (upr M1 b (up1 (M1 b) 6 ((0 : Int) + 1))) = M2
          intro H
          refine r_goto h 208 (by decide) (by decide +kernel : decode cX7_advance 152 = .ok (.goto 56, 3)) ?_
          exact r_vret h rfl (by decide +kernel : decode cX7_advance 208 = .ok (.return_, 1)) rfl ⟨rfl, rfl, H⟩
        · have H := H2 hc
          refine r_aloadn h (q := 0) 1 rfl (by decide +kernel : decode cX7_advance 136 = .ok (.aload_n 0, 1)) ?_
          refine r_getL h f_Tape_49 hb (by decide +kernel : decode cX7_advance 137 = .ok (.getfield 49, 3)) ?_
          obtain ⟨P3, hSP3, H⟩ := H
          refine r_callS h (as := [vl (M1 b 7)]) (S := [vr b]) m_Tape_53 hSP3 (by decide) (Nat.le_refl _) rfl rfl (Nat.le_of_ble_eq_true rfl) (by decide +kernel : decode cX7_advance 140 = .ok (.invokestatic 53, 3)) ?_
          rintro _ _ M3 ⟨rfl, r2, rfl, hP⟩
          have H := H r2 M3 hP
          obtain ⟨hltr2, H⟩ := H
          show K NN RRC _ _ [ve r2, vr b] _
          refine r_goto h 149 (by decide) (by decide +kernel : decode cX7_advance 143 = .ok (.goto 6, 3)) ?_
          refine r_putE h f_Tape_21 hb rfl rfl (by decide +kernel : decode cX7_advance 149 = .ok (.putfield 21, 3)) ?_
          have H := H _ rfl
          revert H
          generalize (upr M3 b (up1 (M3 b) 6 ((r2 : Int) + 1))) = M4
          intro H
          refine r_goto h 208 (by decide) (by decide +kernel : decode cX7_advance 152 = .ok (.goto 56, 3)) ?_
          exact r_vret h rfl (by decide +kernel : decode cX7_advance 208 = .ok (.return_, 1)) rfl ⟨rfl, rfl, H⟩
  · have H := H2 hc
    refine r_aloadn h (q := 0) 1 rfl (by decide +kernel : decode cX7_advance 103 = .ok (.aload_n 0, 1)) ?_
    refine r_iconst h (v := 0) (by decide +kernel : decode cX7_advance 104 = .ok (.iconst 0, 1)) ?_
    refine r_putI h f_Tape_43 hb rfl rfl (by decide +kernel : decode cX7_advance 105 = .ok (.putfield 43, 3)) ?_
    have H := H _ rfl
    revert H
    generalize (upr M b (up1 (M b) 5 0)) = M5
    intro H
    refine r_goto h 208 (by decide) (by decide +kernel : decode cX7_advance 108 = .ok (.goto 100, 3)) ?_
    exact r_vret h rfl (by decide +kernel : decode cX7_advance 208 = .ok (.return_, 1)) rfl ⟨rfl, rfl, H⟩
set_option maxHeartbeats 4000000 in
set_option maxRecDepth 100000 in
theorem w_Tape_advance_155 {P : Mm → Prop} {K : Nat → Rr → Nat → List (Nat × AV) → List AV → Mm → Prop} (h : EK shC yX7_advance cX7_advance 2 none 8 NN NN (QV RRC P) K) (b : Nat) (hb : At shC NN b (.inl 6)) (x1 : Int) (M : Mm)
    (H : (rng x1) ∧ (x1 < 48 → ((0 ≤ x1 ∧ x1 ≤ 65535) ∧ ∃ P1 : Int → Mm → Prop, S_JStr_indexOf_0 x1 M P1 ∧ ∀ (r1 : Int) (M1 : Mm), P1 r1 M1 → (rng r1) ∧ (r1 < 0 → (K NN RRC 190 [(0, vr b), (1, vi x1)] [vi 1, vr b] M1)) ∧ (¬ (r1 < 0) → (K NN RRC 190 [(0, vr b), (1, vi x1)] [vi 4, vr b] M1)))) ∧ (¬ (x1 < 48) → ((rng x1) ∧ (57 < x1 → ((0 ≤ x1 ∧ x1 ≤ 65535) ∧ ∃ P2 : Int → Mm → Prop, S_JStr_indexOf_0 x1 M P2 ∧ ∀ (r2 : Int) (M2 : Mm), P2 r2 M2 → (rng r2) ∧ (r2 < 0 → (K NN RRC 190 [(0, vr b), (1, vi x1)] [vi 1, vr b] M2)) ∧ (¬ (r2 < 0) → (K NN RRC 190 [(0, vr b), (1, vi x1)] [vi 4, vr b] M2)))) ∧ (¬ (57 < x1) → (∃ P3 : Mm → Prop, S_Tape_readNumber b M P3 ∧ ∀ M3 : Mm, P3 M3 → P M3))))) :
    K NN RRC 155 [(0, vr b), (1, vi x1)] [] M := by
  refine r_iloadn h (q := 1) 1 rfl (by decide +kernel : decode cX7_advance 155 = .ok (.iload_n 1, 1)) ?_
  refine r_bipush h (v := 48) (by decide) (by decide +kernel : decode cX7_advance 156 = .ok (.bipush 48, 2)) ?_
  obtain ⟨g1, H⟩ := H
  obtain ⟨H1, H2⟩ := H
  refine r_icmp_lt h 174 g1 (by decide) (by decide) (by decide +kernel : decode cX7_advance 158 = .ok (.if_icmp .lt 16, 3)) (fun hc => ?_) (fun hc => ?_)
  · have H := H1 hc
    refine r_aloadn h (q := 0) 0 rfl (by decide +kernel : decode cX7_advance 174 = .ok (.aload_n 0, 1)) ?_
    refine r_ldcS h (k := 29) (tx := "()<=+-*;") (by decide +kernel) (by decide +kernel : decode cX7_advance 175 = .ok (.ldc 60, 2)) ?_
    refine r_iloadn h (q := 1) 1 rfl (by decide +kernel : decode cX7_advance 177 = .ok (.iload_n 1, 1)) ?_
    obtain ⟨g1, H⟩ := H
    refine r_i2c h g1 (by decide +kernel : decode cX7_advance 178 = .ok (.i2c, 1)) ?_
    obtain ⟨P1, hSP1, H⟩ := H
    refine r_callE h (as := [vi x1]) (S := [vr b]) (b := 29) m_Tape_62 hSP1 (by decide) (Nat.le_refl _) rfl oC_s rfl (Nat.le_of_ble_eq_true rfl) (by decide +kernel : decode cX7_advance 179 = .ok (.invokevirtual 62, 3)) ?_
    rintro _ _ M1 ⟨rfl, r1, rfl, hP⟩
    have H := H r1 M1 hP
    show K NN RRC _ _ [vi r1, vr b] _
    obtain ⟨g1, H⟩ := H
    obtain ⟨H1, H2⟩ := H
    refine r_if_lt h 189 g1 (by decide) (by decide +kernel : decode cX7_advance 182 = .ok (.ifCond .lt 7, 3)) (fun hc => ?_) (fun hc => ?_)
    · have H := H1 hc
      refine r_iconst h (v := 1) (by decide +kernel : decode cX7_advance 189 = .ok (.iconst 1, 1)) ?_
      exact H
    · have H := H2 hc
      refine r_iconst h (v := 4) (by decide +kernel : decode cX7_advance 185 = .ok (.iconst 4, 1)) ?_
      refine r_goto h 190 (by decide) (by decide +kernel : decode cX7_advance 186 = .ok (.goto 4, 3)) ?_
      exact H
  · have H := H2 hc
    refine r_iloadn h (q := 1) 1 rfl (by decide +kernel : decode cX7_advance 161 = .ok (.iload_n 1, 1)) ?_
    refine r_bipush h (v := 57) (by decide) (by decide +kernel : decode cX7_advance 162 = .ok (.bipush 57, 2)) ?_
    obtain ⟨g1, H⟩ := H
    obtain ⟨H1, H2⟩ := H
    refine r_icmp_gt h 174 g1 (by decide) (by decide) (by decide +kernel : decode cX7_advance 164 = .ok (.if_icmp .gt 10, 3)) (fun hc => ?_) (fun hc => ?_)
    · have H := H1 hc
      refine r_aloadn h (q := 0) 0 rfl (by decide +kernel : decode cX7_advance 174 = .ok (.aload_n 0, 1)) ?_
      refine r_ldcS h (k := 29) (tx := "()<=+-*;") (by decide +kernel) (by decide +kernel : decode cX7_advance 175 = .ok (.ldc 60, 2)) ?_
      refine r_iloadn h (q := 1) 1 rfl (by decide +kernel : decode cX7_advance 177 = .ok (.iload_n 1, 1)) ?_
      obtain ⟨g1, H⟩ := H
      refine r_i2c h g1 (by decide +kernel : decode cX7_advance 178 = .ok (.i2c, 1)) ?_
      obtain ⟨P2, hSP2, H⟩ := H
      refine r_callE h (as := [vi x1]) (S := [vr b]) (b := 29) m_Tape_62 hSP2 (by decide) (Nat.le_refl _) rfl oC_s rfl (Nat.le_of_ble_eq_true rfl) (by decide +kernel : decode cX7_advance 179 = .ok (.invokevirtual 62, 3)) ?_
      rintro _ _ M2 ⟨rfl, r2, rfl, hP⟩
      have H := H r2 M2 hP
      show K NN RRC _ _ [vi r2, vr b] _
      obtain ⟨g1, H⟩ := H
      obtain ⟨H1, H2⟩ := H
      refine r_if_lt h 189 g1 (by decide) (by decide +kernel : decode cX7_advance 182 = .ok (.ifCond .lt 7, 3)) (fun hc => ?_) (fun hc => ?_)
      · have H := H1 hc
        refine r_iconst h (v := 1) (by decide +kernel : decode cX7_advance 189 = .ok (.iconst 1, 1)) ?_
        exact H
      · have H := H2 hc
        refine r_iconst h (v := 4) (by decide +kernel : decode cX7_advance 185 = .ok (.iconst 4, 1)) ?_
        refine r_goto h 190 (by decide) (by decide +kernel : decode cX7_advance 186 = .ok (.goto 4, 3)) ?_
        exact H
    · have H := H2 hc
      refine r_aloadn h (q := 0) 0 rfl (by decide +kernel : decode cX7_advance 167 = .ok (.aload_n 0, 1)) ?_
      obtain ⟨P3, hSP3, H⟩ := H
      refine r_callV h (as := []) (S := []) (b := b) m_Tape_57 hSP3 (by decide) (Nat.le_refl _) rfl hb rfl (Nat.le_of_ble_eq_true rfl) (by decide +kernel : decode cX7_advance 168 = .ok (.invokevirtual 57, 3)) ?_
      rintro _ _ M3 ⟨rfl, rfl, hP⟩
      have H := H M3 hP
      show K NN RRC _ _ [] _
      refine r_goto h 208 (by decide) (by decide +kernel : decode cX7_advance 171 = .ok (.goto 37, 3)) ?_
      exact r_vret h rfl (by decide +kernel : decode cX7_advance 208 = .ok (.return_, 1)) rfl ⟨rfl, rfl, H⟩
set_option maxHeartbeats 4000000 in
set_option maxRecDepth 100000 in
theorem w_Tape_advance_190 {P : Mm → Prop} {K : Nat → Rr → Nat → List (Nat × AV) → List AV → Mm → Prop} (h : EK shC yX7_advance cX7_advance 2 none 8 NN NN (QV RRC P) K) (b : Nat) (hb : At shC NN b (.inl 6)) (x1 : Int) (s0 : Int) (M : Mm)
    (H : ∀ M1 : Mm, M1 = (upr M b (up1 (M b) 5 s0)) → ∀ M2 : Mm, M2 = (upr M1 b (up1 (M1 b) 11 x1)) → ∀ M3 : Mm, M3 = (upr M2 b (up1 (M2 b) 4 ((M2 b 4) + 1))) → P M3) :
    K NN RRC 190 [(0, vr b), (1, vi x1)] [vi s0, vr b] M := by
  refine r_putI h f_Tape_43 hb rfl rfl (by decide +kernel : decode cX7_advance 190 = .ok (.putfield 43, 3)) ?_
  have H := H _ rfl
  revert H
  generalize (upr M b (up1 (M b) 5 s0)) = M1
  intro H
  refine r_aloadn h (q := 0) 0 rfl (by decide +kernel : decode cX7_advance 193 = .ok (.aload_n 0, 1)) ?_
  refine r_iloadn h (q := 1) 1 rfl (by decide +kernel : decode cX7_advance 194 = .ok (.iload_n 1, 1)) ?_
  refine r_putI h f_Tape_68 hb rfl rfl (by decide +kernel : decode cX7_advance 195 = .ok (.putfield 68, 3)) ?_
  have H := H _ rfl
  revert H
  generalize (upr M1 b (up1 (M1 b) 11 x1)) = M2
  intro H
  refine r_aloadn h (q := 0) 0 rfl (by decide +kernel : decode cX7_advance 198 = .ok (.aload_n 0, 1)) ?_
  refine r_dup h rfl (by decide +kernel : decode cX7_advance 199 = .ok (.dup, 1)) ?_
  refine r_getI h f_Tape_31 hb (by decide +kernel : decode cX7_advance 200 = .ok (.getfield 31, 3)) ?_
  refine r_iconst h (v := 1) (by decide +kernel : decode cX7_advance 203 = .ok (.iconst 1, 1)) ?_
  refine r_iadd h (by decide +kernel : decode cX7_advance 204 = .ok (.iadd, 1)) ?_
  refine r_putI h f_Tape_31 hb rfl rfl (by decide +kernel : decode cX7_advance 205 = .ok (.putfield 31, 3)) ?_
  have H := H _ rfl
  revert H
  generalize (upr M2 b (up1 (M2 b) 4 ((M2 b 4) + 1))) = M3
  intro H
  exact r_vret h rfl (by decide +kernel : decode cX7_advance 208 = .ok (.return_, 1)) rfl ⟨rfl, rfl, H⟩
set_option maxHeartbeats 4000000 in
set_option maxRecDepth 100000 in
theorem w_Tape_beginReading_0 {P : Mm → Prop} {K : Nat → Rr → Nat → List (Nat × AV) → List AV → Mm → Prop} (h : EK shC yX7_beginReading cX7_beginReading 1 none 9 NN NN (QV RRC P) K) (b : Nat) (hb : At shC NN b (.inl 6)) (M : Mm)
    (H : ∀ M1 : Mm, M1 = (upr M b (up1 (M b) 2 (M b 1))) → ∀ M2 : Mm, M2 = (upr M1 b (up1 (M1 b) 1 0)) → ∀ M3 : Mm, M3 = (upr M2 b (up1 (M2 b) 4 0)) → ∀ M4 : Mm, M4 = (upr M3 b (up1 (M3 b) 10 0)) → ∃ P5 : Mm → Prop, S_Tape_advance b M4 P5 ∧ ∀ M5 : Mm, P5 M5 → P M5) :
    K NN RRC 0 [(0, vr b)] [] M := by
  refine r_aloadn h (q := 0) 0 rfl (by decide +kernel : decode cX7_beginReading 0 = .ok (.aload_n 0, 1)) ?_
  refine r_aloadn h (q := 0) 0 rfl (by decide +kernel : decode cX7_beginReading 1 = .ok (.aload_n 0, 1)) ?_
  refine r_getI h f_Tape_24 hb (by decide +kernel : decode cX7_beginReading 2 = .ok (.getfield 24, 3)) ?_
  refine r_putI h f_Tape_28 hb rfl rfl (by decide +kernel : decode cX7_beginReading 5 = .ok (.putfield 28, 3)) ?_
  have H := H _ rfl
  revert H
  generalize (upr M b (up1 (M b) 2 (M b 1))) = M1
  intro H
  refine r_aloadn h (q := 0) 0 rfl (by decide +kernel : decode cX7_beginReading 8 = .ok (.aload_n 0, 1)) ?_
  refine r_iconst h (v := 0) (by decide +kernel : decode cX7_beginReading 9 = .ok (.iconst 0, 1)) ?_
  refine r_putI h f_Tape_24 hb rfl rfl (by decide +kernel : decode cX7_beginReading 10 = .ok (.putfield 24, 3)) ?_
  have H := H _ rfl
  revert H
  generalize (upr M1 b (up1 (M1 b) 1 0)) = M2
  intro H
  refine r_aloadn h (q := 0) 0 rfl (by decide +kernel : decode cX7_beginReading 13 = .ok (.aload_n 0, 1)) ?_
  refine r_iconst h (v := 0) (by decide +kernel : decode cX7_beginReading 14 = .ok (.iconst 0, 1)) ?_
  refine r_putI h f_Tape_31 hb rfl rfl (by decide +kernel : decode cX7_beginReading 15 = .ok (.putfield 31, 3)) ?_
  have H := H _ rfl
  revert H
  generalize (upr M2 b (up1 (M2 b) 4 0)) = M3
  intro H
  refine r_aloadn h (q := 0) 0 rfl (by decide +kernel : decode cX7_beginReading 18 = .ok (.aload_n 0, 1)) ?_
  refine r_iconst h (v := 0) (by decide +kernel : decode cX7_beginReading 19 = .ok (.iconst 0, 1)) ?_
  refine r_putI h f_Tape_34 hb rfl rfl (by decide +kernel : decode cX7_beginReading 20 = .ok (.putfield 34, 3)) ?_
  have H := H _ rfl
  revert H
  generalize (upr M3 b (up1 (M3 b) 10 0)) = M4
  intro H
  refine r_aloadn h (q := 0) 0 rfl (by decide +kernel : decode cX7_beginReading 23 = .ok (.aload_n 0, 1)) ?_
  obtain ⟨P5, hSP5, H⟩ := H
  refine r_callV h (as := []) (S := []) (b := b) m_Tape_37 hSP5 (by decide) (Nat.le_refl _) rfl hb rfl (Nat.le_of_ble_eq_true rfl) (by decide +kernel : decode cX7_beginReading 24 = .ok (.invokevirtual 37, 3)) ?_
  rintro _ _ M5 ⟨rfl, rfl, hP⟩
  have H := H M5 hP
  show K NN RRC _ _ [] _
  exact r_vret h rfl (by decide +kernel : decode cX7_beginReading 27 = .ok (.return_, 1)) rfl ⟨rfl, rfl, H⟩
theorem W_Tape_beginReading (b : Nat) (hb : At shC NN b (.inl 6)) (M : Mm) {P : Mm → Prop} (H : ∀ M1 : Mm, M1 = (upr M b (up1 (M b) 2 (M b 1))) → ∀ M2 : Mm, M2 = (upr M1 b (up1 (M1 b) 1 0)) → ∀ M3 : Mm, M3 = (upr M2 b (up1 (M2 b) 4 0)) → ∀ M4 : Mm, M4 = (upr M3 b (up1 (M3 b) 10 0)) → ∃ P5 : Mm → Prop, S_Tape_advance b M4 P5 ∧ ∀ M5 : Mm, P5 M5 → P M5) : S_Tape_beginReading b M P := e_Tape_beginReading b M (fun _ h => w_Tape_beginReading_0 h b hb M H)
set_option maxHeartbeats 4000000 in
set_option maxRecDepth 100000 in
theorem w_Tape_takeSign_0 {P : Int → Mm → Prop} {K : Nat → Rr → Nat → List (Nat × AV) → List AV → Mm → Prop} (h : EK shC yX7_takeSign cX7_takeSign 2 (some .boolean) 9 NN NN (QI RRC P) K) (b : Nat) (hb : At shC NN b (.inl 6)) (x1 : Int) (M : Mm)
    (H : ∃ P1 : Int → Mm → Prop, S_Tape_isSign b x1 M P1 ∧ ∀ (r1 : Int) (M1 : Mm), P1 r1 M1 → (rng r1) ∧ (r1 ≠ 0 → (∃ P2 : Mm → Prop, S_Tape_advance b M1 P2 ∧ ∀ M2 : Mm, P2 M2 → P 1 M2)) ∧ (r1 = 0 → (∃ P3 : Int → Mm → Prop, S_Tape_fail b 1 M1 P3 ∧ ∀ (r3 : Int) (M3 : Mm), P3 r3 M3 → (r3 = 0 ∨ r3 = 1) ∧ P r3 M3))) :
    K NN RRC 0 [(0, vr b), (1, vi x1)] [] M := by
  refine r_aloadn h (q := 0) 0 rfl (by decide +kernel : decode cX7_takeSign 0 = .ok (.aload_n 0, 1)) ?_
  refine r_iloadn h (q := 1) 1 rfl (by decide +kernel : decode cX7_takeSign 1 = .ok (.iload_n 1, 1)) ?_
  obtain ⟨P1, hSP1, H⟩ := H
  refine r_callV h (as := [vi x1]) (S := []) (b := b) m_Tape_80 hSP1 (by decide) (Nat.le_refl _) rfl hb rfl (Nat.le_of_ble_eq_true rfl) (by decide +kernel : decode cX7_takeSign 2 = .ok (.invokevirtual 80, 3)) ?_
  rintro _ _ M1 ⟨rfl, r1, rfl, hP⟩
  have H := H r1 M1 hP
  show K NN RRC _ _ [vi r1] _
  obtain ⟨g1, H⟩ := H
  obtain ⟨H1, H2⟩ := H
  refine r_if_ne h 14 g1 (by decide) (by decide +kernel : decode cX7_takeSign 5 = .ok (.ifCond .ne 9, 3)) (fun hc => ?_) (fun hc => ?_)
  · have H := H1 hc
    refine r_aloadn h (q := 0) 0 rfl (by decide +kernel : decode cX7_takeSign 14 = .ok (.aload_n 0, 1)) ?_
    obtain ⟨P2, hSP2, H⟩ := H
    refine r_callV h (as := []) (S := []) (b := b) m_Tape_37 hSP2 (by decide) (Nat.le_refl _) rfl hb rfl (Nat.le_of_ble_eq_true rfl) (by decide +kernel : decode cX7_takeSign 15 = .ok (.invokevirtual 37, 3)) ?_
    rintro _ _ M2 ⟨rfl, rfl, hP⟩
    have H := H M2 hP
    show K NN RRC _ _ [] _
    refine r_iconst h (v := 1) (by decide +kernel : decode cX7_takeSign 18 = .ok (.iconst 1, 1)) ?_
    exact r_zret h rfl (by decide) (by decide +kernel : decode cX7_takeSign 19 = .ok (.ireturn, 1)) rfl ⟨rfl, _, rfl, H⟩
  · have H := H2 hc
    refine r_aloadn h (q := 0) 0 rfl (by decide +kernel : decode cX7_takeSign 8 = .ok (.aload_n 0, 1)) ?_
    refine r_iconst h (v := 1) (by decide +kernel : decode cX7_takeSign 9 = .ok (.iconst 1, 1)) ?_
    obtain ⟨P3, hSP3, H⟩ := H
    refine r_callV h (as := [vi 1]) (S := []) (b := b) m_Tape_84 hSP3 (by decide) (Nat.le_refl _) rfl hb rfl (Nat.le_of_ble_eq_true rfl) (by decide +kernel : decode cX7_takeSign 10 = .ok (.invokevirtual 84, 3)) ?_
    rintro _ _ M3 ⟨rfl, r3, rfl, hP⟩
    have H := H r3 M3 hP
    show K NN RRC _ _ [vi r3] _
    exact r_zret h rfl H.1 (by decide +kernel : decode cX7_takeSign 13 = .ok (.ireturn, 1)) rfl ⟨rfl, _, rfl, H.2⟩
theorem W_Tape_takeSign (b : Nat) (hb : At shC NN b (.inl 6)) (x1 : Int) (M : Mm) {P : Int → Mm → Prop} (H : ∃ P1 : Int → Mm → Prop, S_Tape_isSign b x1 M P1 ∧ ∀ (r1 : Int) (M1 : Mm), P1 r1 M1 → (rng r1) ∧ (r1 ≠ 0 → (∃ P2 : Mm → Prop, S_Tape_advance b M1 P2 ∧ ∀ M2 : Mm, P2 M2 → P 1 M2)) ∧ (r1 = 0 → (∃ P3 : Int → Mm → Prop, S_Tape_fail b 1 M1 P3 ∧ ∀ (r3 : Int) (M3 : Mm), P3 r3 M3 → (r3 = 0 ∨ r3 = 1) ∧ P r3 M3))) : S_Tape_takeSign b x1 M P := e_Tape_takeSign b x1 M (fun _ h => w_Tape_takeSign_0 h b hb x1 M H)
set_option maxHeartbeats 4000000 in
set_option maxRecDepth 100000 in
theorem w_Tape_takeWord_0 {P : Int → Mm → Prop} {K : Nat → Rr → Nat → List (Nat × AV) → List AV → Mm → Prop} (h : EK shC yX7_takeWord cX7_takeWord 2 (some .boolean) 9 NN NN (QI RRC P) K) (b : Nat) (hb : At shC NN b (.inl 6)) (k1 : Nat) (hk1 : k1 < 27) (M : Mm)
    (H : ∃ k101 : Nat, M b 6 = (k101 : Int) + 1 ∧ k101 < 27 ∧ (k101 = k1 → (∃ P1 : Mm → Prop, S_Tape_advance b M P1 ∧ ∀ M1 : Mm, P1 M1 → P 1 M1)) ∧ (k101 ≠ k1 → (∃ P2 : Int → Mm → Prop, S_Tape_fail b 1 M P2 ∧ ∀ (r2 : Int) (M2 : Mm), P2 r2 M2 → (r2 = 0 ∨ r2 = 1) ∧ P r2 M2))) :
    K NN RRC 0 [(0, vr b), (1, ve k1)] [] M := by
  refine r_aloadn h (q := 0) 0 rfl (by decide +kernel : decode cX7_takeWord 0 = .ok (.aload_n 0, 1)) ?_
  obtain ⟨k101, htk101, hlk101, H⟩ := H
  refine r_getE h (r := k101) f_Tape_21 hb htk101 (by decide +kernel : decode cX7_takeWord 1 = .ok (.getfield 21, 3)) ?_
  refine r_aloadEn h (q := 1) 1 rfl (by decide +kernel : decode cX7_takeWord 4 = .ok (.aload_n 1, 1)) ?_
  obtain ⟨H1, H2⟩ := H
  refine r_acmp_eq h 14 hlk101 hk1 (by decide) (by decide +kernel : decode cX7_takeWord 5 = .ok (.if_acmp .eq 9, 3)) (fun hc => ?_) (fun hc => ?_)
  · have H := H1 hc
    refine r_aloadn h (q := 0) 0 rfl (by decide +kernel : decode cX7_takeWord 14 = .ok (.aload_n 0, 1)) ?_
    obtain ⟨P1, hSP1, H⟩ := H
    refine r_callV h (as := []) (S := []) (b := b) m_Tape_37 hSP1 (by decide) (Nat.le_refl _) rfl hb rfl (Nat.le_of_ble_eq_true rfl) (by decide +kernel : decode cX7_takeWord 15 = .ok (.invokevirtual 37, 3)) ?_
    rintro _ _ M1 ⟨rfl, rfl, hP⟩
    have H := H M1 hP
    show K NN RRC _ _ [] _
    refine r_iconst h (v := 1) (by decide +kernel : decode cX7_takeWord 18 = .ok (.iconst 1, 1)) ?_
    exact r_zret h rfl (by decide) (by decide +kernel : decode cX7_takeWord 19 = .ok (.ireturn, 1)) rfl ⟨rfl, _, rfl, H⟩
  · have H := H2 hc
    refine r_aloadn h (q := 0) 0 rfl (by decide +kernel : decode cX7_takeWord 8 = .ok (.aload_n 0, 1)) ?_
    refine r_iconst h (v := 1) (by decide +kernel : decode cX7_takeWord 9 = .ok (.iconst 1, 1)) ?_
    obtain ⟨P2, hSP2, H⟩ := H
    refine r_callV h (as := [vi 1]) (S := []) (b := b) m_Tape_84 hSP2 (by decide) (Nat.le_refl _) rfl hb rfl (Nat.le_of_ble_eq_true rfl) (by decide +kernel : decode cX7_takeWord 10 = .ok (.invokevirtual 84, 3)) ?_
    rintro _ _ M2 ⟨rfl, r2, rfl, hP⟩
    have H := H r2 M2 hP
    show K NN RRC _ _ [vi r2] _
    exact r_zret h rfl H.1 (by decide +kernel : decode cX7_takeWord 13 = .ok (.ireturn, 1)) rfl ⟨rfl, _, rfl, H.2⟩
theorem W_Tape_takeWord (b : Nat) (hb : At shC NN b (.inl 6)) (k1 : Nat) (hk1 : k1 < 27) (M : Mm) {P : Int → Mm → Prop} (H : ∃ k101 : Nat, M b 6 = (k101 : Int) + 1 ∧ k101 < 27 ∧ (k101 = k1 → (∃ P1 : Mm → Prop, S_Tape_advance b M P1 ∧ ∀ M1 : Mm, P1 M1 → P 1 M1)) ∧ (k101 ≠ k1 → (∃ P2 : Int → Mm → Prop, S_Tape_fail b 1 M P2 ∧ ∀ (r2 : Int) (M2 : Mm), P2 r2 M2 → (r2 = 0 ∨ r2 = 1) ∧ P r2 M2))) : S_Tape_takeWord b k1 M P := e_Tape_takeWord b k1 M (fun _ h => w_Tape_takeWord_0 h b hb k1 hk1 M H)
set_option maxHeartbeats 4000000 in
set_option maxRecDepth 100000 in
theorem w_Tape_takeNumber_0 {P : Int → Mm → Prop} {K : Nat → Rr → Nat → List (Nat × AV) → List AV → Mm → Prop} (h : EK shC yX7_takeNumber cX7_takeNumber 3 (some .boolean) 9 NN NN (QI RRC P) K) (b : Nat) (hb : At shC NN b (.inl 6)) (x1 : Int) (x2 : Int) (M : Mm)
    (H : (rng (M b 5)) ∧ ((M b 5) = 3 → ((rng (M b 8)) ∧ (rng x1) ∧ ((M b 8) < x1 → (∃ P1 : Int → Mm → Prop, S_Tape_fail b 4 M P1 ∧ ∀ (r1 : Int) (M1 : Mm), P1 r1 M1 → (r1 = 0 ∨ r1 = 1) ∧ P r1 M1)) ∧ (¬ ((M b 8) < x1) → ((rng (M b 8)) ∧ (rng x2) ∧ ((M b 8) ≤ x2 → (∀ M2 : Mm, M2 = (upr M b (up1 (M b) 9 (M b 8))) → ∃ P3 : Mm → Prop, S_Tape_advance b M2 P3 ∧ ∀ M3 : Mm, P3 M3 → P 1 M3)) ∧ (¬ ((M b 8) ≤ x2) → (∃ P4 : Int → Mm → Prop, S_Tape_fail b 4 M P4 ∧ ∀ (r3 : Int) (M4 : Mm), P4 r3 M4 → (r3 = 0 ∨ r3 = 1) ∧ P r3 M4)))))) ∧ ((M b 5) ≠ 3 → (∃ P5 : Int → Mm → Prop, S_Tape_fail b 1 M P5 ∧ ∀ (r4 : Int) (M5 : Mm), P5 r4 M5 → (r4 = 0 ∨ r4 = 1) ∧ P r4 M5))) :
    K NN RRC 0 [(0, vr b), (1, vi x1), (2, vi x2)] [] M := by
  refine r_aloadn h (q := 0) 0 rfl (by decide +kernel : decode cX7_takeNumber 0 = .ok (.aload_n 0, 1)) ?_
  refine r_getI h f_Tape_43 hb (by decide +kernel : decode cX7_takeNumber 1 = .ok (.getfield 43, 3)) ?_
  refine r_iconst h (v := 3) (by decide +kernel : decode cX7_takeNumber 4 = .ok (.iconst 3, 1)) ?_
  obtain ⟨g1, H⟩ := H
  obtain ⟨H1, H2⟩ := H
  refine r_icmp_eq h 14 g1 (by decide) (by decide) (by decide +kernel : decode cX7_takeNumber 5 = .ok (.if_icmp .eq 9, 3)) (fun hc => ?_) (fun hc => ?_)
  · have H := H1 hc
    refine r_aloadn h (q := 0) 0 rfl (by decide +kernel : decode cX7_takeNumber 14 = .ok (.aload_n 0, 1)) ?_
    refine r_getI h f_Tape_73 hb (by decide +kernel : decode cX7_takeNumber 15 = .ok (.getfield 73, 3)) ?_
    refine r_iloadn h (q := 1) 1 rfl (by decide +kernel : decode cX7_takeNumber 18 = .ok (.iload_n 1, 1)) ?_
    obtain ⟨g1, g2, H⟩ := H
    obtain ⟨H1, H2⟩ := H
    refine r_icmp_lt h 30 g1 g2 (by decide) (by decide +kernel : decode cX7_takeNumber 19 = .ok (.if_icmp .lt 11, 3)) (fun hc => ?_) (fun hc => ?_)
    · have H := H1 hc
      refine r_aloadn h (q := 0) 0 rfl (by decide +kernel : decode cX7_takeNumber 30 = .ok (.aload_n 0, 1)) ?_
      refine r_iconst h (v := 4) (by decide +kernel : decode cX7_takeNumber 31 = .ok (.iconst 4, 1)) ?_
      obtain ⟨P1, hSP1, H⟩ := H
      refine r_callV h (as := [vi 4]) (S := []) (b := b) m_Tape_84 hSP1 (by decide) (Nat.le_refl _) rfl hb rfl (Nat.le_of_ble_eq_true rfl) (by decide +kernel : decode cX7_takeNumber 32 = .ok (.invokevirtual 84, 3)) ?_
      rintro _ _ M1 ⟨rfl, r1, rfl, hP⟩
      have H := H r1 M1 hP
      show K NN RRC _ _ [vi r1] _
      exact r_zret h rfl H.1 (by decide +kernel : decode cX7_takeNumber 35 = .ok (.ireturn, 1)) rfl ⟨rfl, _, rfl, H.2⟩
    · have H := H2 hc
      refine r_aloadn h (q := 0) 0 rfl (by decide +kernel : decode cX7_takeNumber 22 = .ok (.aload_n 0, 1)) ?_
      refine r_getI h f_Tape_73 hb (by decide +kernel : decode cX7_takeNumber 23 = .ok (.getfield 73, 3)) ?_
      refine r_iloadn h (q := 2) 2 rfl (by decide +kernel : decode cX7_takeNumber 26 = .ok (.iload_n 2, 1)) ?_
      obtain ⟨g1, g2, H⟩ := H
      obtain ⟨H1, H2⟩ := H
      refine r_icmp_le h 36 g1 g2 (by decide) (by decide +kernel : decode cX7_takeNumber 27 = .ok (.if_icmp .le 9, 3)) (fun hc => ?_) (fun hc => ?_)
      · have H := H1 hc
        refine r_aloadn h (q := 0) 0 rfl (by decide +kernel : decode cX7_takeNumber 36 = .ok (.aload_n 0, 1)) ?_
        refine r_aloadn h (q := 0) 0 rfl (by decide +kernel : decode cX7_takeNumber 37 = .ok (.aload_n 0, 1)) ?_
        refine r_getI h f_Tape_73 hb (by decide +kernel : decode cX7_takeNumber 38 = .ok (.getfield 73, 3)) ?_
        refine r_putI h f_Tape_87 hb rfl rfl (by decide +kernel : decode cX7_takeNumber 41 = .ok (.putfield 87, 3)) ?_
        have H := H _ rfl
        revert H
        generalize (upr M b (up1 (M b) 9 (M b 8))) = M2
        intro H
        refine r_aloadn h (q := 0) 0 rfl (by decide +kernel : decode cX7_takeNumber 44 = .ok (.aload_n 0, 1)) ?_
        obtain ⟨P3, hSP3, H⟩ := H
        refine r_callV h (as := []) (S := []) (b := b) m_Tape_37 hSP3 (by decide) (Nat.le_refl _) rfl hb rfl (Nat.le_of_ble_eq_true rfl) (by decide +kernel : decode cX7_takeNumber 45 = .ok (.invokevirtual 37, 3)) ?_
        rintro _ _ M3 ⟨rfl, rfl, hP⟩
        have H := H M3 hP
        show K NN RRC _ _ [] _
        refine r_iconst h (v := 1) (by decide +kernel : decode cX7_takeNumber 48 = .ok (.iconst 1, 1)) ?_
        exact r_zret h rfl (by decide) (by decide +kernel : decode cX7_takeNumber 49 = .ok (.ireturn, 1)) rfl ⟨rfl, _, rfl, H⟩
      · have H := H2 hc
        refine r_aloadn h (q := 0) 0 rfl (by decide +kernel : decode cX7_takeNumber 30 = .ok (.aload_n 0, 1)) ?_
        refine r_iconst h (v := 4) (by decide +kernel : decode cX7_takeNumber 31 = .ok (.iconst 4, 1)) ?_
        obtain ⟨P4, hSP4, H⟩ := H
        refine r_callV h (as := [vi 4]) (S := []) (b := b) m_Tape_84 hSP4 (by decide) (Nat.le_refl _) rfl hb rfl (Nat.le_of_ble_eq_true rfl) (by decide +kernel : decode cX7_takeNumber 32 = .ok (.invokevirtual 84, 3)) ?_
        rintro _ _ M4 ⟨rfl, r3, rfl, hP⟩
        have H := H r3 M4 hP
        show K NN RRC _ _ [vi r3] _
        exact r_zret h rfl H.1 (by decide +kernel : decode cX7_takeNumber 35 = .ok (.ireturn, 1)) rfl ⟨rfl, _, rfl, H.2⟩
  · have H := H2 hc
    refine r_aloadn h (q := 0) 0 rfl (by decide +kernel : decode cX7_takeNumber 8 = .ok (.aload_n 0, 1)) ?_
    refine r_iconst h (v := 1) (by decide +kernel : decode cX7_takeNumber 9 = .ok (.iconst 1, 1)) ?_
    obtain ⟨P5, hSP5, H⟩ := H
    refine r_callV h (as := [vi 1]) (S := []) (b := b) m_Tape_84 hSP5 (by decide) (Nat.le_refl _) rfl hb rfl (Nat.le_of_ble_eq_true rfl) (by decide +kernel : decode cX7_takeNumber 10 = .ok (.invokevirtual 84, 3)) ?_
    rintro _ _ M5 ⟨rfl, r4, rfl, hP⟩
    have H := H r4 M5 hP
    show K NN RRC _ _ [vi r4] _
    exact r_zret h rfl H.1 (by decide +kernel : decode cX7_takeNumber 13 = .ok (.ireturn, 1)) rfl ⟨rfl, _, rfl, H.2⟩
theorem W_Tape_takeNumber (b : Nat) (hb : At shC NN b (.inl 6)) (x1 : Int) (x2 : Int) (M : Mm) {P : Int → Mm → Prop} (H : (rng (M b 5)) ∧ ((M b 5) = 3 → ((rng (M b 8)) ∧ (rng x1) ∧ ((M b 8) < x1 → (∃ P1 : Int → Mm → Prop, S_Tape_fail b 4 M P1 ∧ ∀ (r1 : Int) (M1 : Mm), P1 r1 M1 → (r1 = 0 ∨ r1 = 1) ∧ P r1 M1)) ∧ (¬ ((M b 8) < x1) → ((rng (M b 8)) ∧ (rng x2) ∧ ((M b 8) ≤ x2 → (∀ M2 : Mm, M2 = (upr M b (up1 (M b) 9 (M b 8))) → ∃ P3 : Mm → Prop, S_Tape_advance b M2 P3 ∧ ∀ M3 : Mm, P3 M3 → P 1 M3)) ∧ (¬ ((M b 8) ≤ x2) → (∃ P4 : Int → Mm → Prop, S_Tape_fail b 4 M P4 ∧ ∀ (r3 : Int) (M4 : Mm), P4 r3 M4 → (r3 = 0 ∨ r3 = 1) ∧ P r3 M4)))))) ∧ ((M b 5) ≠ 3 → (∃ P5 : Int → Mm → Prop, S_Tape_fail b 1 M P5 ∧ ∀ (r4 : Int) (M5 : Mm), P5 r4 M5 → (r4 = 0 ∨ r4 = 1) ∧ P r4 M5))) : S_Tape_takeNumber b x1 x2 M P := e_Tape_takeNumber b x1 x2 M (fun _ h => w_Tape_takeNumber_0 h b hb x1 x2 M H)
