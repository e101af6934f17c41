set_option maxHeartbeats 4000000 in
set_option maxRecDepth 100000 in
theorem w_Law_forget_0 {P : Mm → Prop} {K : Nat → Rr → Nat → List (Nat × AV) → List AV → Mm → Prop} (h : EK shC yX1_forget cX1_forget 1 none 1 NN NN (QV RRC P) K) (b : Nat) (hb : At shC NN b (.inl 0)) (M : Mm)
    (H : ∀ M1 : Mm, M1 = (upr M b (up1 (M b) 3 0)) → P M1) :
    K NN RRC 0 [(0, vr b)] [] M := by
  refine r_aloadn h (q := 0) 0 rfl (by decide +kernel : decode cX1_forget 0 = .ok (.aload_n 0, 1)) ?_
  refine r_iconst h (v := 0) (by decide +kernel : decode cX1_forget 1 = .ok (.iconst 0, 1)) ?_
  refine r_putI h f_Law_22 hb rfl rfl (by decide +kernel : decode cX1_forget 2 = .ok (.putfield 22, 3)) ?_
  have H := H _ rfl
  revert H
  generalize (upr M b (up1 (M b) 3 0)) = M1
  intro H
  exact r_vret h rfl (by decide +kernel : decode cX1_forget 5 = .ok (.return_, 1)) rfl ⟨rfl, rfl, H⟩
theorem W_Law_forget (b : Nat) (hb : At shC NN b (.inl 0)) (M : Mm) {P : Mm → Prop} (H : ∀ M1 : Mm, M1 = (upr M b (up1 (M b) 3 0)) → P M1) : S_Law_forget b M P := e_Law_forget b M (fun _ h => w_Law_forget_0 h b hb M H)
set_option maxHeartbeats 4000000 in
set_option maxRecDepth 100000 in
theorem w_Law_isTold_0 {P : Int → Mm → Prop} {K : Nat → Rr → Nat → List (Nat × AV) → List AV → Mm → Prop} (h : EK shC yX1_isTold cX1_isTold 1 (some .boolean) 1 NN NN (QI RRC P) K) (b : Nat) (hb : At shC NN b (.inl 0)) (M : Mm)
    (H : (rng (M b 3)) ∧ ((M b 3) ≤ 0 → (P 0 M)) ∧ (¬ ((M b 3) ≤ 0) → (P 1 M))) :
    K NN RRC 0 [(0, vr b)] [] M := by
  refine r_aloadn h (q := 0) 0 rfl (by decide +kernel : decode cX1_isTold 0 = .ok (.aload_n 0, 1)) ?_
  refine r_getI h f_Law_22 hb (by decide +kernel : decode cX1_isTold 1 = .ok (.getfield 22, 3)) ?_
  obtain ⟨g1, H⟩ := H
  obtain ⟨H1, H2⟩ := H
  refine r_if_le h 11 g1 (by decide) (by decide +kernel : decode cX1_isTold 4 = .ok (.ifCond .le 7, 3)) (fun hc => ?_) (fun hc => ?_)
  · have H := H1 hc
    refine r_iconst h (v := 0) (by decide +kernel : decode cX1_isTold 11 = .ok (.iconst 0, 1)) ?_
    exact r_zret h rfl (by decide) (by decide +kernel : decode cX1_isTold 12 = .ok (.ireturn, 1)) rfl ⟨rfl, _, rfl, H⟩
  · have H := H2 hc
    refine r_iconst h (v := 1) (by decide +kernel : decode cX1_isTold 7 = .ok (.iconst 1, 1)) ?_
    refine r_goto h 12 (by decide) (by decide +kernel : decode cX1_isTold 8 = .ok (.goto 4, 3)) ?_
    exact r_zret h rfl (by decide) (by decide +kernel : decode cX1_isTold 12 = .ok (.ireturn, 1)) rfl ⟨rfl, _, rfl, H⟩
theorem W_Law_isTold (b : Nat) (hb : At shC NN b (.inl 0)) (M : Mm) {P : Int → Mm → Prop} (H : (rng (M b 3)) ∧ ((M b 3) ≤ 0 → (P 0 M)) ∧ (¬ ((M b 3) ≤ 0) → (P 1 M))) : S_Law_isTold b M P := e_Law_isTold b M (fun _ h => w_Law_isTold_0 h b hb M H)
set_option maxHeartbeats 4000000 in
set_option maxRecDepth 100000 in
theorem w_Law_add_0 {P : Mm → Prop} {K : Nat → Rr → Nat → List (Nat × AV) → List AV → Mm → Prop} (h : EK shC yX1_add cX1_add 2 none 1 NN NN (QV RRC P) K) (b : Nat) (hb : At shC NN b (.inl 0)) (x1 : Int) (M : Mm)
    (H : (rng (M b 3)) ∧ (1000 ≤ (M b 3) → (P M)) ∧ (¬ (1000 ≤ (M b 3)) → ((0 ≤ (M b 3) ∧ (M b 3) < 1000) ∧ ∀ M1 : Mm, M1 = (upr M (b + 1) (up1 (M (b + 1)) (M b 3).toNat x1)) → ∀ M2 : Mm, M2 = (upr M1 b (up1 (M1 b) 3 ((M1 b 3) + 1))) → P M2))) :
    K NN RRC 0 [(0, vr b), (1, vi x1)] [] M := by
  refine r_aloadn h (q := 0) 0 rfl (by decide +kernel : decode cX1_add 0 = .ok (.aload_n 0, 1)) ?_
  refine r_getI h f_Law_22 hb (by decide +kernel : decode cX1_add 1 = .ok (.getfield 22, 3)) ?_
  refine r_sipush h (v := 1000) (by decide) (by decide +kernel : decode cX1_add 4 = .ok (.sipush 1000, 3)) ?_
  obtain ⟨g1, H⟩ := H
  obtain ⟨H1, H2⟩ := H
  refine r_icmp_ge h 30 g1 (by decide) (by decide) (by decide +kernel : decode cX1_add 7 = .ok (.if_icmp .ge 23, 3)) (fun hc => ?_) (fun hc => ?_)
  · have H := H1 hc
    exact r_vret h rfl (by decide +kernel : decode cX1_add 30 = .ok (.return_, 1)) rfl ⟨rfl, rfl, H⟩
  · have H := H2 hc
    refine r_aloadn h (q := 0) 0 rfl (by decide +kernel : decode cX1_add 10 = .ok (.aload_n 0, 1)) ?_
    refine r_getR h (r := (b + 1)) f_Law_11 hb (rr_0_1 hb) (by omega) (by decide +kernel : decode cX1_add 11 = .ok (.getfield 11, 3)) ?_
    refine r_aloadn h (q := 0) 0 rfl (by decide +kernel : decode cX1_add 14 = .ok (.aload_n 0, 1)) ?_
    refine r_getI h f_Law_22 hb (by decide +kernel : decode cX1_add 15 = .ok (.getfield 22, 3)) ?_
    refine r_iloadn h (q := 1) 1 rfl (by decide +kernel : decode cX1_add 18 = .ok (.iload_n 1, 1)) ?_
    obtain ⟨g1, H⟩ := H
    refine r_iast h (M b 3).toNat rfl (at_0_1 hb) g1 (by decide) (by decide +kernel : decode cX1_add 19 = .ok (.iastore, 1)) ?_
    have H := H _ rfl
    revert H
    generalize (upr M (b + 1) (up1 (M (b + 1)) (M b 3).toNat x1)) = M1
    intro H
    refine r_aloadn h (q := 0) 0 rfl (by decide +kernel : decode cX1_add 20 = .ok (.aload_n 0, 1)) ?_
    refine r_dup h rfl (by decide +kernel : decode cX1_add 21 = .ok (.dup, 1)) ?_
    refine r_getI h f_Law_22 hb (by decide +kernel : decode cX1_add 22 = .ok (.getfield 22, 3)) ?_
    refine r_iconst h (v := 1) (by decide +kernel : decode cX1_add 25 = .ok (.iconst 1, 1)) ?_
    refine r_iadd h (by decide +kernel : decode cX1_add 26 = .ok (.iadd, 1)) ?_
    refine r_putI h f_Law_22 hb rfl rfl (by decide +kernel : decode cX1_add 27 = .ok (.putfield 22, 3)) ?_
    have H := H _ rfl
    revert H
    generalize (upr M1 b (up1 (M1 b) 3 ((M1 b 3) + 1))) = M2
    intro H
    exact r_vret h rfl (by decide +kernel : decode cX1_add 30 = .ok (.return_, 1)) rfl ⟨rfl, rfl, H⟩
theorem W_Law_add (b : Nat) (hb : At shC NN b (.inl 0)) (x1 : Int) (M : Mm) {P : Mm → Prop} (H : (rng (M b 3)) ∧ (1000 ≤ (M b 3) → (P M)) ∧ (¬ (1000 ≤ (M b 3)) → ((0 ≤ (M b 3) ∧ (M b 3) < 1000) ∧ ∀ M1 : Mm, M1 = (upr M (b + 1) (up1 (M (b + 1)) (M b 3).toNat x1)) → ∀ M2 : Mm, M2 = (upr M1 b (up1 (M1 b) 3 ((M1 b 3) + 1))) → P M2))) : S_Law_add b x1 M P := e_Law_add b x1 M (fun _ h => w_Law_add_0 h b hb x1 M H)
set_option maxHeartbeats 4000000 in
set_option maxRecDepth 100000 in
theorem w_Law_leafValue_0 {P : Int → Mm → Prop} {K : Nat → Rr → Nat → List (Nat × AV) → List AV → Mm → Prop} (h : EK shC yX1_leafValue cX1_leafValue 6 (some .int) 1 NN NN (QI RRC P) K) (x0 : Int) (x1 : Int) (x2 : Int) (x3 : Int) (x4 : Int) (x5 : Int) (M : Mm)
    (H : (rng x0) ∧ (x0 = (-13) → (P x5 M)) ∧ (x0 = (-12) → (P x4 M)) ∧ (x0 = (-11) → (P x3 M)) ∧ (x0 = (-10) → (P x2 M)) ∧ (x0 = (-9) → (P x1 M)) ∧ (x0 ≠ (-13) ∧ x0 ≠ (-12) ∧ x0 ≠ (-11) ∧ x0 ≠ (-10) ∧ x0 ≠ (-9) → (P x0 M))) :
    K NN RRC 0 [(0, vi x0), (1, vi x1), (2, vi x2), (3, vi x3), (4, vi x4), (5, vi x5)] [] M := by
  refine r_iloadn h (q := 0) 0 rfl (by decide +kernel : decode cX1_leafValue 0 = .ok (.iload_n 0, 1)) ?_
  obtain ⟨g1, H⟩ := H
  obtain ⟨H1, H⟩ := H
  by_cases hk0 : x0 = (-13)
  · have H := H1 hk0
    refine r_tabIn h 45 g1 (by rw [hk0]; decide) (by rw [hk0]; rfl) (by decide) (by decide +kernel : decode cX1_leafValue 1 = .ok (.tableswitch 47 (-13) (-9) #[44, 41, 39, 37, 35], 35)) ?_
    refine r_iload h 5 rfl (by decide +kernel : decode cX1_leafValue 45 = .ok (.iload 5, 2)) ?_
    exact r_iret h rfl (by decide +kernel : decode cX1_leafValue 47 = .ok (.ireturn, 1)) rfl ⟨rfl, _, rfl, H⟩
  obtain ⟨H1, H⟩ := H
  by_cases hk1 : x0 = (-12)
  · have H := H1 hk1
    refine r_tabIn h 42 g1 (by rw [hk1]; decide) (by rw [hk1]; rfl) (by decide) (by decide +kernel : decode cX1_leafValue 1 = .ok (.tableswitch 47 (-13) (-9) #[44, 41, 39, 37, 35], 35)) ?_
    refine r_iload h 4 rfl (by decide +kernel : decode cX1_leafValue 42 = .ok (.iload 4, 2)) ?_
    exact r_iret h rfl (by decide +kernel : decode cX1_leafValue 44 = .ok (.ireturn, 1)) rfl ⟨rfl, _, rfl, H⟩
  obtain ⟨H1, H⟩ := H
  by_cases hk2 : x0 = (-11)
  · have H := H1 hk2
    refine r_tabIn h 40 g1 (by rw [hk2]; decide) (by rw [hk2]; rfl) (by decide) (by decide +kernel : decode cX1_leafValue 1 = .ok (.tableswitch 47 (-13) (-9) #[44, 41, 39, 37, 35], 35)) ?_
    refine r_iloadn h (q := 3) 3 rfl (by decide +kernel : decode cX1_leafValue 40 = .ok (.iload_n 3, 1)) ?_
    exact r_iret h rfl (by decide +kernel : decode cX1_leafValue 41 = .ok (.ireturn, 1)) rfl ⟨rfl, _, rfl, H⟩
  obtain ⟨H1, H⟩ := H
  by_cases hk3 : x0 = (-10)
  · have H := H1 hk3
    refine r_tabIn h 38 g1 (by rw [hk3]; decide) (by rw [hk3]; rfl) (by decide) (by decide +kernel : decode cX1_leafValue 1 = .ok (.tableswitch 47 (-13) (-9) #[44, 41, 39, 37, 35], 35)) ?_
    refine r_iloadn h (q := 2) 2 rfl (by decide +kernel : decode cX1_leafValue 38 = .ok (.iload_n 2, 1)) ?_
    exact r_iret h rfl (by decide +kernel : decode cX1_leafValue 39 = .ok (.ireturn, 1)) rfl ⟨rfl, _, rfl, H⟩
  obtain ⟨H1, H⟩ := H
  by_cases hk4 : x0 = (-9)
  · have H := H1 hk4
    refine r_tabIn h 36 g1 (by rw [hk4]; decide) (by rw [hk4]; rfl) (by decide) (by decide +kernel : decode cX1_leafValue 1 = .ok (.tableswitch 47 (-13) (-9) #[44, 41, 39, 37, 35], 35)) ?_
    refine r_iloadn h (q := 1) 1 rfl (by decide +kernel : decode cX1_leafValue 36 = .ok (.iload_n 1, 1)) ?_
    exact r_iret h rfl (by decide +kernel : decode cX1_leafValue 37 = .ok (.ireturn, 1)) rfl ⟨rfl, _, rfl, H⟩
  have H := H ⟨hk0, hk1, hk2, hk3, hk4⟩
  refine r_tabOut h 48 g1 (tout_m13_m9 hk0 hk1 hk2 hk3 hk4) (by decide) (by decide +kernel : decode cX1_leafValue 1 = .ok (.tableswitch 47 (-13) (-9) #[44, 41, 39, 37, 35], 35)) ?_
  refine r_iloadn h (q := 0) 0 rfl (by decide +kernel : decode cX1_leafValue 48 = .ok (.iload_n 0, 1)) ?_
  exact r_iret h rfl (by decide +kernel : decode cX1_leafValue 49 = .ok (.ireturn, 1)) rfl ⟨rfl, _, rfl, H⟩
theorem W_Law_leafValue (x0 : Int) (x1 : Int) (x2 : Int) (x3 : Int) (x4 : Int) (x5 : Int) (M : Mm) {P : Int → Mm → Prop} (H : (rng x0) ∧ (x0 = (-13) → (P x5 M)) ∧ (x0 = (-12) → (P x4 M)) ∧ (x0 = (-11) → (P x3 M)) ∧ (x0 = (-10) → (P x2 M)) ∧ (x0 = (-9) → (P x1 M)) ∧ (x0 ≠ (-13) ∧ x0 ≠ (-12) ∧ x0 ≠ (-11) ∧ x0 ≠ (-10) ∧ x0 ≠ (-9) → (P x0 M))) : S_Law_leafValue x0 x1 x2 x3 x4 x5 M P := e_Law_leafValue x0 x1 x2 x3 x4 x5 M (fun _ h => w_Law_leafValue_0 h x0 x1 x2 x3 x4 x5 M H)
set_option maxHeartbeats 4000000 in
set_option maxRecDepth 100000 in
theorem w_Law_joined_0 {P : Int → Mm → Prop} {K : Nat → Rr → Nat → List (Nat × AV) → List AV → Mm → Prop} (h : EK shC yX1_joined cX1_joined 3 (some .int) 1 NN NN (QI RRC P) K) (x0 : Int) (x1 : Int) (x2 : Int) (M : Mm)
    (H : (rng x0) ∧ (x0 = (-7) → ((rng x1) ∧ (x1 = 0 → (P 0 M)) ∧ (x1 ≠ 0 → ((rng x2) ∧ (x2 = 0 → (P 0 M)) ∧ (x2 ≠ 0 → (P 1 M)))))) ∧ (x0 = (-6) → ((rng x1) ∧ (rng x2) ∧ (x1 ≠ x2 → (P 0 M)) ∧ (x1 = x2 → (P 1 M)))) ∧ (x0 = (-5) → ((rng x1) ∧ (rng x2) ∧ (x2 ≤ x1 → (P 0 M)) ∧ (¬ (x2 ≤ x1) → (P 1 M)))) ∧ (x0 = (-4) → (P (subW x1 x2) M)) ∧ (x0 = (-3) → (P (addW x1 x2) M)) ∧ (x0 = (-2) → (P (mulW x1 x2) M)) ∧ (x0 ≠ (-7) ∧ x0 ≠ (-6) ∧ x0 ≠ (-5) ∧ x0 ≠ (-4) ∧ x0 ≠ (-3) ∧ x0 ≠ (-2) → ((rng x1) ∧ (x1 ≠ 0 → (P 1 M)) ∧ (x1 = 0 → ((rng x2) ∧ (x2 = 0 → (P 0 M)) ∧ (x2 ≠ 0 → (P 1 M))))))) :
    K NN RRC 0 [(0, vi x0), (1, vi x1), (2, vi x2)] [] M := by
  refine r_iloadn h (q := 0) 0 rfl (by decide +kernel : decode cX1_joined 0 = .ok (.iload_n 0, 1)) ?_
  obtain ⟨g1, H⟩ := H
  obtain ⟨H1, H⟩ := H
  by_cases hk0 : x0 = (-7)
  · have H := H1 hk0
    refine r_tabIn h 74 g1 (by rw [hk0]; decide) (by rw [hk0]; rfl) (by decide) (by decide +kernel : decode cX1_joined 1 = .ok (.tableswitch 87 (-7) (-2) #[73, 62, 51, 47, 43, 39], 39)) ?_
    refine r_iloadn h (q := 1) 1 rfl (by decide +kernel : decode cX1_joined 74 = .ok (.iload_n 1, 1)) ?_
    obtain ⟨g1, H⟩ := H
    obtain ⟨H1, H2⟩ := H
    refine r_if_eq h 86 g1 (by decide) (by decide +kernel : decode cX1_joined 75 = .ok (.ifCond .eq 11, 3)) (fun hc => ?_) (fun hc => ?_)
    · have H := H1 hc
      refine r_iconst h (v := 0) (by decide +kernel : decode cX1_joined 86 = .ok (.iconst 0, 1)) ?_
      exact r_iret h rfl (by decide +kernel : decode cX1_joined 87 = .ok (.ireturn, 1)) rfl ⟨rfl, _, rfl, H⟩
    · have H := H2 hc
      refine r_iloadn h (q := 2) 2 rfl (by decide +kernel : decode cX1_joined 78 = .ok (.iload_n 2, 1)) ?_
      obtain ⟨g1, H⟩ := H
      obtain ⟨H1, H2⟩ := H
      refine r_if_eq h 86 g1 (by decide) (by decide +kernel : decode cX1_joined 79 = .ok (.ifCond .eq 7, 3)) (fun hc => ?_) (fun hc => ?_)
      · have H := H1 hc
        refine r_iconst h (v := 0) (by decide +kernel : decode cX1_joined 86 = .ok (.iconst 0, 1)) ?_
        exact r_iret h rfl (by decide +kernel : decode cX1_joined 87 = .ok (.ireturn, 1)) rfl ⟨rfl, _, rfl, H⟩
      · have H := H2 hc
        refine r_iconst h (v := 1) (by decide +kernel : decode cX1_joined 82 = .ok (.iconst 1, 1)) ?_
        refine r_goto h 87 (by decide) (by decide +kernel : decode cX1_joined 83 = .ok (.goto 4, 3)) ?_
        exact r_iret h rfl (by decide +kernel : decode cX1_joined 87 = .ok (.ireturn, 1)) rfl ⟨rfl, _, rfl, H⟩
  obtain ⟨H1, H⟩ := H
  by_cases hk1 : x0 = (-6)
  · have H := H1 hk1
    refine r_tabIn h 63 g1 (by rw [hk1]; decide) (by rw [hk1]; rfl) (by decide) (by decide +kernel : decode cX1_joined 1 = .ok (.tableswitch 87 (-7) (-2) #[73, 62, 51, 47, 43, 39], 39)) ?_
    refine r_iloadn h (q := 1) 1 rfl (by decide +kernel : decode cX1_joined 63 = .ok (.iload_n 1, 1)) ?_
    refine r_iloadn h (q := 2) 2 rfl (by decide +kernel : decode cX1_joined 64 = .ok (.iload_n 2, 1)) ?_
    obtain ⟨g1, g2, H⟩ := H
    obtain ⟨H1, H2⟩ := H
    refine r_icmp_ne h 72 g1 g2 (by decide) (by decide +kernel : decode cX1_joined 65 = .ok (.if_icmp .ne 7, 3)) (fun hc => ?_) (fun hc => ?_)
    · have H := H1 hc
      refine r_iconst h (v := 0) (by decide +kernel : decode cX1_joined 72 = .ok (.iconst 0, 1)) ?_
      exact r_iret h rfl (by decide +kernel : decode cX1_joined 73 = .ok (.ireturn, 1)) rfl ⟨rfl, _, rfl, H⟩
    · have H := H2 hc
      refine r_iconst h (v := 1) (by decide +kernel : decode cX1_joined 68 = .ok (.iconst 1, 1)) ?_
      refine r_goto h 73 (by decide) (by decide +kernel : decode cX1_joined 69 = .ok (.goto 4, 3)) ?_
      exact r_iret h rfl (by decide +kernel : decode cX1_joined 73 = .ok (.ireturn, 1)) rfl ⟨rfl, _, rfl, H⟩
  obtain ⟨H1, H⟩ := H
  by_cases hk2 : x0 = (-5)
  · have H := H1 hk2
    refine r_tabIn h 52 g1 (by rw [hk2]; decide) (by rw [hk2]; rfl) (by decide) (by decide +kernel : decode cX1_joined 1 = .ok (.tableswitch 87 (-7) (-2) #[73, 62, 51, 47, 43, 39], 39)) ?_
    refine r_iloadn h (q := 1) 1 rfl (by decide +kernel : decode cX1_joined 52 = .ok (.iload_n 1, 1)) ?_
    refine r_iloadn h (q := 2) 2 rfl (by decide +kernel : decode cX1_joined 53 = .ok (.iload_n 2, 1)) ?_
    obtain ⟨g1, g2, H⟩ := H
    obtain ⟨H1, H2⟩ := H
    refine r_icmp_ge h 61 g1 g2 (by decide) (by decide +kernel : decode cX1_joined 54 = .ok (.if_icmp .ge 7, 3)) (fun hc => ?_) (fun hc => ?_)
    · have H := H1 hc
      refine r_iconst h (v := 0) (by decide +kernel : decode cX1_joined 61 = .ok (.iconst 0, 1)) ?_
      exact r_iret h rfl (by decide +kernel : decode cX1_joined 62 = .ok (.ireturn, 1)) rfl ⟨rfl, _, rfl, H⟩
    · have H := H2 hc
      refine r_iconst h (v := 1) (by decide +kernel : decode cX1_joined 57 = .ok (.iconst 1, 1)) ?_
      refine r_goto h 62 (by decide) (by decide +kernel : decode cX1_joined 58 = .ok (.goto 4, 3)) ?_
      exact r_iret h rfl (by decide +kernel : decode cX1_joined 62 = .ok (.ireturn, 1)) rfl ⟨rfl, _, rfl, H⟩
  obtain ⟨H1, H⟩ := H
  by_cases hk3 : x0 = (-4)
  · have H := H1 hk3
    refine r_tabIn h 48 g1 (by rw [hk3]; decide) (by rw [hk3]; rfl) (by decide) (by decide +kernel : decode cX1_joined 1 = .ok (.tableswitch 87 (-7) (-2) #[73, 62, 51, 47, 43, 39], 39)) ?_
    refine r_iloadn h (q := 1) 1 rfl (by decide +kernel : decode cX1_joined 48 = .ok (.iload_n 1, 1)) ?_
    refine r_iloadn h (q := 2) 2 rfl (by decide +kernel : decode cX1_joined 49 = .ok (.iload_n 2, 1)) ?_
    refine r_isubW h (by decide +kernel : decode cX1_joined 50 = .ok (.isub, 1)) ?_
    exact r_iret h rfl (by decide +kernel : decode cX1_joined 51 = .ok (.ireturn, 1)) rfl ⟨rfl, _, rfl, H⟩
  obtain ⟨H1, H⟩ := H
  by_cases hk4 : x0 = (-3)
  · have H := H1 hk4
    refine r_tabIn h 44 g1 (by rw [hk4]; decide) (by rw [hk4]; rfl) (by decide) (by decide +kernel : decode cX1_joined 1 = .ok (.tableswitch 87 (-7) (-2) #[73, 62, 51, 47, 43, 39], 39)) ?_
    refine r_iloadn h (q := 1) 1 rfl (by decide +kernel : decode cX1_joined 44 = .ok (.iload_n 1, 1)) ?_
    refine r_iloadn h (q := 2) 2 rfl (by decide +kernel : decode cX1_joined 45 = .ok (.iload_n 2, 1)) ?_
    refine r_iaddW h (by decide +kernel : decode cX1_joined 46 = .ok (.iadd, 1)) ?_
    exact r_iret h rfl (by decide +kernel : decode cX1_joined 47 = .ok (.ireturn, 1)) rfl ⟨rfl, _, rfl, H⟩
  obtain ⟨H1, H⟩ := H
  by_cases hk5 : x0 = (-2)
  · have H := H1 hk5
    refine r_tabIn h 40 g1 (by rw [hk5]; decide) (by rw [hk5]; rfl) (by decide) (by decide +kernel : decode cX1_joined 1 = .ok (.tableswitch 87 (-7) (-2) #[73, 62, 51, 47, 43, 39], 39)) ?_
    refine r_iloadn h (q := 1) 1 rfl (by decide +kernel : decode cX1_joined 40 = .ok (.iload_n 1, 1)) ?_
    refine r_iloadn h (q := 2) 2 rfl (by decide +kernel : decode cX1_joined 41 = .ok (.iload_n 2, 1)) ?_
    refine r_imulW h (by decide +kernel : decode cX1_joined 42 = .ok (.imul, 1)) ?_
    exact r_iret h rfl (by decide +kernel : decode cX1_joined 43 = .ok (.ireturn, 1)) rfl ⟨rfl, _, rfl, H⟩
  have H := H ⟨hk0, hk1, hk2, hk3, hk4, hk5⟩
  refine r_tabOut h 88 g1 (tout_m7_m2 hk0 hk1 hk2 hk3 hk4 hk5) (by decide) (by decide +kernel : decode cX1_joined 1 = .ok (.tableswitch 87 (-7) (-2) #[73, 62, 51, 47, 43, 39], 39)) ?_
  refine r_iloadn h (q := 1) 1 rfl (by decide +kernel : decode cX1_joined 88 = .ok (.iload_n 1, 1)) ?_
  obtain ⟨g1, H⟩ := H
  obtain ⟨H1, H2⟩ := H
  refine r_if_ne h 96 g1 (by decide) (by decide +kernel : decode cX1_joined 89 = .ok (.ifCond .ne 7, 3)) (fun hc => ?_) (fun hc => ?_)
  · have H := H1 hc
    refine r_iconst h (v := 1) (by decide +kernel : decode cX1_joined 96 = .ok (.iconst 1, 1)) ?_
    refine r_goto h 101 (by decide) (by decide +kernel : decode cX1_joined 97 = .ok (.goto 4, 3)) ?_
    exact r_iret h rfl (by decide +kernel : decode cX1_joined 101 = .ok (.ireturn, 1)) rfl ⟨rfl, _, rfl, H⟩
  · have H := H2 hc
    refine r_iloadn h (q := 2) 2 rfl (by decide +kernel : decode cX1_joined 92 = .ok (.iload_n 2, 1)) ?_
    obtain ⟨g1, H⟩ := H
    obtain ⟨H1, H2⟩ := H
    refine r_if_eq h 100 g1 (by decide) (by decide +kernel : decode cX1_joined 93 = .ok (.ifCond .eq 7, 3)) (fun hc => ?_) (fun hc => ?_)
    · have H := H1 hc
      refine r_iconst h (v := 0) (by decide +kernel : decode cX1_joined 100 = .ok (.iconst 0, 1)) ?_
      exact r_iret h rfl (by decide +kernel : decode cX1_joined 101 = .ok (.ireturn, 1)) rfl ⟨rfl, _, rfl, H⟩
    · have H := H2 hc
      refine r_iconst h (v := 1) (by decide +kernel : decode cX1_joined 96 = .ok (.iconst 1, 1)) ?_
      refine r_goto h 101 (by decide) (by decide +kernel : decode cX1_joined 97 = .ok (.goto 4, 3)) ?_
      exact r_iret h rfl (by decide +kernel : decode cX1_joined 101 = .ok (.ireturn, 1)) rfl ⟨rfl, _, rfl, H⟩
theorem W_Law_joined (x0 : Int) (x1 : Int) (x2 : Int) (M : Mm) {P : Int → Mm → Prop} (H : (rng x0) ∧ (x0 = (-7) → ((rng x1) ∧ (x1 = 0 → (P 0 M)) ∧ (x1 ≠ 0 → ((rng x2) ∧ (x2 = 0 → (P 0 M)) ∧ (x2 ≠ 0 → (P 1 M)))))) ∧ (x0 = (-6) → ((rng x1) ∧ (rng x2) ∧ (x1 ≠ x2 → (P 0 M)) ∧ (x1 = x2 → (P 1 M)))) ∧ (x0 = (-5) → ((rng x1) ∧ (rng x2) ∧ (x2 ≤ x1 → (P 0 M)) ∧ (¬ (x2 ≤ x1) → (P 1 M)))) ∧ (x0 = (-4) → (P (subW x1 x2) M)) ∧ (x0 = (-3) → (P (addW x1 x2) M)) ∧ (x0 = (-2) → (P (mulW x1 x2) M)) ∧ (x0 ≠ (-7) ∧ x0 ≠ (-6) ∧ x0 ≠ (-5) ∧ x0 ≠ (-4) ∧ x0 ≠ (-3) ∧ x0 ≠ (-2) → ((rng x1) ∧ (x1 ≠ 0 → (P 1 M)) ∧ (x1 = 0 → ((rng x2) ∧ (x2 = 0 → (P 0 M)) ∧ (x2 ≠ 0 → (P 1 M))))))) : S_Law_joined x0 x1 x2 M P := e_Law_joined x0 x1 x2 M (fun _ h => w_Law_joined_0 h x0 x1 x2 M H)
set_option maxHeartbeats 4000000 in
set_option maxRecDepth 100000 in
theorem w_Town_isCat_0 {P : Int → Mm → Prop} {K : Nat → Rr → Nat → List (Nat × AV) → List AV → Mm → Prop} (h : EK shC yX8_isCat cX8_isCat 2 (some .boolean) 1 NN NN (QI RRC P) K) (b : Nat) (hb : At shC NN b (.inl 7)) (x1 : Int) (M : Mm)
    (H : (0 ≤ x1 ∧ x1 < 7) ∧ (rng (M (b + 2) x1.toNat)) ∧ ((M (b + 2) x1.toNat) ≠ 3 → (P 0 M)) ∧ ((M (b + 2) x1.toNat) = 3 → (P 1 M))) :
    K NN RRC 0 [(0, vr b), (1, vi x1)] [] M := by
  refine r_aloadn h (q := 0) 0 rfl (by decide +kernel : decode cX8_isCat 0 = .ok (.aload_n 0, 1)) ?_
  refine r_getR h (r := (b + 2)) f_Town_15 hb (rr_7_1 hb) (by omega) (by decide +kernel : decode cX8_isCat 1 = .ok (.getfield 15, 3)) ?_
  refine r_iloadn h (q := 1) 1 rfl (by decide +kernel : decode cX8_isCat 4 = .ok (.iload_n 1, 1)) ?_
  obtain ⟨g1, H⟩ := H
  refine r_iald h x1.toNat rfl (at_7_1 hb) g1 (by decide) (by decide +kernel : decode cX8_isCat 5 = .ok (.iaload, 1)) ?_
  refine r_iconst h (v := 3) (by decide +kernel : decode cX8_isCat 6 = .ok (.iconst 3, 1)) ?_
  obtain ⟨g1, H⟩ := H
  obtain ⟨H1, H2⟩ := H
  refine r_icmp_ne h 14 g1 (by decide) (by decide) (by decide +kernel : decode cX8_isCat 7 = .ok (.if_icmp .ne 7, 3)) (fun hc => ?_) (fun hc => ?_)
  · have H := H1 hc
    refine r_iconst h (v := 0) (by decide +kernel : decode cX8_isCat 14 = .ok (.iconst 0, 1)) ?_
    exact r_zret h rfl (by decide) (by decide +kernel : decode cX8_isCat 15 = .ok (.ireturn, 1)) rfl ⟨rfl, _, rfl, H⟩
  · have H := H2 hc
    refine r_iconst h (v := 1) (by decide +kernel : decode cX8_isCat 10 = .ok (.iconst 1, 1)) ?_
    refine r_goto h 15 (by decide) (by decide +kernel : decode cX8_isCat 11 = .ok (.goto 4, 3)) ?_
    exact r_zret h rfl (by decide) (by decide +kernel : decode cX8_isCat 15 = .ok (.ireturn, 1)) rfl ⟨rfl, _, rfl, H⟩
theorem W_Town_isCat (b : Nat) (hb : At shC NN b (.inl 7)) (x1 : Int) (M : Mm) {P : Int → Mm → Prop} (H : (0 ≤ x1 ∧ x1 < 7) ∧ (rng (M (b + 2) x1.toNat)) ∧ ((M (b + 2) x1.toNat) ≠ 3 → (P 0 M)) ∧ ((M (b + 2) x1.toNat) = 3 → (P 1 M))) : S_Town_isCat b x1 M P := e_Town_isCat b x1 M (fun _ h => w_Town_isCat_0 h b hb x1 M H)
set_option maxHeartbeats 4000000 in
set_option maxRecDepth 100000 in
theorem w_Town_doesShun_0 {P : Int → Mm → Prop} {K : Nat → Rr → Nat → List (Nat × AV) → List AV → Mm → Prop} (h : EK shC yX8_doesShun cX8_doesShun 3 (some .boolean) 1 NN NN (QI RRC P) K) (b : Nat) (hb : At shC NN b (.inl 7)) (x1 : Int) (x2 : Int) (M : Mm)
    (H : (0 ≤ x1 ∧ x1 < 7) ∧ ((andI (shrI (M (b + 6) x1.toNat) x2) 1) = 0 → (P 0 M)) ∧ ((andI (shrI (M (b + 6) x1.toNat) x2) 1) ≠ 0 → (P 1 M))) :
    K NN RRC 0 [(0, vr b), (1, vi x1), (2, vi x2)] [] M := by
  refine r_aloadn h (q := 0) 0 rfl (by decide +kernel : decode cX8_doesShun 0 = .ok (.aload_n 0, 1)) ?_
  refine r_getR h (r := (b + 6)) f_Town_28 hb (rr_7_5 hb) (by omega) (by decide +kernel : decode cX8_doesShun 1 = .ok (.getfield 28, 3)) ?_
  refine r_iloadn h (q := 1) 1 rfl (by decide +kernel : decode cX8_doesShun 4 = .ok (.iload_n 1, 1)) ?_
  obtain ⟨g1, H⟩ := H
  refine r_iald h x1.toNat rfl (at_7_5 hb) g1 (by decide) (by decide +kernel : decode cX8_doesShun 5 = .ok (.iaload, 1)) ?_
  refine r_iloadn h (q := 2) 2 rfl (by decide +kernel : decode cX8_doesShun 6 = .ok (.iload_n 2, 1)) ?_
  refine r_ishr h (by decide +kernel : decode cX8_doesShun 7 = .ok (.ishr, 1)) ?_
  refine r_iconst h (v := 1) (by decide +kernel : decode cX8_doesShun 8 = .ok (.iconst 1, 1)) ?_
  refine r_iand h (by decide +kernel : decode cX8_doesShun 9 = .ok (.iand, 1)) ?_
  obtain ⟨H1, H2⟩ := H
  refine r_if_eq h 17 (rng_toInt _) (by decide) (by decide +kernel : decode cX8_doesShun 10 = .ok (.ifCond .eq 7, 3)) (fun hc => ?_) (fun hc => ?_)
  · have H := H1 hc
    refine r_iconst h (v := 0) (by decide +kernel : decode cX8_doesShun 17 = .ok (.iconst 0, 1)) ?_
    exact r_zret h rfl (by decide) (by decide +kernel : decode cX8_doesShun 18 = .ok (.ireturn, 1)) rfl ⟨rfl, _, rfl, H⟩
  · have H := H2 hc
    refine r_iconst h (v := 1) (by decide +kernel : decode cX8_doesShun 13 = .ok (.iconst 1, 1)) ?_
    refine r_goto h 18 (by decide) (by decide +kernel : decode cX8_doesShun 14 = .ok (.goto 4, 3)) ?_
    exact r_zret h rfl (by decide) (by decide +kernel : decode cX8_doesShun 18 = .ok (.ireturn, 1)) rfl ⟨rfl, _, rfl, H⟩
theorem W_Town_doesShun (b : Nat) (hb : At shC NN b (.inl 7)) (x1 : Int) (x2 : Int) (M : Mm) {P : Int → Mm → Prop} (H : (0 ≤ x1 ∧ x1 < 7) ∧ ((andI (shrI (M (b + 6) x1.toNat) x2) 1) = 0 → (P 0 M)) ∧ ((andI (shrI (M (b + 6) x1.toNat) x2) 1) ≠ 0 → (P 1 M))) : S_Town_doesShun b x1 x2 M P := e_Town_doesShun b x1 x2 M (fun _ h => w_Town_doesShun_0 h b hb x1 x2 M H)
set_option maxHeartbeats 4000000 in
set_option maxRecDepth 100000 in
theorem w_Town_numberOf_0 {P : Int → Mm → Prop} {K : Nat → Rr → Nat → List (Nat × AV) → List AV → Mm → Prop} (h : EK shC yX8_numberOf cX8_numberOf 4 (some .int) 1 NN NN (QI RRC P) K) (b : Nat) (hb : At shC NN b (.inl 7)) (x1 : Int) (M : Mm)
    (H : K NN RRC 2 [(0, vr b), (1, vl x1), (3, vi 0)] [] M) :
    K NN RRC 0 [(0, vr b), (1, vl x1)] [] M := by
  refine r_iconst h (v := 0) (by decide +kernel : decode cX8_numberOf 0 = .ok (.iconst 0, 1)) ?_
  refine r_istoren h (q := 3) (L' := [(3, vi 0), (0, vr b), (1, vl x1)]) (by decide) rfl (by decide +kernel : decode cX8_numberOf 1 = .ok (.istore_n 3, 1)) ?_
  refine r_drop h [1, 2, 0] rfl ?_
  exact H
set_option maxHeartbeats 4000000 in
set_option maxRecDepth 100000 in
theorem w_Town_numberOf_2 {P : Int → Mm → Prop} {K : Nat → Rr → Nat → List (Nat × AV) → List AV → Mm → Prop} (h : EK shC yX8_numberOf cX8_numberOf 4 (some .int) 1 NN NN (QI RRC P) K) (b : Nat) (hb : At shC NN b (.inl 7)) (x1 : Int) (x3 : Int) (M : Mm)
    (H : (rng x3) ∧ (rng (M b 9)) ∧ ((M b 9) ≤ x3 → (P (-1) M)) ∧ (¬ ((M b 9) ≤ x3) → ((0 ≤ x3 ∧ x3 < 7) ∧ (rngL (M (b + 1) x3.toNat)) ∧ (rngL x1) ∧ ((cmpL (M (b + 1) x3.toNat) x1) ≠ 0 → (K NN RRC 2 [(0, vr b), (1, vl x1), (3, vi (x3 + 1))] [] M)) ∧ ((cmpL (M (b + 1) x3.toNat) x1) = 0 → (P x3 M))))) :
    K NN RRC 2 [(0, vr b), (1, vl x1), (3, vi x3)] [] M := by
  refine r_iloadn h (q := 3) 2 rfl (by decide +kernel : decode cX8_numberOf 2 = .ok (.iload_n 3, 1)) ?_
  refine r_aloadn h (q := 0) 0 rfl (by decide +kernel : decode cX8_numberOf 3 = .ok (.aload_n 0, 1)) ?_
  refine r_getI h f_Town_49 hb (by decide +kernel : decode cX8_numberOf 4 = .ok (.getfield 49, 3)) ?_
  obtain ⟨g1, g2, H⟩ := H
  obtain ⟨H1, H2⟩ := H
  refine r_icmp_ge h 29 g1 g2 (by decide) (by decide +kernel : decode cX8_numberOf 7 = .ok (.if_icmp .ge 22, 3)) (fun hc => ?_) (fun hc => ?_)
  · have H := H1 hc
    refine r_iconst h (v := (-1)) (by decide +kernel : decode cX8_numberOf 29 = .ok (.iconst (-1), 1)) ?_
    exact r_iret h rfl (by decide +kernel : decode cX8_numberOf 30 = .ok (.ireturn, 1)) rfl ⟨rfl, _, rfl, H⟩
  · have H := H2 hc
    refine r_aloadn h (q := 0) 0 rfl (by decide +kernel : decode cX8_numberOf 10 = .ok (.aload_n 0, 1)) ?_
    refine r_getR h (r := (b + 1)) f_Town_9 hb (rr_7_0 hb) (by omega) (by decide +kernel : decode cX8_numberOf 11 = .ok (.getfield 9, 3)) ?_
    refine r_iloadn h (q := 3) 2 rfl (by decide +kernel : decode cX8_numberOf 14 = .ok (.iload_n 3, 1)) ?_
    obtain ⟨g1, H⟩ := H
    refine r_lald h x3.toNat rfl (at_7_0 hb) g1 (by decide) (by decide +kernel : decode cX8_numberOf 15 = .ok (.laload, 1)) ?_
    refine r_lloadn h (q := 1) 1 rfl (by decide +kernel : decode cX8_numberOf 16 = .ok (.lload_n 1, 1)) ?_
    obtain ⟨g1, g2, H⟩ := H
    refine r_lcmp h g1 g2 (by decide +kernel : decode cX8_numberOf 17 = .ok (.lcmp, 1)) ?_
    obtain ⟨H1, H2⟩ := H
    refine r_if_ne h 23 (rng_cmpL _ _) (by decide) (by decide +kernel : decode cX8_numberOf 18 = .ok (.ifCond .ne 5, 3)) (fun hc => ?_) (fun hc => ?_)
    · have H := H1 hc
      refine r_iinc h (i := 3) (v := 1) (L' := [(3, vi (x3 + 1)), (0, vr b), (1, vl x1)]) 2 rfl (by decide) rfl (by decide +kernel : decode cX8_numberOf 23 = .ok (.iinc 3 1, 3)) ?_
      refine r_goto h 2 (by decide) (by decide +kernel : decode cX8_numberOf 26 = .ok (.goto (-24), 3)) ?_
      refine r_drop h [1, 2, 0] rfl ?_
      exact H
    · have H := H2 hc
      refine r_iloadn h (q := 3) 2 rfl (by decide +kernel : decode cX8_numberOf 21 = .ok (.iload_n 3, 1)) ?_
      exact r_iret h rfl (by decide +kernel : decode cX8_numberOf 22 = .ok (.ireturn, 1)) rfl ⟨rfl, _, rfl, H⟩
set_option maxHeartbeats 4000000 in
set_option maxRecDepth 100000 in
theorem w_Years_copyFrom_0 {P : Mm → Prop} {K : Nat → Rr → Nat → List (Nat × AV) → List AV → Mm → Prop} (h : EK shC yX10_copyFrom cX10_copyFrom 2 none 1 NN NN (QV RRC P) K) (b : Nat) (hb : At shC NN b (.inl 8)) (b1 : Nat) (hb1 : At shC NN b1 (.inl 8)) (M : Mm)
    (H : ∀ M1 : Mm, M1 = (upr M b (up1 (M b) 3 (M b1 3))) → ∀ M2 : Mm, M2 = (upr M1 (b + 1) (cpI (M1 (b1 + 1)) (M1 (b + 1)) 0 0 40)) → ∀ M3 : Mm, M3 = (upr M2 (b + 2) (cpI (M2 (b1 + 2)) (M2 (b + 2)) 0 0 40)) → ∀ M4 : Mm, M4 = (upr M3 (b + 3) (cpI (M3 (b1 + 3)) (M3 (b + 3)) 0 0 40)) → P M4) :
    K NN RRC 0 [(0, vr b), (1, vr b1)] [] M := by
  refine r_aloadn h (q := 0) 0 rfl (by decide +kernel : decode cX10_copyFrom 0 = .ok (.aload_n 0, 1)) ?_
  refine r_aloadn h (q := 1) 1 rfl (by decide +kernel : decode cX10_copyFrom 1 = .ok (.aload_n 1, 1)) ?_
  refine r_getI h f_Years_21 hb1 (by decide +kernel : decode cX10_copyFrom 2 = .ok (.getfield 21, 3)) ?_
  refine r_putI h f_Years_21 hb rfl rfl (by decide +kernel : decode cX10_copyFrom 5 = .ok (.putfield 21, 3)) ?_
  have H := H _ rfl
  revert H
  generalize (upr M b (up1 (M b) 3 (M b1 3))) = M1
  intro H
  refine r_aloadn h (q := 1) 1 rfl (by decide +kernel : decode cX10_copyFrom 8 = .ok (.aload_n 1, 1)) ?_
  refine r_getR h (r := (b1 + 1)) f_Years_11 hb1 (rr_8_0 hb1) (by omega) (by decide +kernel : decode cX10_copyFrom 9 = .ok (.getfield 11, 3)) ?_
  refine r_iconst h (v := 0) (by decide +kernel : decode cX10_copyFrom 12 = .ok (.iconst 0, 1)) ?_
  refine r_aloadn h (q := 0) 0 rfl (by decide +kernel : decode cX10_copyFrom 13 = .ok (.aload_n 0, 1)) ?_
  refine r_getR h (r := (b + 1)) f_Years_11 hb (rr_8_0 hb) (by omega) (by decide +kernel : decode cX10_copyFrom 14 = .ok (.getfield 11, 3)) ?_
  refine r_iconst h (v := 0) (by decide +kernel : decode cX10_copyFrom 17 = .ok (.iconst 0, 1)) ?_
  refine r_bipush h (v := 40) (by decide) (by decide +kernel : decode cX10_copyFrom 18 = .ok (.bipush 40, 2)) ?_
  refine r_copyN h (b0 := (b1 + 1)) (b1 := (b + 1)) (w := 40) 40 (at_8_0 hb1) (at_8_0 hb) rfl (by decide) (by decide) (by decide) (by decide) (by decide) kM_copy_Years (by decide) (Nat.le_of_ble_eq_true rfl) (by decide +kernel : decode cX10_copyFrom 20 = .ok (.invokestatic 25, 3)) ?_
  have H := H _ rfl
  revert H
  generalize (upr M1 (b + 1) (cpI (M1 (b1 + 1)) (M1 (b + 1)) 0 0 40)) = M2
  intro H
  refine r_aloadn h (q := 1) 1 rfl (by decide +kernel : decode cX10_copyFrom 23 = .ok (.aload_n 1, 1)) ?_
  refine r_getR h (r := (b1 + 2)) f_Years_15 hb1 (rr_8_1 hb1) (by omega) (by decide +kernel : decode cX10_copyFrom 24 = .ok (.getfield 15, 3)) ?_
  refine r_iconst h (v := 0) (by decide +kernel : decode cX10_copyFrom 27 = .ok (.iconst 0, 1)) ?_
  refine r_aloadn h (q := 0) 0 rfl (by decide +kernel : decode cX10_copyFrom 28 = .ok (.aload_n 0, 1)) ?_
  refine r_getR h (r := (b + 2)) f_Years_15 hb (rr_8_1 hb) (by omega) (by decide +kernel : decode cX10_copyFrom 29 = .ok (.getfield 15, 3)) ?_
  refine r_iconst h (v := 0) (by decide +kernel : decode cX10_copyFrom 32 = .ok (.iconst 0, 1)) ?_
  refine r_bipush h (v := 40) (by decide) (by decide +kernel : decode cX10_copyFrom 33 = .ok (.bipush 40, 2)) ?_
  refine r_copyN h (b0 := (b1 + 2)) (b1 := (b + 2)) (w := 40) 40 (at_8_1 hb1) (at_8_1 hb) rfl (by decide) (by decide) (by decide) (by decide) (by decide) kM_copy_Years (by decide) (Nat.le_of_ble_eq_true rfl) (by decide +kernel : decode cX10_copyFrom 35 = .ok (.invokestatic 25, 3)) ?_
  have H := H _ rfl
  revert H
  generalize (upr M2 (b + 2) (cpI (M2 (b1 + 2)) (M2 (b + 2)) 0 0 40)) = M3
  intro H
  refine r_aloadn h (q := 1) 1 rfl (by decide +kernel : decode cX10_copyFrom 38 = .ok (.aload_n 1, 1)) ?_
  refine r_getR h (r := (b1 + 3)) f_Years_18 hb1 (rr_8_2 hb1) (by omega) (by decide +kernel : decode cX10_copyFrom 39 = .ok (.getfield 18, 3)) ?_
  refine r_iconst h (v := 0) (by decide +kernel : decode cX10_copyFrom 42 = .ok (.iconst 0, 1)) ?_
  refine r_aloadn h (q := 0) 0 rfl (by decide +kernel : decode cX10_copyFrom 43 = .ok (.aload_n 0, 1)) ?_
  refine r_getR h (r := (b + 3)) f_Years_18 hb (rr_8_2 hb) (by omega) (by decide +kernel : decode cX10_copyFrom 44 = .ok (.getfield 18, 3)) ?_
  refine r_iconst h (v := 0) (by decide +kernel : decode cX10_copyFrom 47 = .ok (.iconst 0, 1)) ?_
  refine r_bipush h (v := 40) (by decide) (by decide +kernel : decode cX10_copyFrom 48 = .ok (.bipush 40, 2)) ?_
  refine r_copyN h (b0 := (b1 + 3)) (b1 := (b + 3)) (w := 40) 40 (at_8_2 hb1) (at_8_2 hb) rfl (by decide) (by decide) (by decide) (by decide) (by decide) kM_copy_Years (by decide) (Nat.le_of_ble_eq_true rfl) (by decide +kernel : decode cX10_copyFrom 50 = .ok (.invokestatic 25, 3)) ?_
  have H := H _ rfl
  revert H
  generalize (upr M3 (b + 3) (cpI (M3 (b1 + 3)) (M3 (b + 3)) 0 0 40)) = M4
  intro H
  exact r_vret h rfl (by decide +kernel : decode cX10_copyFrom 53 = .ok (.return_, 1)) rfl ⟨rfl, rfl, H⟩
theorem W_Years_copyFrom (b : Nat) (hb : At shC NN b (.inl 8)) (b1 : Nat) (hb1 : At shC NN b1 (.inl 8)) (M : Mm) {P : Mm → Prop} (H : ∀ M1 : Mm, M1 = (upr M b (up1 (M b) 3 (M b1 3))) → ∀ M2 : Mm, M2 = (upr M1 (b + 1) (cpI (M1 (b1 + 1)) (M1 (b + 1)) 0 0 40)) → ∀ M3 : Mm, M3 = (upr M2 (b + 2) (cpI (M2 (b1 + 2)) (M2 (b + 2)) 0 0 40)) → ∀ M4 : Mm, M4 = (upr M3 (b + 3) (cpI (M3 (b1 + 3)) (M3 (b + 3)) 0 0 40)) → P M4) : S_Years_copyFrom b b1 M P := e_Years_copyFrom b b1 M (fun _ h => w_Years_copyFrom_0 h b hb b1 hb1 M H)
set_option maxHeartbeats 4000000 in
set_option maxRecDepth 100000 in
theorem w_Law_factCode_0 {P : Int → Mm → Prop} {K : Nat → Rr → Nat → List (Nat × AV) → List AV → Mm → Prop} (h : EK shC yX1_factCode cX1_factCode 2 (some .int) 2 NN NN (QI RRC P) K) (b : Nat) (hb : At shC NN b (.inl 0)) (k1 : Nat) (hk1 : k1 < 27) (M : Mm)
    (H : ∃ P1 : Int → Mm → Prop, S_JEnum_ordinal k1 M P1 ∧ ∀ (r1 : Int) (M1 : Mm), P1 r1 M1 → (0 ≤ r1 ∧ r1 < 27) ∧ ((wS.getD r1.toNat 0) = 1 → (P (-9) M1)) ∧ ((wS.getD r1.toNat 0) = 2 → (P (-10) M1)) ∧ ((wS.getD r1.toNat 0) = 3 → (P (-11) M1)) ∧ ((wS.getD r1.toNat 0) = 4 → ((rng (M1 b 0)) ∧ ((M1 b 0) = 0 → (P (-14) M1)) ∧ ((M1 b 0) ≠ 0 → (P (-12) M1)))) ∧ ((wS.getD r1.toNat 0) = 5 → ((rng (M1 b 0)) ∧ ((M1 b 0) = 0 → (P (-14) M1)) ∧ ((M1 b 0) ≠ 0 → (P (-13) M1)))) ∧ ((wS.getD r1.toNat 0) ≠ 1 ∧ (wS.getD r1.toNat 0) ≠ 2 ∧ (wS.getD r1.toNat 0) ≠ 3 ∧ (wS.getD r1.toNat 0) ≠ 4 ∧ (wS.getD r1.toNat 0) ≠ 5 → (P (-14) M1))) :
    K NN RRC 0 [(0, vr b), (1, ve k1)] [] M := by
  refine r_getS h zF_28 rfl (inT3 208 rfl rfl) (by decide +kernel : decode cX1_factCode 0 = .ok (.getstatic 86, 3)) ?_
  refine r_aloadEn h (q := 1) 1 rfl (by decide +kernel : decode cX1_factCode 3 = .ok (.aload_n 1, 1)) ?_
  obtain ⟨P1, hSP1, H⟩ := H
  refine r_callO h (as := []) (S := [ve 28]) (b := k1) m_Law_91 hSP1 (by decide) (Nat.le_refl _) rfl (oC_w hk1) rfl (Nat.le_of_ble_eq_true rfl) (by decide +kernel : decode cX1_factCode 4 = .ok (.invokevirtual 91, 3)) ?_
  rintro _ _ M1 ⟨rfl, r1, rfl, hP⟩
  have H := H r1 M1 hP
  show K NN RRC _ _ [vi r1, ve 28] _
  obtain ⟨g1, H⟩ := H
  refine r_tI h tF_sw g1 (by decide) rfl (by decide +kernel : decode cX1_factCode 7 = .ok (.iaload, 1)) ?_
  obtain ⟨H1, H⟩ := H
  by_cases hk0 : (wS.getD r1.toNat 0) = 1
  · have H := H1 hk0
    refine r_tabIn h 44 (wS_rng _) (by rw [hk0]; decide) (by rw [hk0]; rfl) (by decide) (by decide +kernel : decode cX1_factCode 8 = .ok (.tableswitch 75 1 5 #[36, 39, 42, 45, 60], 36)) ?_
    refine r_bipush h (v := (-9)) (by decide) (by decide +kernel : decode cX1_factCode 44 = .ok (.bipush (-9), 2)) ?_
    exact r_iret h rfl (by decide +kernel : decode cX1_factCode 46 = .ok (.ireturn, 1)) rfl ⟨rfl, _, rfl, H⟩
  obtain ⟨H1, H⟩ := H
  by_cases hk1 : (wS.getD r1.toNat 0) = 2
  · have H := H1 hk1
    refine r_tabIn h 47 (wS_rng _) (by rw [hk1]; decide) (by rw [hk1]; rfl) (by decide) (by decide +kernel : decode cX1_factCode 8 = .ok (.tableswitch 75 1 5 #[36, 39, 42, 45, 60], 36)) ?_
    refine r_bipush h (v := (-10)) (by decide) (by decide +kernel : decode cX1_factCode 47 = .ok (.bipush (-10), 2)) ?_
    exact r_iret h rfl (by decide +kernel : decode cX1_factCode 49 = .ok (.ireturn, 1)) rfl ⟨rfl, _, rfl, H⟩
  obtain ⟨H1, H⟩ := H
  by_cases hk2 : (wS.getD r1.toNat 0) = 3
  · have H := H1 hk2
    refine r_tabIn h 50 (wS_rng _) (by rw [hk2]; decide) (by rw [hk2]; rfl) (by decide) (by decide +kernel : decode cX1_factCode 8 = .ok (.tableswitch 75 1 5 #[36, 39, 42, 45, 60], 36)) ?_
    refine r_bipush h (v := (-11)) (by decide) (by decide +kernel : decode cX1_factCode 50 = .ok (.bipush (-11), 2)) ?_
    exact r_iret h rfl (by decide +kernel : decode cX1_factCode 52 = .ok (.ireturn, 1)) rfl ⟨rfl, _, rfl, H⟩
  obtain ⟨H1, H⟩ := H
  by_cases hk3 : (wS.getD r1.toNat 0) = 4
  · have H := H1 hk3
    refine r_tabIn h 53 (wS_rng _) (by rw [hk3]; decide) (by rw [hk3]; rfl) (by decide) (by decide +kernel : decode cX1_factCode 8 = .ok (.tableswitch 75 1 5 #[36, 39, 42, 45, 60], 36)) ?_
    refine r_aloadn h (q := 0) 0 rfl (by decide +kernel : decode cX1_factCode 53 = .ok (.aload_n 0, 1)) ?_
    refine r_getZ h f_Law_18 hb (by decide +kernel : decode cX1_factCode 54 = .ok (.getfield 18, 3)) ?_
    obtain ⟨g1, H⟩ := H
    obtain ⟨H1, H2⟩ := H
    refine r_if_eq h 65 g1 (by decide) (by decide +kernel : decode cX1_factCode 57 = .ok (.ifCond .eq 8, 3)) (fun hc => ?_) (fun hc => ?_)
    · have H := H1 hc
      refine r_bipush h (v := (-14)) (by decide) (by decide +kernel : decode cX1_factCode 65 = .ok (.bipush (-14), 2)) ?_
      exact r_iret h rfl (by decide +kernel : decode cX1_factCode 67 = .ok (.ireturn, 1)) rfl ⟨rfl, _, rfl, H⟩
    · have H := H2 hc
      refine r_bipush h (v := (-12)) (by decide) (by decide +kernel : decode cX1_factCode 60 = .ok (.bipush (-12), 2)) ?_
      refine r_goto h 67 (by decide) (by decide +kernel : decode cX1_factCode 62 = .ok (.goto 5, 3)) ?_
      exact r_iret h rfl (by decide +kernel : decode cX1_factCode 67 = .ok (.ireturn, 1)) rfl ⟨rfl, _, rfl, H⟩
  obtain ⟨H1, H⟩ := H
  by_cases hk4 : (wS.getD r1.toNat 0) = 5
  · have H := H1 hk4
    refine r_tabIn h 68 (wS_rng _) (by rw [hk4]; decide) (by rw [hk4]; rfl) (by decide) (by decide +kernel : decode cX1_factCode 8 = .ok (.tableswitch 75 1 5 #[36, 39, 42, 45, 60], 36)) ?_
    refine r_aloadn h (q := 0) 0 rfl (by decide +kernel : decode cX1_factCode 68 = .ok (.aload_n 0, 1)) ?_
    refine r_getZ h f_Law_18 hb (by decide +kernel : decode cX1_factCode 69 = .ok (.getfield 18, 3)) ?_
    obtain ⟨g1, H⟩ := H
    obtain ⟨H1, H2⟩ := H
    refine r_if_eq h 80 g1 (by decide) (by decide +kernel : decode cX1_factCode 72 = .ok (.ifCond .eq 8, 3)) (fun hc => ?_) (fun hc => ?_)
    · have H := H1 hc
      refine r_bipush h (v := (-14)) (by decide) (by decide +kernel : decode cX1_factCode 80 = .ok (.bipush (-14), 2)) ?_
      exact r_iret h rfl (by decide +kernel : decode cX1_factCode 82 = .ok (.ireturn, 1)) rfl ⟨rfl, _, rfl, H⟩
    · have H := H2 hc
      refine r_bipush h (v := (-13)) (by decide) (by decide +kernel : decode cX1_factCode 75 = .ok (.bipush (-13), 2)) ?_
      refine r_goto h 82 (by decide) (by decide +kernel : decode cX1_factCode 77 = .ok (.goto 5, 3)) ?_
      exact r_iret h rfl (by decide +kernel : decode cX1_factCode 82 = .ok (.ireturn, 1)) rfl ⟨rfl, _, rfl, H⟩
  have H := H ⟨hk0, hk1, hk2, hk3, hk4⟩
  refine r_tabOut h 83 (wS_rng _) (tout_1_5 hk0 hk1 hk2 hk3 hk4) (by decide) (by decide +kernel : decode cX1_factCode 8 = .ok (.tableswitch 75 1 5 #[36, 39, 42, 45, 60], 36)) ?_
  refine r_bipush h (v := (-14)) (by decide) (by decide +kernel : decode cX1_factCode 83 = .ok (.bipush (-14), 2)) ?_
  exact r_iret h rfl (by decide +kernel : decode cX1_factCode 85 = .ok (.ireturn, 1)) rfl ⟨rfl, _, rfl, H⟩
theorem W_Law_factCode (b : Nat) (hb : At shC NN b (.inl 0)) (k1 : Nat) (hk1 : k1 < 27) (M : Mm) {P : Int → Mm → Prop} (H : ∃ P1 : Int → Mm → Prop, S_JEnum_ordinal k1 M P1 ∧ ∀ (r1 : Int) (M1 : Mm), P1 r1 M1 → (0 ≤ r1 ∧ r1 < 27) ∧ ((wS.getD r1.toNat 0) = 1 → (P (-9) M1)) ∧ ((wS.getD r1.toNat 0) = 2 → (P (-10) M1)) ∧ ((wS.getD r1.toNat 0) = 3 → (P (-11) M1)) ∧ ((wS.getD r1.toNat 0) = 4 → ((rng (M1 b 0)) ∧ ((M1 b 0) = 0 → (P (-14) M1)) ∧ ((M1 b 0) ≠ 0 → (P (-12) M1)))) ∧ ((wS.getD r1.toNat 0) = 5 → ((rng (M1 b 0)) ∧ ((M1 b 0) = 0 → (P (-14) M1)) ∧ ((M1 b 0) ≠ 0 → (P (-13) M1)))) ∧ ((wS.getD r1.toNat 0) ≠ 1 ∧ (wS.getD r1.toNat 0) ≠ 2 ∧ (wS.getD r1.toNat 0) ≠ 3 ∧ (wS.getD r1.toNat 0) ≠ 4 ∧ (wS.getD r1.toNat 0) ≠ 5 → (P (-14) M1))) : S_Law_factCode b k1 M P := e_Law_factCode b k1 M (fun _ h => w_Law_factCode_0 h b hb k1 hk1 M H)
set_option maxHeartbeats 4000000 in
set_option maxRecDepth 100000 in
theorem w_Law_value_0 {P : Int → Mm → Prop} {K : Nat → Rr → Nat → List (Nat × AV) → List AV → Mm → Prop} (h : EK shC yX1_value cX1_value 9 (some .int) 2 NN NN (QI RRC P) K) (b : Nat) (hb : At shC NN b (.inl 0)) (x1 : Int) (x2 : Int) (x3 : Int) (x4 : Int) (x5 : Int) (M : Mm)
    (H : K NN RRC 6 [(0, vr b), (1, vi x1), (2, vi x2), (3, vi x3), (4, vi x4), (5, vi x5), (6, vi 0), (7, vi 0)] [] M) :
    K NN RRC 0 [(0, vr b), (1, vi x1), (2, vi x2), (3, vi x3), (4, vi x4), (5, vi x5)] [] M := by
  refine r_iconst h (v := 0) (by decide +kernel : decode cX1_value 0 = .ok (.iconst 0, 1)) ?_
  refine r_istore h (L' := [(6, vi 0), (0, vr b), (1, vi x1), (2, vi x2), (3, vi x3), (4, vi x4), (5, vi x5)]) (by decide) rfl (by decide +kernel : decode cX1_value 1 = .ok (.istore 6, 2)) ?_
  refine r_iconst h (v := 0) (by decide +kernel : decode cX1_value 3 = .ok (.iconst 0, 1)) ?_
  refine r_istore h (L' := [(7, vi 0), (6, vi 0), (0, vr b), (1, vi x1), (2, vi x2), (3, vi x3), (4, vi x4), (5, vi x5)]) (by decide) rfl (by decide +kernel : decode cX1_value 4 = .ok (.istore 7, 2)) ?_
  refine r_drop h [2, 3, 4, 5, 6, 7, 1, 0] rfl ?_
  exact H
set_option maxHeartbeats 4000000 in
set_option maxRecDepth 100000 in
theorem w_Law_value_6 {P : Int → Mm → Prop} {K : Nat → Rr → Nat → List (Nat × AV) → List AV → Mm → Prop} (h : EK shC yX1_value cX1_value 9 (some .int) 2 NN NN (QI RRC P) K) (b : Nat) (hb : At shC NN b (.inl 0)) (x1 : Int) (x2 : Int) (x3 : Int) (x4 : Int) (x5 : Int) (x6 : Int) (x7 : Int) (M : Mm)
    (H : (rng x7) ∧ (rng (M b 3)) ∧ ((M b 3) ≤ x7 → ((rng x6) ∧ (x6 ≤ 0 → (P 0 M)) ∧ (¬ (x6 ≤ 0) → (P (M (b + 2) 0) M)))) ∧ (¬ ((M b 3) ≤ x7) → ((0 ≤ x7 ∧ x7 < 1000) ∧ (rng (M (b + 1) x7.toNat)) ∧ ((M (b + 1) x7.toNat) ≠ (-1) → (K NN RRC 65 [(0, vr b), (1, vi x1), (2, vi x2), (3, vi x3), (4, vi x4), (5, vi x5), (6, vi x6), (7, vi x7), (8, vi (M (b + 1) x7.toNat))] [] M)) ∧ ((M (b + 1) x7.toNat) = (-1) → ((rng x6) ∧ (x6 < 1 → (K NN RRC 65 [(0, vr b), (1, vi x1), (2, vi x2), (3, vi x3), (4, vi x4), (5, vi x5), (6, vi x6), (7, vi x7), (8, vi (M (b + 1) x7.toNat))] [] M)) ∧ (¬ (x6 < 1) → ((0 ≤ (x6 - 1) ∧ (x6 - 1) < 24) ∧ (rng (M (b + 2) (x6 - 1).toNat)) ∧ ((M (b + 2) (x6 - 1).toNat) ≠ 0 → ((0 ≤ (x6 - 1) ∧ (x6 - 1) < 24) ∧ ∀ M1 : Mm, M1 = (upr M (b + 2) (up1 (M (b + 2)) (x6 - 1).toNat 0)) → K NN RRC 6 [(0, vr b), (1, vi x1), (2, vi x2), (3, vi x3), (4, vi x4), (5, vi x5), (6, vi x6), (7, vi (x7 + 1))] [] M1)) ∧ ((M (b + 2) (x6 - 1).toNat) = 0 → ((0 ≤ (x6 - 1) ∧ (x6 - 1) < 24) ∧ ∀ M2 : Mm, M2 = (upr M (b + 2) (up1 (M (b + 2)) (x6 - 1).toNat 1)) → K NN RRC 6 [(0, vr b), (1, vi x1), (2, vi x2), (3, vi x3), (4, vi x4), (5, vi x5), (6, vi x6), (7, vi (x7 + 1))] [] M2))))))))) :
    K NN RRC 6 [(0, vr b), (1, vi x1), (2, vi x2), (3, vi x3), (4, vi x4), (5, vi x5), (6, vi x6), (7, vi x7)] [] M := by
  refine r_iload h 7 rfl (by decide +kernel : decode cX1_value 6 = .ok (.iload 7, 2)) ?_
  refine r_aloadn h (q := 0) 0 rfl (by decide +kernel : decode cX1_value 8 = .ok (.aload_n 0, 1)) ?_
  refine r_getI h f_Law_22 hb (by decide +kernel : decode cX1_value 9 = .ok (.getfield 22, 3)) ?_
  obtain ⟨g1, g2, H⟩ := H
  obtain ⟨H1, H2⟩ := H
  refine r_icmp_ge h 155 g1 g2 (by decide) (by decide +kernel : decode cX1_value 12 = .ok (.if_icmp .ge 143, 3)) (fun hc => ?_) (fun hc => ?_)
  · have H := H1 hc
    refine r_iload h 6 rfl (by decide +kernel : decode cX1_value 155 = .ok (.iload 6, 2)) ?_
    obtain ⟨g1, H⟩ := H
    obtain ⟨H1, H2⟩ := H
    refine r_if_le h 169 g1 (by decide) (by decide +kernel : decode cX1_value 157 = .ok (.ifCond .le 12, 3)) (fun hc => ?_) (fun hc => ?_)
    · have H := H1 hc
      refine r_iconst h (v := 0) (by decide +kernel : decode cX1_value 169 = .ok (.iconst 0, 1)) ?_
      exact r_iret h rfl (by decide +kernel : decode cX1_value 170 = .ok (.ireturn, 1)) rfl ⟨rfl, _, rfl, H⟩
    · have H := H2 hc
      refine r_aloadn h (q := 0) 0 rfl (by decide +kernel : decode cX1_value 160 = .ok (.aload_n 0, 1)) ?_
      refine r_getR h (r := (b + 2)) f_Law_15 hb (rr_0_2 hb) (by omega) (by decide +kernel : decode cX1_value 161 = .ok (.getfield 15, 3)) ?_
      refine r_iconst h (v := 0) (by decide +kernel : decode cX1_value 164 = .ok (.iconst 0, 1)) ?_
      refine r_iald h 0 rfl (at_0_2 hb) (by decide) (by decide) (by decide +kernel : decode cX1_value 165 = .ok (.iaload, 1)) ?_
      refine r_goto h 170 (by decide) (by decide +kernel : decode cX1_value 166 = .ok (.goto 4, 3)) ?_
      exact r_iret h rfl (by decide +kernel : decode cX1_value 170 = .ok (.ireturn, 1)) rfl ⟨rfl, _, rfl, H⟩
  · have H := H2 hc
    refine r_aloadn h (q := 0) 0 rfl (by decide +kernel : decode cX1_value 15 = .ok (.aload_n 0, 1)) ?_
    refine r_getR h (r := (b + 1)) f_Law_11 hb (rr_0_1 hb) (by omega) (by decide +kernel : decode cX1_value 16 = .ok (.getfield 11, 3)) ?_
    refine r_iload h 7 rfl (by decide +kernel : decode cX1_value 19 = .ok (.iload 7, 2)) ?_
    obtain ⟨g1, H⟩ := H
    refine r_iald h x7.toNat rfl (at_0_1 hb) g1 (by decide) (by decide +kernel : decode cX1_value 21 = .ok (.iaload, 1)) ?_
    refine r_istore h (L' := [(8, vi (M (b + 1) x7.toNat)), (0, vr b), (1, vi x1), (2, vi x2), (3, vi x3), (4, vi x4), (5, vi x5), (6, vi x6), (7, vi x7)]) (by decide) rfl (by decide +kernel : decode cX1_value 22 = .ok (.istore 8, 2)) ?_
    refine r_iload h 0 rfl (by decide +kernel : decode cX1_value 24 = .ok (.iload 8, 2)) ?_
    refine r_iconst h (v := (-1)) (by decide +kernel : decode cX1_value 26 = .ok (.iconst (-1), 1)) ?_
    obtain ⟨g1, H⟩ := H
    obtain ⟨H1, H2⟩ := H
    refine r_icmp_ne h 65 g1 (by decide) (by decide) (by decide +kernel : decode cX1_value 27 = .ok (.if_icmp .ne 38, 3)) (fun hc => ?_) (fun hc => ?_)
    · have H := H1 hc
      refine r_drop h [1, 2, 3, 4, 5, 6, 7, 8, 0] rfl ?_
      exact H
    · have H := H2 hc
      refine r_iload h 7 rfl (by decide +kernel : decode cX1_value 30 = .ok (.iload 6, 2)) ?_
      refine r_iconst h (v := 1) (by decide +kernel : decode cX1_value 32 = .ok (.iconst 1, 1)) ?_
      obtain ⟨g1, H⟩ := H
      obtain ⟨H1, H2⟩ := H
      refine r_icmp_lt h 65 g1 (by decide) (by decide) (by decide +kernel : decode cX1_value 33 = .ok (.if_icmp .lt 32, 3)) (fun hc => ?_) (fun hc => ?_)
      · have H := H1 hc
        refine r_drop h [1, 2, 3, 4, 5, 6, 7, 8, 0] rfl ?_
        exact H
      · have H := H2 hc
        refine r_aloadn h (q := 0) 1 rfl (by decide +kernel : decode cX1_value 36 = .ok (.aload_n 0, 1)) ?_
        refine r_getR h (r := (b + 2)) f_Law_15 hb (rr_0_2 hb) (by omega) (by decide +kernel : decode cX1_value 37 = .ok (.getfield 15, 3)) ?_
        refine r_iload h 7 rfl (by decide +kernel : decode cX1_value 40 = .ok (.iload 6, 2)) ?_
        refine r_iconst h (v := 1) (by decide +kernel : decode cX1_value 42 = .ok (.iconst 1, 1)) ?_
        refine r_isub h (by decide +kernel : decode cX1_value 43 = .ok (.isub, 1)) ?_
        refine r_aloadn h (q := 0) 1 rfl (by decide +kernel : decode cX1_value 44 = .ok (.aload_n 0, 1)) ?_
        refine r_getR h (r := (b + 2)) f_Law_15 hb (rr_0_2 hb) (by omega) (by decide +kernel : decode cX1_value 45 = .ok (.getfield 15, 3)) ?_
        refine r_iload h 7 rfl (by decide +kernel : decode cX1_value 48 = .ok (.iload 6, 2)) ?_
        refine r_iconst h (v := 1) (by decide +kernel : decode cX1_value 50 = .ok (.iconst 1, 1)) ?_
        refine r_isub h (by decide +kernel : decode cX1_value 51 = .ok (.isub, 1)) ?_
        obtain ⟨g1, H⟩ := H
        refine r_iald h (x6 - 1).toNat rfl (at_0_2 hb) g1 (by decide) (by decide +kernel : decode cX1_value 52 = .ok (.iaload, 1)) ?_
        obtain ⟨g1, H⟩ := H
        obtain ⟨H1, H2⟩ := H
        refine r_if_ne h 60 g1 (by decide) (by decide +kernel : decode cX1_value 53 = .ok (.ifCond .ne 7, 3)) (fun hc => ?_) (fun hc => ?_)
        · have H := H1 hc
          refine r_iconst h (v := 0) (by decide +kernel : decode cX1_value 60 = .ok (.iconst 0, 1)) ?_
          obtain ⟨g1, H⟩ := H
          refine r_iast h (x6 - 1).toNat rfl (at_0_2 hb) g1 (by decide) (by decide +kernel : decode cX1_value 61 = .ok (.iastore, 1)) ?_
          have H := H _ rfl
          revert H
          generalize (upr M (b + 2) (up1 (M (b + 2)) (x6 - 1).toNat 0)) = M1
          intro H
          refine r_goto h 149 (by decide) (by decide +kernel : decode cX1_value 62 = .ok (.goto 87, 3)) ?_
          refine r_iinc h (i := 7) (v := 1) (L' := [(7, vi (x7 + 1)), (8, vi (M (b + 1) x7.toNat)), (0, vr b), (1, vi x1), (2, vi x2), (3, vi x3), (4, vi x4), (5, vi x5), (6, vi x6)]) 8 rfl (by decide) rfl (by decide +kernel : decode cX1_value 149 = .ok (.iinc 7 1, 3)) ?_
          refine r_goto h 6 (by decide) (by decide +kernel : decode cX1_value 152 = .ok (.goto (-146), 3)) ?_
          refine r_drop h [2, 3, 4, 5, 6, 7, 8, 0] rfl ?_
          exact H
        · have H := H2 hc
          refine r_iconst h (v := 1) (by decide +kernel : decode cX1_value 56 = .ok (.iconst 1, 1)) ?_
          refine r_goto h 61 (by decide) (by decide +kernel : decode cX1_value 57 = .ok (.goto 4, 3)) ?_
          obtain ⟨g1, H⟩ := H
          refine r_iast h (x6 - 1).toNat rfl (at_0_2 hb) g1 (by decide) (by decide +kernel : decode cX1_value 61 = .ok (.iastore, 1)) ?_
          have H := H _ rfl
          revert H
          generalize (upr M (b + 2) (up1 (M (b + 2)) (x6 - 1).toNat 1)) = M2
          intro H
          refine r_goto h 149 (by decide) (by decide +kernel : decode cX1_value 62 = .ok (.goto 87, 3)) ?_
          refine r_iinc h (i := 7) (v := 1) (L' := [(7, vi (x7 + 1)), (8, vi (M (b + 1) x7.toNat)), (0, vr b), (1, vi x1), (2, vi x2), (3, vi x3), (4, vi x4), (5, vi x5), (6, vi x6)]) 8 rfl (by decide) rfl (by decide +kernel : decode cX1_value 149 = .ok (.iinc 7 1, 3)) ?_
          refine r_goto h 6 (by decide) (by decide +kernel : decode cX1_value 152 = .ok (.goto (-146), 3)) ?_
          refine r_drop h [2, 3, 4, 5, 6, 7, 8, 0] rfl ?_
          exact H
set_option maxHeartbeats 4000000 in
set_option maxRecDepth 100000 in
theorem w_Law_value_65 {P : Int → Mm → Prop} {K : Nat → Rr → Nat → List (Nat × AV) → List AV → Mm → Prop} (h : EK shC yX1_value cX1_value 9 (some .int) 2 NN NN (QI RRC P) K) (b : Nat) (hb : At shC NN b (.inl 0)) (x1 : Int) (x2 : Int) (x3 : Int) (x4 : Int) (x5 : Int) (x6 : Int) (x7 : Int) (x8 : Int) (M : Mm)
    (H : (rng x8) ∧ ((-1) ≤ x8 → (K NN RRC 120 [(0, vr b), (1, vi x1), (2, vi x2), (3, vi x3), (4, vi x4), (5, vi x5), (6, vi x6), (7, vi x7), (8, vi x8)] [] M)) ∧ (¬ ((-1) ≤ x8) → ((rng x8) ∧ (x8 < (-8) → (K NN RRC 120 [(0, vr b), (1, vi x1), (2, vi x2), (3, vi x3), (4, vi x4), (5, vi x5), (6, vi x6), (7, vi x7), (8, vi x8)] [] M)) ∧ (¬ (x8 < (-8)) → ((rng x6) ∧ (x6 < 2 → (K NN RRC 120 [(0, vr b), (1, vi x1), (2, vi x2), (3, vi x3), (4, vi x4), (5, vi x5), (6, vi x6), (7, vi x7), (8, vi x8)] [] M)) ∧ (¬ (x6 < 2) → ((0 ≤ ((x6 + (-1)) - 1) ∧ ((x6 + (-1)) - 1) < 24) ∧ (0 ≤ (x6 + (-1)) ∧ (x6 + (-1)) < 24) ∧ ∃ P1 : Int → Mm → Prop, S_Law_joined x8 (M (b + 2) ((x6 + (-1)) - 1).toNat) (M (b + 2) (x6 + (-1)).toNat) M P1 ∧ ∀ (r1 : Int) (M1 : Mm), P1 r1 M1 → (0 ≤ ((x6 + (-1)) - 1) ∧ ((x6 + (-1)) - 1) < 24) ∧ ∀ M2 : Mm, M2 = (upr M1 (b + 2) (up1 (M1 (b + 2)) ((x6 + (-1)) - 1).toNat r1)) → K NN RRC 6 [(0, vr b), (1, vi x1), (2, vi x2), (3, vi x3), (4, vi x4), (5, vi x5), (6, vi (x6 + (-1))), (7, vi (x7 + 1))] [] M2))))))) :
    K NN RRC 65 [(0, vr b), (1, vi x1), (2, vi x2), (3, vi x3), (4, vi x4), (5, vi x5), (6, vi x6), (7, vi x7), (8, vi x8)] [] M := by
  refine r_iload h 8 rfl (by decide +kernel : decode cX1_value 65 = .ok (.iload 8, 2)) ?_
  refine r_iconst h (v := (-1)) (by decide +kernel : decode cX1_value 67 = .ok (.iconst (-1), 1)) ?_
  obtain ⟨g1, H⟩ := H
  obtain ⟨H1, H2⟩ := H
  refine r_icmp_ge h 120 g1 (by decide) (by decide) (by decide +kernel : decode cX1_value 68 = .ok (.if_icmp .ge 52, 3)) (fun hc => ?_) (fun hc => ?_)
  · have H := H1 hc
    exact H
  · have H := H2 hc
    refine r_iload h 8 rfl (by decide +kernel : decode cX1_value 71 = .ok (.iload 8, 2)) ?_
    refine r_bipush h (v := (-8)) (by decide) (by decide +kernel : decode cX1_value 73 = .ok (.bipush (-8), 2)) ?_
    obtain ⟨g1, H⟩ := H
    obtain ⟨H1, H2⟩ := H
    refine r_icmp_lt h 120 g1 (by decide) (by decide) (by decide +kernel : decode cX1_value 75 = .ok (.if_icmp .lt 45, 3)) (fun hc => ?_) (fun hc => ?_)
    · have H := H1 hc
      exact H
    · have H := H2 hc
      refine r_iload h 6 rfl (by decide +kernel : decode cX1_value 78 = .ok (.iload 6, 2)) ?_
      refine r_iconst h (v := 2) (by decide +kernel : decode cX1_value 80 = .ok (.iconst 2, 1)) ?_
      obtain ⟨g1, H⟩ := H
      obtain ⟨H1, H2⟩ := H
      refine r_icmp_lt h 120 g1 (by decide) (by decide) (by decide +kernel : decode cX1_value 81 = .ok (.if_icmp .lt 39, 3)) (fun hc => ?_) (fun hc => ?_)
      · have H := H1 hc
        exact H
      · have H := H2 hc
        refine r_iinc h (i := 6) (v := (-1)) (L' := [(6, vi (x6 + (-1))), (0, vr b), (1, vi x1), (2, vi x2), (3, vi x3), (4, vi x4), (5, vi x5), (7, vi x7), (8, vi x8)]) 6 rfl (by decide) rfl (by decide +kernel : decode cX1_value 84 = .ok (.iinc 6 (-1), 3)) ?_
        refine r_aloadn h (q := 0) 1 rfl (by decide +kernel : decode cX1_value 87 = .ok (.aload_n 0, 1)) ?_
        refine r_getR h (r := (b + 2)) f_Law_15 hb (rr_0_2 hb) (by omega) (by decide +kernel : decode cX1_value 88 = .ok (.getfield 15, 3)) ?_
        refine r_iload h 0 rfl (by decide +kernel : decode cX1_value 91 = .ok (.iload 6, 2)) ?_
        refine r_iconst h (v := 1) (by decide +kernel : decode cX1_value 93 = .ok (.iconst 1, 1)) ?_
        refine r_isub h (by decide +kernel : decode cX1_value 94 = .ok (.isub, 1)) ?_
        refine r_iload h 8 rfl (by decide +kernel : decode cX1_value 95 = .ok (.iload 8, 2)) ?_
        refine r_aloadn h (q := 0) 1 rfl (by decide +kernel : decode cX1_value 97 = .ok (.aload_n 0, 1)) ?_
        refine r_getR h (r := (b + 2)) f_Law_15 hb (rr_0_2 hb) (by omega) (by decide +kernel : decode cX1_value 98 = .ok (.getfield 15, 3)) ?_
        refine r_iload h 0 rfl (by decide +kernel : decode cX1_value 101 = .ok (.iload 6, 2)) ?_
        refine r_iconst h (v := 1) (by decide +kernel : decode cX1_value 103 = .ok (.iconst 1, 1)) ?_
        refine r_isub h (by decide +kernel : decode cX1_value 104 = .ok (.isub, 1)) ?_
        obtain ⟨g1, H⟩ := H
        refine r_iald h ((x6 + (-1)) - 1).toNat rfl (at_0_2 hb) g1 (by decide) (by decide +kernel : decode cX1_value 105 = .ok (.iaload, 1)) ?_
        refine r_aloadn h (q := 0) 1 rfl (by decide +kernel : decode cX1_value 106 = .ok (.aload_n 0, 1)) ?_
        refine r_getR h (r := (b + 2)) f_Law_15 hb (rr_0_2 hb) (by omega) (by decide +kernel : decode cX1_value 107 = .ok (.getfield 15, 3)) ?_
        refine r_iload h 0 rfl (by decide +kernel : decode cX1_value 110 = .ok (.iload 6, 2)) ?_
        obtain ⟨g1, H⟩ := H
        refine r_iald h (x6 + (-1)).toNat rfl (at_0_2 hb) g1 (by decide) (by decide +kernel : decode cX1_value 112 = .ok (.iaload, 1)) ?_
        obtain ⟨P1, hSP1, H⟩ := H
        refine r_callS h (as := [vi x8, vi (M (b + 2) ((x6 + (-1)) - 1).toNat), vi (M (b + 2) (x6 + (-1)).toNat)]) (S := [vi ((x6 + (-1)) - 1), vr (b + 2)]) m_Law_95 hSP1 (by decide) (Nat.le_refl _) rfl rfl (Nat.le_of_ble_eq_true rfl) (by decide +kernel : decode cX1_value 113 = .ok (.invokestatic 95, 3)) ?_
        rintro _ _ M1 ⟨rfl, r1, rfl, hP⟩
        have H := H r1 M1 hP
        show K NN RRC _ _ [vi r1, vi ((x6 + (-1)) - 1), vr (b + 2)] _
        obtain ⟨g1, H⟩ := H
        refine r_iast h ((x6 + (-1)) - 1).toNat rfl (at_0_2 hb) g1 (by decide) (by decide +kernel : decode cX1_value 116 = .ok (.iastore, 1)) ?_
        have H := H _ rfl
        revert H
        generalize (upr M1 (b + 2) (up1 (M1 (b + 2)) ((x6 + (-1)) - 1).toNat r1)) = M2
        intro H
        refine r_goto h 149 (by decide) (by decide +kernel : decode cX1_value 117 = .ok (.goto 32, 3)) ?_
        refine r_iinc h (i := 7) (v := 1) (L' := [(7, vi (x7 + 1)), (6, vi (x6 + (-1))), (0, vr b), (1, vi x1), (2, vi x2), (3, vi x3), (4, vi x4), (5, vi x5), (8, vi x8)]) 7 rfl (by decide) rfl (by decide +kernel : decode cX1_value 149 = .ok (.iinc 7 1, 3)) ?_
        refine r_goto h 6 (by decide) (by decide +kernel : decode cX1_value 152 = .ok (.goto (-146), 3)) ?_
        refine r_drop h [2, 3, 4, 5, 6, 7, 1, 0] rfl ?_
        exact H
set_option maxHeartbeats 4000000 in
set_option maxRecDepth 100000 in
theorem w_Law_value_120 {P : Int → Mm → Prop} {K : Nat → Rr → Nat → List (Nat × AV) → List AV → Mm → Prop} (h : EK shC yX1_value cX1_value 9 (some .int) 2 NN NN (QI RRC P) K) (b : Nat) (hb : At shC NN b (.inl 0)) (x1 : Int) (x2 : Int) (x3 : Int) (x4 : Int) (x5 : Int) (x6 : Int) (x7 : Int) (x8 : Int) (M : Mm)
    (H : (rng x6) ∧ (24 ≤ x6 → (K NN RRC 6 [(0, vr b), (1, vi x1), (2, vi x2), (3, vi x3), (4, vi x4), (5, vi x5), (6, vi x6), (7, vi (x7 + 1))] [] M)) ∧ (¬ (24 ≤ x6) → (∃ P1 : Int → Mm → Prop, S_Law_leafValue x8 x1 x2 x3 x4 x5 M P1 ∧ ∀ (r1 : Int) (M1 : Mm), P1 r1 M1 → (0 ≤ x6 ∧ x6 < 24) ∧ ∀ M2 : Mm, M2 = (upr M1 (b + 2) (up1 (M1 (b + 2)) x6.toNat r1)) → K NN RRC 6 [(0, vr b), (1, vi x1), (2, vi x2), (3, vi x3), (4, vi x4), (5, vi x5), (6, vi (x6 + 1)), (7, vi (x7 + 1))] [] M2))) :
    K NN RRC 120 [(0, vr b), (1, vi x1), (2, vi x2), (3, vi x3), (4, vi x4), (5, vi x5), (6, vi x6), (7, vi x7), (8, vi x8)] [] M := by
  refine r_iload h 6 rfl (by decide +kernel : decode cX1_value 120 = .ok (.iload 6, 2)) ?_
  refine r_bipush h (v := 24) (by decide) (by decide +kernel : decode cX1_value 122 = .ok (.bipush 24, 2)) ?_
  obtain ⟨g1, H⟩ := H
  obtain ⟨H1, H2⟩ := H
  refine r_icmp_ge h 149 g1 (by decide) (by decide) (by decide +kernel : decode cX1_value 124 = .ok (.if_icmp .ge 25, 3)) (fun hc => ?_) (fun hc => ?_)
  · have H := H1 hc
    refine r_iinc h (i := 7) (v := 1) (L' := [(7, vi (x7 + 1)), (0, vr b), (1, vi x1), (2, vi x2), (3, vi x3), (4, vi x4), (5, vi x5), (6, vi x6), (8, vi x8)]) 7 rfl (by decide) rfl (by decide +kernel : decode cX1_value 149 = .ok (.iinc 7 1, 3)) ?_
    refine r_goto h 6 (by decide) (by decide +kernel : decode cX1_value 152 = .ok (.goto (-146), 3)) ?_
    refine r_drop h [1, 2, 3, 4, 5, 6, 7, 0] rfl ?_
    exact H
  · have H := H2 hc
    refine r_aloadn h (q := 0) 0 rfl (by decide +kernel : decode cX1_value 127 = .ok (.aload_n 0, 1)) ?_
    refine r_getR h (r := (b + 2)) f_Law_15 hb (rr_0_2 hb) (by omega) (by decide +kernel : decode cX1_value 128 = .ok (.getfield 15, 3)) ?_
    refine r_iload h 6 rfl (by decide +kernel : decode cX1_value 131 = .ok (.iload 6, 2)) ?_
    refine r_iload h 8 rfl (by decide +kernel : decode cX1_value 133 = .ok (.iload 8, 2)) ?_
    refine r_iloadn h (q := 1) 1 rfl (by decide +kernel : decode cX1_value 135 = .ok (.iload_n 1, 1)) ?_
    refine r_iloadn h (q := 2) 2 rfl (by decide +kernel : decode cX1_value 136 = .ok (.iload_n 2, 1)) ?_
    refine r_iloadn h (q := 3) 3 rfl (by decide +kernel : decode cX1_value 137 = .ok (.iload_n 3, 1)) ?_
    refine r_iload h 4 rfl (by decide +kernel : decode cX1_value 138 = .ok (.iload 4, 2)) ?_
    refine r_iload h 5 rfl (by decide +kernel : decode cX1_value 140 = .ok (.iload 5, 2)) ?_
    obtain ⟨P1, hSP1, H⟩ := H
    refine r_callS h (as := [vi x8, vi x1, vi x2, vi x3, vi x4, vi x5]) (S := [vi x6, vr (b + 2)]) m_Law_99 hSP1 (by decide) (Nat.le_refl _) rfl rfl (Nat.le_of_ble_eq_true rfl) (by decide +kernel : decode cX1_value 142 = .ok (.invokestatic 99, 3)) ?_
    rintro _ _ M1 ⟨rfl, r1, rfl, hP⟩
    have H := H r1 M1 hP
    show K NN RRC _ _ [vi r1, vi x6, vr (b + 2)] _
    obtain ⟨g1, H⟩ := H
    refine r_iast h x6.toNat rfl (at_0_2 hb) g1 (by decide) (by decide +kernel : decode cX1_value 145 = .ok (.iastore, 1)) ?_
    have H := H _ rfl
    revert H
    generalize (upr M1 (b + 2) (up1 (M1 (b + 2)) x6.toNat r1)) = M2
    intro H
    refine r_iinc h (i := 6) (v := 1) (L' := [(6, vi (x6 + 1)), (0, vr b), (1, vi x1), (2, vi x2), (3, vi x3), (4, vi x4), (5, vi x5), (7, vi x7), (8, vi x8)]) 6 rfl (by decide) rfl (by decide +kernel : decode cX1_value 146 = .ok (.iinc 6 1, 3)) ?_
    refine r_iinc h (i := 7) (v := 1) (L' := [(7, vi (x7 + 1)), (6, vi (x6 + 1)), (0, vr b), (1, vi x1), (2, vi x2), (3, vi x3), (4, vi x4), (5, vi x5), (8, vi x8)]) 7 rfl (by decide) rfl (by decide +kernel : decode cX1_value 149 = .ok (.iinc 7 1, 3)) ?_
    refine r_goto h 6 (by decide) (by decide +kernel : decode cX1_value 152 = .ok (.goto (-146), 3)) ?_
    refine r_drop h [2, 3, 4, 5, 6, 7, 1, 0] rfl ?_
    exact H
set_option maxHeartbeats 4000000 in
set_option maxRecDepth 100000 in
theorem w_Town_forgetAll_0 {P : Mm → Prop} {K : Nat → Rr → Nat → List (Nat × AV) → List AV → Mm → Prop} (h : EK shC yX8_forgetAll cX8_forgetAll 1 none 2 NN NN (QV RRC P) K) (b : Nat) (hb : At shC NN b (.inl 7)) (M : Mm)
    (H : ∀ M1 : Mm, M1 = (upr M b (up1 (M b) 9 0)) → ∀ M2 : Mm, M2 = (upr M1 b (up1 (M1 b) 10 5)) → ∀ M3 : Mm, M3 = (upr M2 b (up1 (M2 b) 11 3)) → ∀ M4 : Mm, M4 = (upr M3 (b + 7) (up1 (M3 (b + 7)) 0 1)) → ∀ M5 : Mm, M5 = (upr M4 b (up1 (M4 b) 12 1)) → ∃ P6 : Mm → Prop, S_Law_forget (b + 8) M5 P6 ∧ ∀ M6 : Mm, P6 M6 → ∃ P7 : Mm → Prop, S_Law_forget (b + 11) M6 P7 ∧ ∀ M7 : Mm, P7 M7 → ∀ M8 : Mm, M8 = (upr M7 b (up1 (M7 b) 13 0)) → P M8) :
    K NN RRC 0 [(0, vr b)] [] M := by
  refine r_aloadn h (q := 0) 0 rfl (by decide +kernel : decode cX8_forgetAll 0 = .ok (.aload_n 0, 1)) ?_
  refine r_iconst h (v := 0) (by decide +kernel : decode cX8_forgetAll 1 = .ok (.iconst 0, 1)) ?_
  refine r_putI h f_Town_49 hb rfl rfl (by decide +kernel : decode cX8_forgetAll 2 = .ok (.putfield 49, 3)) ?_
  have H := H _ rfl
  revert H
  generalize (upr M b (up1 (M b) 9 0)) = M1
  intro H
  refine r_aloadn h (q := 0) 0 rfl (by decide +kernel : decode cX8_forgetAll 5 = .ok (.aload_n 0, 1)) ?_
  refine r_iconst h (v := 5) (by decide +kernel : decode cX8_forgetAll 6 = .ok (.iconst 5, 1)) ?_
  refine r_putI h f_Town_53 hb rfl rfl (by decide +kernel : decode cX8_forgetAll 7 = .ok (.putfield 53, 3)) ?_
  have H := H _ rfl
  revert H
  generalize (upr M1 b (up1 (M1 b) 10 5)) = M2
  intro H
  refine r_aloadn h (q := 0) 0 rfl (by decide +kernel : decode cX8_forgetAll 10 = .ok (.aload_n 0, 1)) ?_
  refine r_iconst h (v := 3) (by decide +kernel : decode cX8_forgetAll 11 = .ok (.iconst 3, 1)) ?_
  refine r_putI h f_Town_56 hb rfl rfl (by decide +kernel : decode cX8_forgetAll 12 = .ok (.putfield 56, 3)) ?_
  have H := H _ rfl
  revert H
  generalize (upr M2 b (up1 (M2 b) 11 3)) = M3
  intro H
  refine r_aloadn h (q := 0) 0 rfl (by decide +kernel : decode cX8_forgetAll 15 = .ok (.aload_n 0, 1)) ?_
  refine r_getR h (r := (b + 7)) f_Town_31 hb (rr_7_6 hb) (by omega) (by decide +kernel : decode cX8_forgetAll 16 = .ok (.getfield 31, 3)) ?_
  refine r_iconst h (v := 0) (by decide +kernel : decode cX8_forgetAll 19 = .ok (.iconst 0, 1)) ?_
  refine r_iconst h (v := 1) (by decide +kernel : decode cX8_forgetAll 20 = .ok (.iconst 1, 1)) ?_
  refine r_iast h 0 rfl (at_7_6 hb) (by decide) (by decide) (by decide +kernel : decode cX8_forgetAll 21 = .ok (.iastore, 1)) ?_
  have H := H _ rfl
  revert H
  generalize (upr M3 (b + 7) (up1 (M3 (b + 7)) 0 1)) = M4
  intro H
  refine r_aloadn h (q := 0) 0 rfl (by decide +kernel : decode cX8_forgetAll 22 = .ok (.aload_n 0, 1)) ?_
  refine r_iconst h (v := 1) (by decide +kernel : decode cX8_forgetAll 23 = .ok (.iconst 1, 1)) ?_
  refine r_putI h f_Town_59 hb rfl rfl (by decide +kernel : decode cX8_forgetAll 24 = .ok (.putfield 59, 3)) ?_
  have H := H _ rfl
  revert H
  generalize (upr M4 b (up1 (M4 b) 12 1)) = M5
  intro H
  refine r_aloadn h (q := 0) 0 rfl (by decide +kernel : decode cX8_forgetAll 27 = .ok (.aload_n 0, 1)) ?_
  refine r_getR h (r := (b + 8)) f_Town_39 hb (rr_7_7 hb) (by omega) (by decide +kernel : decode cX8_forgetAll 28 = .ok (.getfield 39, 3)) ?_
  obtain ⟨P6, hSP6, H⟩ := H
  refine r_callV h (as := []) (S := []) (b := (b + 8)) m_Town_62 hSP6 (by decide) (Nat.le_refl _) rfl (at_7_7 hb) rfl (Nat.le_of_ble_eq_true rfl) (by decide +kernel : decode cX8_forgetAll 31 = .ok (.invokevirtual 62, 3)) ?_
  rintro _ _ M6 ⟨rfl, rfl, hP⟩
  have H := H M6 hP
  show K NN RRC _ _ [] _
  refine r_aloadn h (q := 0) 0 rfl (by decide +kernel : decode cX8_forgetAll 34 = .ok (.aload_n 0, 1)) ?_
  refine r_getR h (r := (b + 11)) f_Town_43 hb (rr_7_8 hb) (by omega) (by decide +kernel : decode cX8_forgetAll 35 = .ok (.getfield 43, 3)) ?_
  obtain ⟨P7, hSP7, H⟩ := H
  refine r_callV h (as := []) (S := []) (b := (b + 11)) m_Town_62 hSP7 (by decide) (Nat.le_refl _) rfl (at_7_8 hb) rfl (Nat.le_of_ble_eq_true rfl) (by decide +kernel : decode cX8_forgetAll 38 = .ok (.invokevirtual 62, 3)) ?_
  rintro _ _ M7 ⟨rfl, rfl, hP⟩
  have H := H M7 hP
  show K NN RRC _ _ [] _
  refine r_aloadn h (q := 0) 0 rfl (by decide +kernel : decode cX8_forgetAll 41 = .ok (.aload_n 0, 1)) ?_
  refine r_iconst h (v := 0) (by decide +kernel : decode cX8_forgetAll 42 = .ok (.iconst 0, 1)) ?_
  refine r_putI h f_Town_65 hb rfl rfl (by decide +kernel : decode cX8_forgetAll 43 = .ok (.putfield 65, 3)) ?_
  have H := H _ rfl
  revert H
  generalize (upr M7 b (up1 (M7 b) 13 0)) = M8
  intro H
  exact r_vret h rfl (by decide +kernel : decode cX8_forgetAll 46 = .ok (.return_, 1)) rfl ⟨rfl, rfl, H⟩
theorem W_Town_forgetAll (b : Nat) (hb : At shC NN b (.inl 7)) (M : Mm) {P : Mm → Prop} (H : ∀ M1 : Mm, M1 = (upr M b (up1 (M b) 9 0)) → ∀ M2 : Mm, M2 = (upr M1 b (up1 (M1 b) 10 5)) → ∀ M3 : Mm, M3 = (upr M2 b (up1 (M2 b) 11 3)) → ∀ M4 : Mm, M4 = (upr M3 (b + 7) (up1 (M3 (b + 7)) 0 1)) → ∀ M5 : Mm, M5 = (upr M4 b (up1 (M4 b) 12 1)) → ∃ P6 : Mm → Prop, S_Law_forget (b + 8) M5 P6 ∧ ∀ M6 : Mm, P6 M6 → ∃ P7 : Mm → Prop, S_Law_forget (b + 11) M6 P7 ∧ ∀ M7 : Mm, P7 M7 → ∀ M8 : Mm, M8 = (upr M7 b (up1 (M7 b) 13 0)) → P M8) : S_Town_forgetAll b M P := e_Town_forgetAll b M (fun _ h => w_Town_forgetAll_0 h b hb M H)
set_option maxHeartbeats 4000000 in
set_option maxRecDepth 100000 in
theorem w_Town_rainOf_0 {P : Int → Mm → Prop} {K : Nat → Rr → Nat → List (Nat × AV) → List AV → Mm → Prop} (h : EK shC yX8_rainOf cX8_rainOf 2 (some .int) 2 NN NN (QI RRC P) K) (b : Nat) (hb : At shC NN b (.inl 7)) (x1 : Int) (M : Mm)
    (H : (rng (M b 12)) ∧ ((M b 12) ≤ 0 → (P 0 M)) ∧ (¬ ((M b 12) ≤ 0) → (∃ P1 : Int → Mm → Prop, S_JMath_floorMod x1 (M b 12) M P1 ∧ ∀ (r1 : Int) (M1 : Mm), P1 r1 M1 → (0 ≤ r1 ∧ r1 < 12) ∧ P (M1 (b + 7) r1.toNat) M1))) :
    K NN RRC 0 [(0, vr b), (1, vi x1)] [] M := by
  refine r_aloadn h (q := 0) 0 rfl (by decide +kernel : decode cX8_rainOf 0 = .ok (.aload_n 0, 1)) ?_
  refine r_getI h f_Town_59 hb (by decide +kernel : decode cX8_rainOf 1 = .ok (.getfield 59, 3)) ?_
  obtain ⟨g1, H⟩ := H
  obtain ⟨H1, H2⟩ := H
  refine r_if_le h 23 g1 (by decide) (by decide +kernel : decode cX8_rainOf 4 = .ok (.ifCond .le 19, 3)) (fun hc => ?_) (fun hc => ?_)
  · have H := H1 hc
    refine r_iconst h (v := 0) (by decide +kernel : decode cX8_rainOf 23 = .ok (.iconst 0, 1)) ?_
    exact r_iret h rfl (by decide +kernel : decode cX8_rainOf 24 = .ok (.ireturn, 1)) rfl ⟨rfl, _, rfl, H⟩
  · have H := H2 hc
    refine r_aloadn h (q := 0) 0 rfl (by decide +kernel : decode cX8_rainOf 7 = .ok (.aload_n 0, 1)) ?_
    refine r_getR h (r := (b + 7)) f_Town_31 hb (rr_7_6 hb) (by omega) (by decide +kernel : decode cX8_rainOf 8 = .ok (.getfield 31, 3)) ?_
    refine r_iloadn h (q := 1) 1 rfl (by decide +kernel : decode cX8_rainOf 11 = .ok (.iload_n 1, 1)) ?_
    refine r_aloadn h (q := 0) 0 rfl (by decide +kernel : decode cX8_rainOf 12 = .ok (.aload_n 0, 1)) ?_
    refine r_getI h f_Town_59 hb (by decide +kernel : decode cX8_rainOf 13 = .ok (.getfield 59, 3)) ?_
    obtain ⟨P1, hSP1, H⟩ := H
    refine r_callS h (as := [vi x1, vi (M b 12)]) (S := [vr (b + 7)]) m_Town_68 hSP1 (by decide) (Nat.le_refl _) rfl rfl (Nat.le_of_ble_eq_true rfl) (by decide +kernel : decode cX8_rainOf 16 = .ok (.invokestatic 68, 3)) ?_
    rintro _ _ M1 ⟨rfl, r1, rfl, hP⟩
    have H := H r1 M1 hP
    show K NN RRC _ _ [vi r1, vr (b + 7)] _
    obtain ⟨g1, H⟩ := H
    refine r_iald h r1.toNat rfl (at_7_6 hb) g1 (by decide) (by decide +kernel : decode cX8_rainOf 19 = .ok (.iaload, 1)) ?_
    refine r_goto h 24 (by decide) (by decide +kernel : decode cX8_rainOf 20 = .ok (.goto 4, 3)) ?_
    exact r_iret h rfl (by decide +kernel : decode cX8_rainOf 24 = .ok (.ireturn, 1)) rfl ⟨rfl, _, rfl, H⟩
theorem W_Town_rainOf (b : Nat) (hb : At shC NN b (.inl 7)) (x1 : Int) (M : Mm) {P : Int → Mm → Prop} (H : (rng (M b 12)) ∧ ((M b 12) ≤ 0 → (P 0 M)) ∧ (¬ ((M b 12) ≤ 0) → (∃ P1 : Int → Mm → Prop, S_JMath_floorMod x1 (M b 12) M P1 ∧ ∀ (r1 : Int) (M1 : Mm), P1 r1 M1 → (0 ≤ r1 ∧ r1 < 12) ∧ P (M1 (b + 7) r1.toNat) M1))) : S_Town_rainOf b x1 M P := e_Town_rainOf b x1 M (fun _ h => w_Town_rainOf_0 h b hb x1 M H)
set_option maxHeartbeats 4000000 in
set_option maxRecDepth 100000 in
theorem w_Town_kindOf_0 {P : Int → Mm → Prop} {K : Nat → Rr → Nat → List (Nat × AV) → List AV → Mm → Prop} (h : EK shC yX8_kindOf cX8_kindOf 1 (some .int) 2 NN NN (QI RRC P) K) (k0 : Nat) (hk0 : k0 < 27) (M : Mm)
    (H : ∃ P1 : Int → Mm → Prop, S_JEnum_ordinal k0 M P1 ∧ ∀ (r1 : Int) (M1 : Mm), P1 r1 M1 → (0 ≤ r1 ∧ r1 < 27) ∧ ((wS.getD r1.toNat 0) = 13 → (P 0 M1)) ∧ ((wS.getD r1.toNat 0) = 14 → (P 1 M1)) ∧ ((wS.getD r1.toNat 0) = 15 → (P 2 M1)) ∧ ((wS.getD r1.toNat 0) = 16 → (P 3 M1)) ∧ ((wS.getD r1.toNat 0) ≠ 13 ∧ (wS.getD r1.toNat 0) ≠ 14 ∧ (wS.getD r1.toNat 0) ≠ 15 ∧ (wS.getD r1.toNat 0) ≠ 16 → (P (-1) M1))) :
    K NN RRC 0 [(0, ve k0)] [] M := by
  refine r_getS h zF_28 rfl (inT3 105 rfl rfl) (by decide +kernel : decode cX8_kindOf 0 = .ok (.getstatic 108, 3)) ?_
  refine r_aloadEn h (q := 0) 0 rfl (by decide +kernel : decode cX8_kindOf 3 = .ok (.aload_n 0, 1)) ?_
  obtain ⟨P1, hSP1, H⟩ := H
  refine r_callO h (as := []) (S := [ve 28]) (b := k0) m_Town_117 hSP1 (by decide) (Nat.le_refl _) rfl (oC_w hk0) rfl (Nat.le_of_ble_eq_true rfl) (by decide +kernel : decode cX8_kindOf 4 = .ok (.invokevirtual 117, 3)) ?_
  rintro _ _ M1 ⟨rfl, r1, rfl, hP⟩
  have H := H r1 M1 hP
  show K NN RRC _ _ [vi r1, ve 28] _
  obtain ⟨g1, H⟩ := H
  refine r_tI h tF_sw g1 (by decide) rfl (by decide +kernel : decode cX8_kindOf 7 = .ok (.iaload, 1)) ?_
  obtain ⟨H1, H⟩ := H
  by_cases hk0 : (wS.getD r1.toNat 0) = 13
  · have H := H1 hk0
    refine r_tabIn h 40 (wS_rng _) (by rw [hk0]; decide) (by rw [hk0]; rfl) (by decide) (by decide +kernel : decode cX8_kindOf 8 = .ok (.tableswitch 40 13 16 #[32, 34, 36, 38], 32)) ?_
    refine r_iconst h (v := 0) (by decide +kernel : decode cX8_kindOf 40 = .ok (.iconst 0, 1)) ?_
    exact r_iret h rfl (by decide +kernel : decode cX8_kindOf 41 = .ok (.ireturn, 1)) rfl ⟨rfl, _, rfl, H⟩
  obtain ⟨H1, H⟩ := H
  by_cases hk1 : (wS.getD r1.toNat 0) = 14
  · have H := H1 hk1
    refine r_tabIn h 42 (wS_rng _) (by rw [hk1]; decide) (by rw [hk1]; rfl) (by decide) (by decide +kernel : decode cX8_kindOf 8 = .ok (.tableswitch 40 13 16 #[32, 34, 36, 38], 32)) ?_
    refine r_iconst h (v := 1) (by decide +kernel : decode cX8_kindOf 42 = .ok (.iconst 1, 1)) ?_
    exact r_iret h rfl (by decide +kernel : decode cX8_kindOf 43 = .ok (.ireturn, 1)) rfl ⟨rfl, _, rfl, H⟩
  obtain ⟨H1, H⟩ := H
  by_cases hk2 : (wS.getD r1.toNat 0) = 15
  · have H := H1 hk2
    refine r_tabIn h 44 (wS_rng _) (by rw [hk2]; decide) (by rw [hk2]; rfl) (by decide) (by decide +kernel : decode cX8_kindOf 8 = .ok (.tableswitch 40 13 16 #[32, 34, 36, 38], 32)) ?_
    refine r_iconst h (v := 2) (by decide +kernel : decode cX8_kindOf 44 = .ok (.iconst 2, 1)) ?_
    exact r_iret h rfl (by decide +kernel : decode cX8_kindOf 45 = .ok (.ireturn, 1)) rfl ⟨rfl, _, rfl, H⟩
  obtain ⟨H1, H⟩ := H
  by_cases hk3 : (wS.getD r1.toNat 0) = 16
  · have H := H1 hk3
    refine r_tabIn h 46 (wS_rng _) (by rw [hk3]; decide) (by rw [hk3]; rfl) (by decide) (by decide +kernel : decode cX8_kindOf 8 = .ok (.tableswitch 40 13 16 #[32, 34, 36, 38], 32)) ?_
    refine r_iconst h (v := 3) (by decide +kernel : decode cX8_kindOf 46 = .ok (.iconst 3, 1)) ?_
    exact r_iret h rfl (by decide +kernel : decode cX8_kindOf 47 = .ok (.ireturn, 1)) rfl ⟨rfl, _, rfl, H⟩
  have H := H ⟨hk0, hk1, hk2, hk3⟩
  refine r_tabOut h 48 (wS_rng _) (tout_13_16 hk0 hk1 hk2 hk3) (by decide) (by decide +kernel : decode cX8_kindOf 8 = .ok (.tableswitch 40 13 16 #[32, 34, 36, 38], 32)) ?_
  refine r_iconst h (v := (-1)) (by decide +kernel : decode cX8_kindOf 48 = .ok (.iconst (-1), 1)) ?_
  exact r_iret h rfl (by decide +kernel : decode cX8_kindOf 49 = .ok (.ireturn, 1)) rfl ⟨rfl, _, rfl, H⟩
theorem W_Town_kindOf (k0 : Nat) (hk0 : k0 < 27) (M : Mm) {P : Int → Mm → Prop} (H : ∃ P1 : Int → Mm → Prop, S_JEnum_ordinal k0 M P1 ∧ ∀ (r1 : Int) (M1 : Mm), P1 r1 M1 → (0 ≤ r1 ∧ r1 < 27) ∧ ((wS.getD r1.toNat 0) = 13 → (P 0 M1)) ∧ ((wS.getD r1.toNat 0) = 14 → (P 1 M1)) ∧ ((wS.getD r1.toNat 0) = 15 → (P 2 M1)) ∧ ((wS.getD r1.toNat 0) = 16 → (P 3 M1)) ∧ ((wS.getD r1.toNat 0) ≠ 13 ∧ (wS.getD r1.toNat 0) ≠ 14 ∧ (wS.getD r1.toNat 0) ≠ 15 ∧ (wS.getD r1.toNat 0) ≠ 16 → (P (-1) M1))) : S_Town_kindOf k0 M P := e_Town_kindOf k0 M (fun _ h => w_Town_kindOf_0 h k0 hk0 M H)
set_option maxHeartbeats 4000000 in
set_option maxRecDepth 100000 in
theorem w_Town_houseNamed_0 {P : Int → Mm → Prop} {K : Nat → Rr → Nat → List (Nat × AV) → List AV → Mm → Prop} (h : EK shC yX8_houseNamed cX8_houseNamed 3 (some .int) 2 NN NN (QI RRC P) K) (b : Nat) (hb : At shC NN b (.inl 7)) (b1 : Nat) (hb1 : At shC NN b1 (.inl 6)) (M : Mm)
    (H : ∃ P1 : Int → Mm → Prop, S_Tape_isName b1 M P1 ∧ ∀ (r1 : Int) (M1 : Mm), P1 r1 M1 → (rng r1) ∧ (r1 ≠ 0 → (∃ P2 : Int → Mm → Prop, S_Town_numberOf b (M1 b1 7) M1 P2 ∧ ∀ (r2 : Int) (M2 : Mm), P2 r2 M2 → (rng r2) ∧ (r2 ≠ (-1) → (P r2 M2)) ∧ (r2 = (-1) → (∃ P3 : Int → Mm → Prop, S_Tape_fail b1 2 M2 P3 ∧ ∀ (r3 : Int) (M3 : Mm), P3 r3 M3 → P r2 M3)))) ∧ (r1 = 0 → (∃ P4 : Int → Mm → Prop, S_Tape_fail b1 1 M1 P4 ∧ ∀ (r4 : Int) (M4 : Mm), P4 r4 M4 → P (-1) M4))) :
    K NN RRC 0 [(0, vr b), (1, vr b1)] [] M := by
  refine r_aloadn h (q := 1) 1 rfl (by decide +kernel : decode cX8_houseNamed 0 = .ok (.aload_n 1, 1)) ?_
  obtain ⟨P1, hSP1, H⟩ := H
  refine r_callV h (as := []) (S := []) (b := b1) m_Town_151 hSP1 (by decide) (Nat.le_refl _) rfl hb1 rfl (Nat.le_of_ble_eq_true rfl) (by decide +kernel : decode cX8_houseNamed 1 = .ok (.invokevirtual 151, 3)) ?_
  rintro _ _ M1 ⟨rfl, r1, rfl, hP⟩
  have H := H r1 M1 hP
  show K NN RRC _ _ [vi r1] _
  obtain ⟨g1, H⟩ := H
  obtain ⟨H1, H2⟩ := H
  refine r_if_ne h 15 g1 (by decide) (by decide +kernel : decode cX8_houseNamed 4 = .ok (.ifCond .ne 11, 3)) (fun hc => ?_) (fun hc => ?_)
  · have H := H1 hc
    refine r_aloadn h (q := 0) 0 rfl (by decide +kernel : decode cX8_houseNamed 15 = .ok (.aload_n 0, 1)) ?_
    refine r_aloadn h (q := 1) 1 rfl (by decide +kernel : decode cX8_houseNamed 16 = .ok (.aload_n 1, 1)) ?_
    refine r_getL h f_Town_154 hb1 (by decide +kernel : decode cX8_houseNamed 17 = .ok (.getfield 154, 3)) ?_
    obtain ⟨P2, hSP2, H⟩ := H
    refine r_callV h (as := [vl (M1 b1 7)]) (S := []) (b := b) m_Town_158 hSP2 (by decide) (Nat.le_refl _) rfl hb rfl (Nat.le_of_ble_eq_true rfl) (by decide +kernel : decode cX8_houseNamed 20 = .ok (.invokevirtual 158, 3)) ?_
    rintro _ _ M2 ⟨rfl, r2, rfl, hP⟩
    have H := H r2 M2 hP
    show K NN RRC _ _ [vi r2] _
    refine r_istoren h (q := 2) (L' := [(2, vi r2), (0, vr b), (1, vr b1)]) (by decide) rfl (by decide +kernel : decode cX8_houseNamed 23 = .ok (.istore_n 2, 1)) ?_
    refine r_iloadn h (q := 2) 0 rfl (by decide +kernel : decode cX8_houseNamed 24 = .ok (.iload_n 2, 1)) ?_
    refine r_iconst h (v := (-1)) (by decide +kernel : decode cX8_houseNamed 25 = .ok (.iconst (-1), 1)) ?_
    obtain ⟨g1, H⟩ := H
    obtain ⟨H1, H2⟩ := H
    refine r_icmp_ne h 35 g1 (by decide) (by decide) (by decide +kernel : decode cX8_houseNamed 26 = .ok (.if_icmp .ne 9, 3)) (fun hc => ?_) (fun hc => ?_)
    · have H := H1 hc
      refine r_iloadn h (q := 2) 0 rfl (by decide +kernel : decode cX8_houseNamed 35 = .ok (.iload_n 2, 1)) ?_
      exact r_iret h rfl (by decide +kernel : decode cX8_houseNamed 36 = .ok (.ireturn, 1)) rfl ⟨rfl, _, rfl, H⟩
    · have H := H2 hc
      refine r_aloadn h (q := 1) 2 rfl (by decide +kernel : decode cX8_houseNamed 29 = .ok (.aload_n 1, 1)) ?_
      refine r_iconst h (v := 2) (by decide +kernel : decode cX8_houseNamed 30 = .ok (.iconst 2, 1)) ?_
      obtain ⟨P3, hSP3, H⟩ := H
      refine r_callV h (as := [vi 2]) (S := []) (b := b1) m_Town_145 hSP3 (by decide) (Nat.le_refl _) rfl hb1 rfl (Nat.le_of_ble_eq_true rfl) (by decide +kernel : decode cX8_houseNamed 31 = .ok (.invokevirtual 145, 3)) ?_
      rintro _ _ M3 ⟨rfl, r3, rfl, hP⟩
      have H := H r3 M3 hP
      show K NN RRC _ _ [vi r3] _
      refine r_pop h rfl (by decide +kernel : decode cX8_houseNamed 34 = .ok (.pop, 1)) ?_
      refine r_iloadn h (q := 2) 0 rfl (by decide +kernel : decode cX8_houseNamed 35 = .ok (.iload_n 2, 1)) ?_
      exact r_iret h rfl (by decide +kernel : decode cX8_houseNamed 36 = .ok (.ireturn, 1)) rfl ⟨rfl, _, rfl, H⟩
  · have H := H2 hc
    refine r_aloadn h (q := 1) 1 rfl (by decide +kernel : decode cX8_houseNamed 7 = .ok (.aload_n 1, 1)) ?_
    refine r_iconst h (v := 1) (by decide +kernel : decode cX8_houseNamed 8 = .ok (.iconst 1, 1)) ?_
    obtain ⟨P4, hSP4, H⟩ := H
    refine r_callV h (as := [vi 1]) (S := []) (b := b1) m_Town_145 hSP4 (by decide) (Nat.le_refl _) rfl hb1 rfl (Nat.le_of_ble_eq_true rfl) (by decide +kernel : decode cX8_houseNamed 9 = .ok (.invokevirtual 145, 3)) ?_
    rintro _ _ M4 ⟨rfl, r4, rfl, hP⟩
    have H := H r4 M4 hP
    show K NN RRC _ _ [vi r4] _
    refine r_pop h rfl (by decide +kernel : decode cX8_houseNamed 12 = .ok (.pop, 1)) ?_
    refine r_iconst h (v := (-1)) (by decide +kernel : decode cX8_houseNamed 13 = .ok (.iconst (-1), 1)) ?_
    exact r_iret h rfl (by decide +kernel : decode cX8_houseNamed 14 = .ok (.ireturn, 1)) rfl ⟨rfl, _, rfl, H⟩
theorem W_Town_houseNamed (b : Nat) (hb : At shC NN b (.inl 7)) (b1 : Nat) (hb1 : At shC NN b1 (.inl 6)) (M : Mm) {P : Int → Mm → Prop} (H : ∃ P1 : Int → Mm → Prop, S_Tape_isName b1 M P1 ∧ ∀ (r1 : Int) (M1 : Mm), P1 r1 M1 → (rng r1) ∧ (r1 ≠ 0 → (∃ P2 : Int → Mm → Prop, S_Town_numberOf b (M1 b1 7) M1 P2 ∧ ∀ (r2 : Int) (M2 : Mm), P2 r2 M2 → (rng r2) ∧ (r2 ≠ (-1) → (P r2 M2)) ∧ (r2 = (-1) → (∃ P3 : Int → Mm → Prop, S_Tape_fail b1 2 M2 P3 ∧ ∀ (r3 : Int) (M3 : Mm), P3 r3 M3 → P r2 M3)))) ∧ (r1 = 0 → (∃ P4 : Int → Mm → Prop, S_Tape_fail b1 1 M1 P4 ∧ ∀ (r4 : Int) (M4 : Mm), P4 r4 M4 → P (-1) M4))) : S_Town_houseNamed b b1 M P := e_Town_houseNamed b b1 M (fun _ h => w_Town_houseNamed_0 h b hb b1 hb1 M H)
set_option maxHeartbeats 4000000 in
set_option maxRecDepth 100000 in
theorem w_Years_deedOf_0 {P : Int → Mm → Prop} {K : Nat → Rr → Nat → List (Nat × AV) → List AV → Mm → Prop} (h : EK shC yX10_deedOf cX10_deedOf 1 (some .int) 2 NN NN (QI RRC P) K) (k0 : Nat) (hk0 : k0 < 27) (M : Mm)
    (H : ∃ P1 : Int → Mm → Prop, S_JEnum_ordinal k0 M P1 ∧ ∀ (r1 : Int) (M1 : Mm), P1 r1 M1 → (0 ≤ r1 ∧ r1 < 27) ∧ ((wS.getD r1.toNat 0) = 17 → (P 0 M1)) ∧ ((wS.getD r1.toNat 0) = 18 → (P 1 M1)) ∧ ((wS.getD r1.toNat 0) = 19 → (P 2 M1)) ∧ ((wS.getD r1.toNat 0) = 20 → (P 3 M1)) ∧ ((wS.getD r1.toNat 0) ≠ 17 ∧ (wS.getD r1.toNat 0) ≠ 18 ∧ (wS.getD r1.toNat 0) ≠ 19 ∧ (wS.getD r1.toNat 0) ≠ 20 → (P (-1) M1))) :
    K NN RRC 0 [(0, ve k0)] [] M := by
  refine r_getS h zF_28 rfl (inT4 7 rfl rfl) (by decide +kernel : decode cX10_deedOf 0 = .ok (.getstatic 65, 3)) ?_
  refine r_aloadEn h (q := 0) 0 rfl (by decide +kernel : decode cX10_deedOf 3 = .ok (.aload_n 0, 1)) ?_
  obtain ⟨P1, hSP1, H⟩ := H
  refine r_callO h (as := []) (S := [ve 28]) (b := k0) m_Years_70 hSP1 (by decide) (Nat.le_refl _) rfl (oC_w hk0) rfl (Nat.le_of_ble_eq_true rfl) (by decide +kernel : decode cX10_deedOf 4 = .ok (.invokevirtual 70, 3)) ?_
  rintro _ _ M1 ⟨rfl, r1, rfl, hP⟩
  have H := H r1 M1 hP
  show K NN RRC _ _ [vi r1, ve 28] _
  obtain ⟨g1, H⟩ := H
  refine r_tI h tF_sw g1 (by decide) rfl (by decide +kernel : decode cX10_deedOf 7 = .ok (.iaload, 1)) ?_
  obtain ⟨H1, H⟩ := H
  by_cases hk0 : (wS.getD r1.toNat 0) = 17
  · have H := H1 hk0
    refine r_tabIn h 40 (wS_rng _) (by rw [hk0]; decide) (by rw [hk0]; rfl) (by decide) (by decide +kernel : decode cX10_deedOf 8 = .ok (.tableswitch 40 17 20 #[32, 34, 36, 38], 32)) ?_
    refine r_iconst h (v := 0) (by decide +kernel : decode cX10_deedOf 40 = .ok (.iconst 0, 1)) ?_
    exact r_iret h rfl (by decide +kernel : decode cX10_deedOf 41 = .ok (.ireturn, 1)) rfl ⟨rfl, _, rfl, H⟩
  obtain ⟨H1, H⟩ := H
  by_cases hk1 : (wS.getD r1.toNat 0) = 18
  · have H := H1 hk1
    refine r_tabIn h 42 (wS_rng _) (by rw [hk1]; decide) (by rw [hk1]; rfl) (by decide) (by decide +kernel : decode cX10_deedOf 8 = .ok (.tableswitch 40 17 20 #[32, 34, 36, 38], 32)) ?_
    refine r_iconst h (v := 1) (by decide +kernel : decode cX10_deedOf 42 = .ok (.iconst 1, 1)) ?_
    exact r_iret h rfl (by decide +kernel : decode cX10_deedOf 43 = .ok (.ireturn, 1)) rfl ⟨rfl, _, rfl, H⟩
  obtain ⟨H1, H⟩ := H
  by_cases hk2 : (wS.getD r1.toNat 0) = 19
  · have H := H1 hk2
    refine r_tabIn h 44 (wS_rng _) (by rw [hk2]; decide) (by rw [hk2]; rfl) (by decide) (by decide +kernel : decode cX10_deedOf 8 = .ok (.tableswitch 40 17 20 #[32, 34, 36, 38], 32)) ?_
    refine r_iconst h (v := 2) (by decide +kernel : decode cX10_deedOf 44 = .ok (.iconst 2, 1)) ?_
    exact r_iret h rfl (by decide +kernel : decode cX10_deedOf 45 = .ok (.ireturn, 1)) rfl ⟨rfl, _, rfl, H⟩
  obtain ⟨H1, H⟩ := H
  by_cases hk3 : (wS.getD r1.toNat 0) = 20
  · have H := H1 hk3
    refine r_tabIn h 46 (wS_rng _) (by rw [hk3]; decide) (by rw [hk3]; rfl) (by decide) (by decide +kernel : decode cX10_deedOf 8 = .ok (.tableswitch 40 17 20 #[32, 34, 36, 38], 32)) ?_
    refine r_iconst h (v := 3) (by decide +kernel : decode cX10_deedOf 46 = .ok (.iconst 3, 1)) ?_
    exact r_iret h rfl (by decide +kernel : decode cX10_deedOf 47 = .ok (.ireturn, 1)) rfl ⟨rfl, _, rfl, H⟩
  have H := H ⟨hk0, hk1, hk2, hk3⟩
  refine r_tabOut h 48 (wS_rng _) (tout_17_20 hk0 hk1 hk2 hk3) (by decide) (by decide +kernel : decode cX10_deedOf 8 = .ok (.tableswitch 40 17 20 #[32, 34, 36, 38], 32)) ?_
  refine r_iconst h (v := (-1)) (by decide +kernel : decode cX10_deedOf 48 = .ok (.iconst (-1), 1)) ?_
  exact r_iret h rfl (by decide +kernel : decode cX10_deedOf 49 = .ok (.ireturn, 1)) rfl ⟨rfl, _, rfl, H⟩
theorem W_Years_deedOf (k0 : Nat) (hk0 : k0 < 27) (M : Mm) {P : Int → Mm → Prop} (H : ∃ P1 : Int → Mm → Prop, S_JEnum_ordinal k0 M P1 ∧ ∀ (r1 : Int) (M1 : Mm), P1 r1 M1 → (0 ≤ r1 ∧ r1 < 27) ∧ ((wS.getD r1.toNat 0) = 17 → (P 0 M1)) ∧ ((wS.getD r1.toNat 0) = 18 → (P 1 M1)) ∧ ((wS.getD r1.toNat 0) = 19 → (P 2 M1)) ∧ ((wS.getD r1.toNat 0) = 20 → (P 3 M1)) ∧ ((wS.getD r1.toNat 0) ≠ 17 ∧ (wS.getD r1.toNat 0) ≠ 18 ∧ (wS.getD r1.toNat 0) ≠ 19 ∧ (wS.getD r1.toNat 0) ≠ 20 → (P (-1) M1))) : S_Years_deedOf k0 M P := e_Years_deedOf k0 M (fun _ h => w_Years_deedOf_0 h k0 hk0 M H)
set_option maxHeartbeats 4000000 in
set_option maxRecDepth 100000 in
theorem w_Town_pressedOut_0 {P : Int → Mm → Prop} {K : Nat → Rr → Nat → List (Nat × AV) → List AV → Mm → Prop} (h : EK shC yX8_pressedOut cX8_pressedOut 6 (some .int) 3 NN NN (QI RRC P) K) (b : Nat) (hb : At shC NN b (.inl 7)) (b1 : Nat) (hb1 : At shC NN b1 (.inl 5)) (x2 : Int) (M : Mm)
    (H : (0 ≤ x2 ∧ x2 < 7) ∧ (0 ≤ x2 ∧ x2 < 7) ∧ (rng (M (b1 + 1) x2.toNat)) ∧ (rng (M b1 5)) ∧ ((M (b1 + 1) x2.toNat) ≤ (M b1 5) → (K NN RRC 32 [(0, vr b), (1, vr b1), (3, vi (M (b1 + 1) x2.toNat)), (4, vi (M (b1 + 2) x2.toNat))] [vi (divI (M (b1 + 2) x2.toNat) 2)] M)) ∧ (¬ ((M (b1 + 1) x2.toNat) ≤ (M b1 5)) → (K NN RRC 32 [(0, vr b), (1, vr b1), (3, vi (M (b1 + 1) x2.toNat)), (4, vi (M (b1 + 2) x2.toNat))] [vi (M (b1 + 2) x2.toNat)] M))) :
    K NN RRC 0 [(0, vr b), (1, vr b1), (2, vi x2)] [] M := by
  refine r_aloadn h (q := 1) 1 rfl (by decide +kernel : decode cX8_pressedOut 0 = .ok (.aload_n 1, 1)) ?_
  refine r_getR h (r := (b1 + 1)) f_Town_74 hb1 (rr_5_0 hb1) (by omega) (by decide +kernel : decode cX8_pressedOut 1 = .ok (.getfield 74, 3)) ?_
  refine r_iloadn h (q := 2) 2 rfl (by decide +kernel : decode cX8_pressedOut 4 = .ok (.iload_n 2, 1)) ?_
  obtain ⟨g1, H⟩ := H
  refine r_iald h x2.toNat rfl (at_5_0 hb1) g1 (by decide) (by decide +kernel : decode cX8_pressedOut 5 = .ok (.iaload, 1)) ?_
  refine r_istoren h (q := 3) (L' := [(3, vi (M (b1 + 1) x2.toNat)), (0, vr b), (1, vr b1), (2, vi x2)]) (by decide) rfl (by decide +kernel : decode cX8_pressedOut 6 = .ok (.istore_n 3, 1)) ?_
  refine r_aloadn h (q := 1) 2 rfl (by decide +kernel : decode cX8_pressedOut 7 = .ok (.aload_n 1, 1)) ?_
  refine r_getR h (r := (b1 + 2)) f_Town_77 hb1 (rr_5_1 hb1) (by omega) (by decide +kernel : decode cX8_pressedOut 8 = .ok (.getfield 77, 3)) ?_
  refine r_iloadn h (q := 2) 3 rfl (by decide +kernel : decode cX8_pressedOut 11 = .ok (.iload_n 2, 1)) ?_
  obtain ⟨g1, H⟩ := H
  refine r_iald h x2.toNat rfl (at_5_1 hb1) g1 (by decide) (by decide +kernel : decode cX8_pressedOut 12 = .ok (.iaload, 1)) ?_
  refine r_istore h (L' := [(4, vi (M (b1 + 2) x2.toNat)), (3, vi (M (b1 + 1) x2.toNat)), (0, vr b), (1, vr b1), (2, vi x2)]) (by decide) rfl (by decide +kernel : decode cX8_pressedOut 13 = .ok (.istore 4, 2)) ?_
  refine r_iloadn h (q := 3) 1 rfl (by decide +kernel : decode cX8_pressedOut 15 = .ok (.iload_n 3, 1)) ?_
  refine r_aloadn h (q := 1) 3 rfl (by decide +kernel : decode cX8_pressedOut 16 = .ok (.aload_n 1, 1)) ?_
  refine r_getI h f_Town_78 hb1 (by decide +kernel : decode cX8_pressedOut 17 = .ok (.getfield 78, 3)) ?_
  obtain ⟨g1, g2, H⟩ := H
  obtain ⟨H1, H2⟩ := H
  refine r_icmp_le h 28 g1 g2 (by decide) (by decide +kernel : decode cX8_pressedOut 20 = .ok (.if_icmp .le 8, 3)) (fun hc => ?_) (fun hc => ?_)
  · have H := H1 hc
    refine r_iload h 0 rfl (by decide +kernel : decode cX8_pressedOut 28 = .ok (.iload 4, 2)) ?_
    refine r_iconst h (v := 2) (by decide +kernel : decode cX8_pressedOut 30 = .ok (.iconst 2, 1)) ?_
    refine r_idiv h (by decide) (by decide) (by decide +kernel : decode cX8_pressedOut 31 = .ok (.idiv, 1)) ?_
    refine r_drop h [2, 3, 1, 0] rfl ?_
    exact H
  · have H := H2 hc
    refine r_iload h 0 rfl (by decide +kernel : decode cX8_pressedOut 23 = .ok (.iload 4, 2)) ?_
    refine r_goto h 32 (by decide) (by decide +kernel : decode cX8_pressedOut 25 = .ok (.goto 7, 3)) ?_
    refine r_drop h [2, 3, 1, 0] rfl ?_
    exact H
set_option maxHeartbeats 4000000 in
set_option maxRecDepth 100000 in
theorem w_Town_pressedOut_32 {P : Int → Mm → Prop} {K : Nat → Rr → Nat → List (Nat × AV) → List AV → Mm → Prop} (h : EK shC yX8_pressedOut cX8_pressedOut 6 (some .int) 3 NN NN (QI RRC P) K) (b : Nat) (hb : At shC NN b (.inl 7)) (b1 : Nat) (hb1 : At shC NN b1 (.inl 5)) (x3 : Int) (x4 : Int) (s0 : Int) (M : Mm)
    (H : ∃ P1 : Int → Mm → Prop, S_Law_isTold (b + 8) M P1 ∧ ∀ (r1 : Int) (M1 : Mm), P1 r1 M1 → (rng r1) ∧ (r1 = 0 → ((rng s0) ∧ (rng x4) ∧ P (max 0 (min s0 x4)) M1)) ∧ (r1 ≠ 0 → (∃ P2 : Int → Mm → Prop, S_Law_value (b + 8) x3 x4 (M1 b1 5) 0 0 M1 P2 ∧ ∀ (r2 : Int) (M2 : Mm), P2 r2 M2 → (rng r2) ∧ (rng x4) ∧ P (max 0 (min r2 x4)) M2))) :
    K NN RRC 32 [(0, vr b), (1, vr b1), (3, vi x3), (4, vi x4)] [vi s0] M := by
  refine r_istore h (L' := [(5, vi s0), (0, vr b), (1, vr b1), (3, vi x3), (4, vi x4)]) (by decide) rfl (by decide +kernel : decode cX8_pressedOut 32 = .ok (.istore 5, 2)) ?_
  refine r_aloadn h (q := 0) 1 rfl (by decide +kernel : decode cX8_pressedOut 34 = .ok (.aload_n 0, 1)) ?_
  refine r_getR h (r := (b + 8)) f_Town_39 hb (rr_7_7 hb) (by omega) (by decide +kernel : decode cX8_pressedOut 35 = .ok (.getfield 39, 3)) ?_
  obtain ⟨P1, hSP1, H⟩ := H
  refine r_callV h (as := []) (S := []) (b := (b + 8)) m_Town_79 hSP1 (by decide) (Nat.le_refl _) rfl (at_7_7 hb) rfl (Nat.le_of_ble_eq_true rfl) (by decide +kernel : decode cX8_pressedOut 38 = .ok (.invokevirtual 79, 3)) ?_
  rintro _ _ M1 ⟨rfl, r1, rfl, hP⟩
  have H := H r1 M1 hP
  show K NN RRC _ _ [vi r1] _
  obtain ⟨g1, H⟩ := H
  obtain ⟨H1, H2⟩ := H
  refine r_if_eq h 62 g1 (by decide) (by decide +kernel : decode cX8_pressedOut 41 = .ok (.ifCond .eq 21, 3)) (fun hc => ?_) (fun hc => ?_)
  · have H := H1 hc
    refine r_iconst h (v := 0) (by decide +kernel : decode cX8_pressedOut 62 = .ok (.iconst 0, 1)) ?_
    refine r_iload h 0 rfl (by decide +kernel : decode cX8_pressedOut 63 = .ok (.iload 5, 2)) ?_
    refine r_iload h 4 rfl (by decide +kernel : decode cX8_pressedOut 65 = .ok (.iload 4, 2)) ?_
    obtain ⟨g1, g2, H⟩ := H
    refine r_min h g1 g2 kM_min_Town (by decide) (Nat.le_refl _) (Nat.le_of_ble_eq_true rfl) (by decide +kernel : decode cX8_pressedOut 67 = .ok (.invokestatic 87, 3)) ?_
    rw [min_if]
    have gm1 : rng (min s0 x4) := min_rng g1 g2
    refine r_max h (by decide) gm1 kM_max_Town (by decide) (Nat.le_refl _) (Nat.le_of_ble_eq_true rfl) (by decide +kernel : decode cX8_pressedOut 70 = .ok (.invokestatic 90, 3)) ?_
    rw [max_if]
    have gm2 : rng (max 0 (min s0 x4)) := max_rng (by decide) gm1
    exact r_iret h rfl (by decide +kernel : decode cX8_pressedOut 73 = .ok (.ireturn, 1)) rfl ⟨rfl, _, rfl, H⟩
  · have H := H2 hc
    refine r_aloadn h (q := 0) 1 rfl (by decide +kernel : decode cX8_pressedOut 44 = .ok (.aload_n 0, 1)) ?_
    refine r_getR h (r := (b + 8)) f_Town_39 hb (rr_7_7 hb) (by omega) (by decide +kernel : decode cX8_pressedOut 45 = .ok (.getfield 39, 3)) ?_
    refine r_iloadn h (q := 3) 3 rfl (by decide +kernel : decode cX8_pressedOut 48 = .ok (.iload_n 3, 1)) ?_
    refine r_iload h 4 rfl (by decide +kernel : decode cX8_pressedOut 49 = .ok (.iload 4, 2)) ?_
    refine r_aloadn h (q := 1) 2 rfl (by decide +kernel : decode cX8_pressedOut 51 = .ok (.aload_n 1, 1)) ?_
    refine r_getI h f_Town_78 hb1 (by decide +kernel : decode cX8_pressedOut 52 = .ok (.getfield 78, 3)) ?_
    refine r_iconst h (v := 0) (by decide +kernel : decode cX8_pressedOut 55 = .ok (.iconst 0, 1)) ?_
    refine r_iconst h (v := 0) (by decide +kernel : decode cX8_pressedOut 56 = .ok (.iconst 0, 1)) ?_
    obtain ⟨P2, hSP2, H⟩ := H
    refine r_callV h (as := [vi x3, vi x4, vi (M1 b1 5), vi 0, vi 0]) (S := []) (b := (b + 8)) m_Town_83 hSP2 (by decide) (Nat.le_refl _) rfl (at_7_7 hb) rfl (Nat.le_of_ble_eq_true rfl) (by decide +kernel : decode cX8_pressedOut 57 = .ok (.invokevirtual 83, 3)) ?_
    rintro _ _ M2 ⟨rfl, r2, rfl, hP⟩
    have H := H r2 M2 hP
    show K NN RRC _ _ [vi r2] _
    refine r_istore h (L' := [(5, vi r2), (0, vr b), (1, vr b1), (3, vi x3), (4, vi x4)]) (by decide) rfl (by decide +kernel : decode cX8_pressedOut 60 = .ok (.istore 5, 2)) ?_
    refine r_iconst h (v := 0) (by decide +kernel : decode cX8_pressedOut 62 = .ok (.iconst 0, 1)) ?_
    refine r_iload h 0 rfl (by decide +kernel : decode cX8_pressedOut 63 = .ok (.iload 5, 2)) ?_
    refine r_iload h 4 rfl (by decide +kernel : decode cX8_pressedOut 65 = .ok (.iload 4, 2)) ?_
    obtain ⟨g1, g2, H⟩ := H
    refine r_min h g1 g2 kM_min_Town (by decide) (Nat.le_refl _) (Nat.le_of_ble_eq_true rfl) (by decide +kernel : decode cX8_pressedOut 67 = .ok (.invokestatic 87, 3)) ?_
    rw [min_if]
    have gm3 : rng (min r2 x4) := min_rng g1 g2
    refine r_max h (by decide) gm3 kM_max_Town (by decide) (Nat.le_refl _) (Nat.le_of_ble_eq_true rfl) (by decide +kernel : decode cX8_pressedOut 70 = .ok (.invokestatic 90, 3)) ?_
    rw [max_if]
    have gm4 : rng (max 0 (min r2 x4)) := max_rng (by decide) gm3
    exact r_iret h rfl (by decide +kernel : decode cX8_pressedOut 73 = .ok (.ireturn, 1)) rfl ⟨rfl, _, rfl, H⟩
set_option maxHeartbeats 4000000 in
set_option maxRecDepth 100000 in
theorem w_Town_printedOn_0 {P : Int → Mm → Prop} {K : Nat → Rr → Nat → List (Nat × AV) → List AV → Mm → Prop} (h : EK shC yX8_printedOn cX8_printedOn 6 (some .int) 3 NN NN (QI RRC P) K) (b : Nat) (hb : At shC NN b (.inl 7)) (b1 : Nat) (hb1 : At shC NN b1 (.inl 5)) (x2 : Int) (x3 : Int) (M : Mm)
    (H : ∃ P1 : Int → Mm → Prop, S_Town_isCat b x3 M P1 ∧ ∀ (r1 : Int) (M1 : Mm), P1 r1 M1 → (rng r1) ∧ (r1 = 0 → ((0 ≤ x2 ∧ x2 < 7) ∧ ∃ P2 : Int → Mm → Prop, S_Law_isTold (b + 11) M1 P2 ∧ ∀ (r2 : Int) (M2 : Mm), P2 r2 M2 → (rng r2) ∧ (r2 = 0 → ((rng (M1 (b + 5) x2.toNat)) ∧ P (max 0 (min (M1 (b + 5) x2.toNat) 9)) M2)) ∧ (r2 ≠ 0 → ((0 ≤ x3 ∧ x3 < 7) ∧ (0 ≤ x3 ∧ x3 < 7) ∧ (0 ≤ x2 ∧ x2 < 7) ∧ ∃ P3 : Int → Mm → Prop, S_Law_value (b + 11) (M2 (b1 + 1) x3.toNat) (M2 (b1 + 2) x3.toNat) (M2 b1 5) (M1 (b + 5) x2.toNat) (M2 (b1 + 1) x2.toNat) M2 P3 ∧ ∀ (r3 : Int) (M3 : Mm), P3 r3 M3 → (rng r3) ∧ P (max 0 (min r3 9)) M3)))) ∧ (r1 ≠ 0 → (P 0 M1))) :
    K NN RRC 0 [(0, vr b), (1, vr b1), (2, vi x2), (3, vi x3)] [] M := by
  refine r_aloadn h (q := 0) 0 rfl (by decide +kernel : decode cX8_printedOn 0 = .ok (.aload_n 0, 1)) ?_
  refine r_iloadn h (q := 3) 3 rfl (by decide +kernel : decode cX8_printedOn 1 = .ok (.iload_n 3, 1)) ?_
  obtain ⟨P1, hSP1, H⟩ := H
  refine r_callV h (as := [vi x3]) (S := []) (b := b) m_Town_93 hSP1 (by decide) (Nat.le_refl _) rfl hb rfl (Nat.le_of_ble_eq_true rfl) (by decide +kernel : decode cX8_printedOn 2 = .ok (.invokevirtual 93, 3)) ?_
  rintro _ _ M1 ⟨rfl, r1, rfl, hP⟩
  have H := H r1 M1 hP
  show K NN RRC _ _ [vi r1] _
  obtain ⟨g1, H⟩ := H
  obtain ⟨H1, H2⟩ := H
  refine r_if_eq h 10 g1 (by decide) (by decide +kernel : decode cX8_printedOn 5 = .ok (.ifCond .eq 5, 3)) (fun hc => ?_) (fun hc => ?_)
  · have H := H1 hc
    refine r_aloadn h (q := 0) 0 rfl (by decide +kernel : decode cX8_printedOn 10 = .ok (.aload_n 0, 1)) ?_
    refine r_getR h (r := (b + 5)) f_Town_25 hb (rr_7_4 hb) (by omega) (by decide +kernel : decode cX8_printedOn 11 = .ok (.getfield 25, 3)) ?_
    refine r_iloadn h (q := 2) 2 rfl (by decide +kernel : decode cX8_printedOn 14 = .ok (.iload_n 2, 1)) ?_
    obtain ⟨g1, H⟩ := H
    refine r_iald h x2.toNat rfl (at_7_4 hb) g1 (by decide) (by decide +kernel : decode cX8_printedOn 15 = .ok (.iaload, 1)) ?_
    refine r_istore h (L' := [(4, vi (M1 (b + 5) x2.toNat)), (0, vr b), (1, vr b1), (2, vi x2), (3, vi x3)]) (by decide) rfl (by decide +kernel : decode cX8_printedOn 16 = .ok (.istore 4, 2)) ?_
    refine r_iload h 0 rfl (by decide +kernel : decode cX8_printedOn 18 = .ok (.iload 4, 2)) ?_
    refine r_istore h (L' := [(5, vi (M1 (b + 5) x2.toNat)), (4, vi (M1 (b + 5) x2.toNat)), (0, vr b), (1, vr b1), (2, vi x2), (3, vi x3)]) (by decide) rfl (by decide +kernel : decode cX8_printedOn 20 = .ok (.istore 5, 2)) ?_
    refine r_aloadn h (q := 0) 2 rfl (by decide +kernel : decode cX8_printedOn 22 = .ok (.aload_n 0, 1)) ?_
    refine r_getR h (r := (b + 11)) f_Town_43 hb (rr_7_8 hb) (by omega) (by decide +kernel : decode cX8_printedOn 23 = .ok (.getfield 43, 3)) ?_
    obtain ⟨P2, hSP2, H⟩ := H
    refine r_callV h (as := []) (S := []) (b := (b + 11)) m_Town_79 hSP2 (by decide) (Nat.le_refl _) rfl (at_7_8 hb) rfl (Nat.le_of_ble_eq_true rfl) (by decide +kernel : decode cX8_printedOn 26 = .ok (.invokevirtual 79, 3)) ?_
    rintro _ _ M2 ⟨rfl, r2, rfl, hP⟩
    have H := H r2 M2 hP
    show K NN RRC _ _ [vi r2] _
    obtain ⟨g1, H⟩ := H
    obtain ⟨H1, H2⟩ := H
    refine r_if_eq h 65 g1 (by decide) (by decide +kernel : decode cX8_printedOn 29 = .ok (.ifCond .eq 36, 3)) (fun hc => ?_) (fun hc => ?_)
    · have H := H1 hc
      refine r_iconst h (v := 0) (by decide +kernel : decode cX8_printedOn 65 = .ok (.iconst 0, 1)) ?_
      refine r_iload h 0 rfl (by decide +kernel : decode cX8_printedOn 66 = .ok (.iload 5, 2)) ?_
      refine r_bipush h (v := 9) (by decide) (by decide +kernel : decode cX8_printedOn 68 = .ok (.bipush 9, 2)) ?_
      obtain ⟨g1, H⟩ := H
      refine r_min h g1 (by decide) kM_min_Town (by decide) (Nat.le_refl _) (Nat.le_of_ble_eq_true rfl) (by decide +kernel : decode cX8_printedOn 70 = .ok (.invokestatic 87, 3)) ?_
      rw [min_if]
      have gm1 : rng (min (M1 (b + 5) x2.toNat) 9) := min_rng g1 (by decide)
      refine r_max h (by decide) gm1 kM_max_Town (by decide) (Nat.le_refl _) (Nat.le_of_ble_eq_true rfl) (by decide +kernel : decode cX8_printedOn 73 = .ok (.invokestatic 90, 3)) ?_
      rw [max_if]
      have gm2 : rng (max 0 (min (M1 (b + 5) x2.toNat) 9)) := max_rng (by decide) gm1
      exact r_iret h rfl (by decide +kernel : decode cX8_printedOn 76 = .ok (.ireturn, 1)) rfl ⟨rfl, _, rfl, H⟩
    · have H := H2 hc
      refine r_aloadn h (q := 0) 2 rfl (by decide +kernel : decode cX8_printedOn 32 = .ok (.aload_n 0, 1)) ?_
      refine r_getR h (r := (b + 11)) f_Town_43 hb (rr_7_8 hb) (by omega) (by decide +kernel : decode cX8_printedOn 33 = .ok (.getfield 43, 3)) ?_
      refine r_aloadn h (q := 1) 3 rfl (by decide +kernel : decode cX8_printedOn 36 = .ok (.aload_n 1, 1)) ?_
      refine r_getR h (r := (b1 + 1)) f_Town_74 hb1 (rr_5_0 hb1) (by omega) (by decide +kernel : decode cX8_printedOn 37 = .ok (.getfield 74, 3)) ?_
      refine r_iloadn h (q := 3) 5 rfl (by decide +kernel : decode cX8_printedOn 40 = .ok (.iload_n 3, 1)) ?_
      obtain ⟨g1, H⟩ := H
      refine r_iald h x3.toNat rfl (at_5_0 hb1) g1 (by decide) (by decide +kernel : decode cX8_printedOn 41 = .ok (.iaload, 1)) ?_
      refine r_aloadn h (q := 1) 3 rfl (by decide +kernel : decode cX8_printedOn 42 = .ok (.aload_n 1, 1)) ?_
      refine r_getR h (r := (b1 + 2)) f_Town_77 hb1 (rr_5_1 hb1) (by omega) (by decide +kernel : decode cX8_printedOn 43 = .ok (.getfield 77, 3)) ?_
      refine r_iloadn h (q := 3) 5 rfl (by decide +kernel : decode cX8_printedOn 46 = .ok (.iload_n 3, 1)) ?_
      obtain ⟨g1, H⟩ := H
      refine r_iald h x3.toNat rfl (at_5_1 hb1) g1 (by decide) (by decide +kernel : decode cX8_printedOn 47 = .ok (.iaload, 1)) ?_
      refine r_aloadn h (q := 1) 3 rfl (by decide +kernel : decode cX8_printedOn 48 = .ok (.aload_n 1, 1)) ?_
      refine r_getI h f_Town_78 hb1 (by decide +kernel : decode cX8_printedOn 49 = .ok (.getfield 78, 3)) ?_
      refine r_iload h 1 rfl (by decide +kernel : decode cX8_printedOn 52 = .ok (.iload 4, 2)) ?_
      refine r_aloadn h (q := 1) 3 rfl (by decide +kernel : decode cX8_printedOn 54 = .ok (.aload_n 1, 1)) ?_
      refine r_getR h (r := (b1 + 1)) f_Town_74 hb1 (rr_5_0 hb1) (by omega) (by decide +kernel : decode cX8_printedOn 55 = .ok (.getfield 74, 3)) ?_
      refine r_iloadn h (q := 2) 4 rfl (by decide +kernel : decode cX8_printedOn 58 = .ok (.iload_n 2, 1)) ?_
      obtain ⟨g1, H⟩ := H
      refine r_iald h x2.toNat rfl (at_5_0 hb1) g1 (by decide) (by decide +kernel : decode cX8_printedOn 59 = .ok (.iaload, 1)) ?_
      obtain ⟨P3, hSP3, H⟩ := H
      refine r_callV h (as := [vi (M2 (b1 + 1) x3.toNat), vi (M2 (b1 + 2) x3.toNat), vi (M2 b1 5), vi (M1 (b + 5) x2.toNat), vi (M2 (b1 + 1) x2.toNat)]) (S := []) (b := (b + 11)) m_Town_83 hSP3 (by decide) (Nat.le_refl _) rfl (at_7_8 hb) rfl (Nat.le_of_ble_eq_true rfl) (by decide +kernel : decode cX8_printedOn 60 = .ok (.invokevirtual 83, 3)) ?_
      rintro _ _ M3 ⟨rfl, r3, rfl, hP⟩
      have H := H r3 M3 hP
      show K NN RRC _ _ [vi r3] _
      refine r_istore h (L' := [(5, vi r3), (4, vi (M1 (b + 5) x2.toNat)), (0, vr b), (1, vr b1), (2, vi x2), (3, vi x3)]) (by decide) rfl (by decide +kernel : decode cX8_printedOn 63 = .ok (.istore 5, 2)) ?_
      refine r_iconst h (v := 0) (by decide +kernel : decode cX8_printedOn 65 = .ok (.iconst 0, 1)) ?_
      refine r_iload h 0 rfl (by decide +kernel : decode cX8_printedOn 66 = .ok (.iload 5, 2)) ?_
      refine r_bipush h (v := 9) (by decide) (by decide +kernel : decode cX8_printedOn 68 = .ok (.bipush 9, 2)) ?_
      obtain ⟨g1, H⟩ := H
      refine r_min h g1 (by decide) kM_min_Town (by decide) (Nat.le_refl _) (Nat.le_of_ble_eq_true rfl) (by decide +kernel : decode cX8_printedOn 70 = .ok (.invokestatic 87, 3)) ?_
      rw [min_if]
      have gm3 : rng (min r3 9) := min_rng g1 (by decide)
      refine r_max h (by decide) gm3 kM_max_Town (by decide) (Nat.le_refl _) (Nat.le_of_ble_eq_true rfl) (by decide +kernel : decode cX8_printedOn 73 = .ok (.invokestatic 90, 3)) ?_
      rw [max_if]
      have gm4 : rng (max 0 (min r3 9)) := max_rng (by decide) gm3
      exact r_iret h rfl (by decide +kernel : decode cX8_printedOn 76 = .ok (.ireturn, 1)) rfl ⟨rfl, _, rfl, H⟩
  · have H := H2 hc
    refine r_iconst h (v := 0) (by decide +kernel : decode cX8_printedOn 8 = .ok (.iconst 0, 1)) ?_
    exact r_iret h rfl (by decide +kernel : decode cX8_printedOn 9 = .ok (.ireturn, 1)) rfl ⟨rfl, _, rfl, H⟩
theorem W_Town_printedOn (b : Nat) (hb : At shC NN b (.inl 7)) (b1 : Nat) (hb1 : At shC NN b1 (.inl 5)) (x2 : Int) (x3 : Int) (M : Mm) {P : Int → Mm → Prop} (H : ∃ P1 : Int → Mm → Prop, S_Town_isCat b x3 M P1 ∧ ∀ (r1 : Int) (M1 : Mm), P1 r1 M1 → (rng r1) ∧ (r1 = 0 → ((0 ≤ x2 ∧ x2 < 7) ∧ ∃ P2 : Int → Mm → Prop, S_Law_isTold (b + 11) M1 P2 ∧ ∀ (r2 : Int) (M2 : Mm), P2 r2 M2 → (rng r2) ∧ (r2 = 0 → ((rng (M1 (b + 5) x2.toNat)) ∧ P (max 0 (min (M1 (b + 5) x2.toNat) 9)) M2)) ∧ (r2 ≠ 0 → ((0 ≤ x3 ∧ x3 < 7) ∧ (0 ≤ x3 ∧ x3 < 7) ∧ (0 ≤ x2 ∧ x2 < 7) ∧ ∃ P3 : Int → Mm → Prop, S_Law_value (b + 11) (M2 (b1 + 1) x3.toNat) (M2 (b1 + 2) x3.toNat) (M2 b1 5) (M1 (b + 5) x2.toNat) (M2 (b1 + 1) x2.toNat) M2 P3 ∧ ∀ (r3 : Int) (M3 : Mm), P3 r3 M3 → (rng r3) ∧ P (max 0 (min r3 9)) M3)))) ∧ (r1 ≠ 0 → (P 0 M1))) : S_Town_printedOn b b1 x2 x3 M P := e_Town_printedOn b b1 x2 x3 M (fun _ h => w_Town_printedOn_0 h b hb b1 hb1 x2 x3 M H)
set_option maxHeartbeats 4000000 in
set_option maxRecDepth 100000 in
theorem w_Town_takeOnce_0 {P : Int → Mm → Prop} {K : Nat → Rr → Nat → List (Nat × AV) → List AV → Mm → Prop} (h : EK shC yX8_takeOnce cX8_takeOnce 3 (some .boolean) 9 NN NN (QI RRC P) K) (b : Nat) (hb : At shC NN b (.inl 7)) (b1 : Nat) (hb1 : At shC NN b1 (.inl 6)) (x2 : Int) (M : Mm)
    (H : ((andI (M b 13) x2) = 0 → (∀ M1 : Mm, M1 = (upr M b (up1 (M b) 13 (orI (M b 13) x2))) → ∃ P2 : Mm → Prop, S_Tape_advance b1 M1 P2 ∧ ∀ M2 : Mm, P2 M2 → P 1 M2)) ∧ ((andI (M b 13) x2) ≠ 0 → (∃ P3 : Int → Mm → Prop, S_Tape_fail b1 3 M P3 ∧ ∀ (r2 : Int) (M3 : Mm), P3 r2 M3 → (r2 = 0 ∨ r2 = 1) ∧ P r2 M3))) :
    K NN RRC 0 [(0, vr b), (1, vr b1), (2, vi x2)] [] M := by
  refine r_aloadn h (q := 0) 0 rfl (by decide +kernel : decode cX8_takeOnce 0 = .ok (.aload_n 0, 1)) ?_
  refine r_getI h f_Town_65 hb (by decide +kernel : decode cX8_takeOnce 1 = .ok (.getfield 65, 3)) ?_
  refine r_iloadn h (q := 2) 2 rfl (by decide +kernel : decode cX8_takeOnce 4 = .ok (.iload_n 2, 1)) ?_
  refine r_iand h (by decide +kernel : decode cX8_takeOnce 5 = .ok (.iand, 1)) ?_
  obtain ⟨H1, H2⟩ := H
  refine r_if_eq h 15 (rng_toInt _) (by decide) (by decide +kernel : decode cX8_takeOnce 6 = .ok (.ifCond .eq 9, 3)) (fun hc => ?_) (fun hc => ?_)
  · have H := H1 hc
    refine r_aloadn h (q := 0) 0 rfl (by decide +kernel : decode cX8_takeOnce 15 = .ok (.aload_n 0, 1)) ?_
    refine r_dup h rfl (by decide +kernel : decode cX8_takeOnce 16 = .ok (.dup, 1)) ?_
    refine r_getI h f_Town_65 hb (by decide +kernel : decode cX8_takeOnce 17 = .ok (.getfield 65, 3)) ?_
    refine r_iloadn h (q := 2) 2 rfl (by decide +kernel : decode cX8_takeOnce 20 = .ok (.iload_n 2, 1)) ?_
    refine r_ior h (by decide +kernel : decode cX8_takeOnce 21 = .ok (.ior, 1)) ?_
    refine r_putI h f_Town_65 hb rfl rfl (by decide +kernel : decode cX8_takeOnce 22 = .ok (.putfield 65, 3)) ?_
    have H := H _ rfl
    revert H
    generalize (upr M b (up1 (M b) 13 (orI (M b 13) x2))) = M1
    intro H
    refine r_aloadn h (q := 1) 1 rfl (by decide +kernel : decode cX8_takeOnce 25 = .ok (.aload_n 1, 1)) ?_
    obtain ⟨P2, hSP2, H⟩ := H
    refine r_callV h (as := []) (S := []) (b := b1) m_Town_148 hSP2 (by decide) (Nat.le_refl _) rfl hb1 rfl (Nat.le_of_ble_eq_true rfl) (by decide +kernel : decode cX8_takeOnce 26 = .ok (.invokevirtual 148, 3)) ?_
    rintro _ _ M2 ⟨rfl, rfl, hP⟩
    have H := H M2 hP
    show K NN RRC _ _ [] _
    refine r_iconst h (v := 1) (by decide +kernel : decode cX8_takeOnce 29 = .ok (.iconst 1, 1)) ?_
    exact r_zret h rfl (by decide) (by decide +kernel : decode cX8_takeOnce 30 = .ok (.ireturn, 1)) rfl ⟨rfl, _, rfl, H⟩
  · have H := H2 hc
    refine r_aloadn h (q := 1) 1 rfl (by decide +kernel : decode cX8_takeOnce 9 = .ok (.aload_n 1, 1)) ?_
    refine r_iconst h (v := 3) (by decide +kernel : decode cX8_takeOnce 10 = .ok (.iconst 3, 1)) ?_
    obtain ⟨P3, hSP3, H⟩ := H
    refine r_callV h (as := [vi 3]) (S := []) (b := b1) m_Town_145 hSP3 (by decide) (Nat.le_refl _) rfl hb1 rfl (Nat.le_of_ble_eq_true rfl) (by decide +kernel : decode cX8_takeOnce 11 = .ok (.invokevirtual 145, 3)) ?_
    rintro _ _ M3 ⟨rfl, r2, rfl, hP⟩
    have H := H r2 M3 hP
    show K NN RRC _ _ [vi r2] _
    exact r_zret h rfl H.1 (by decide +kernel : decode cX8_takeOnce 14 = .ok (.ireturn, 1)) rfl ⟨rfl, _, rfl, H.2⟩
theorem W_Town_takeOnce (b : Nat) (hb : At shC NN b (.inl 7)) (b1 : Nat) (hb1 : At shC NN b1 (.inl 6)) (x2 : Int) (M : Mm) {P : Int → Mm → Prop} (H : ((andI (M b 13) x2) = 0 → (∀ M1 : Mm, M1 = (upr M b (up1 (M b) 13 (orI (M b 13) x2))) → ∃ P2 : Mm → Prop, S_Tape_advance b1 M1 P2 ∧ ∀ M2 : Mm, P2 M2 → P 1 M2)) ∧ ((andI (M b 13) x2) ≠ 0 → (∃ P3 : Int → Mm → Prop, S_Tape_fail b1 3 M P3 ∧ ∀ (r2 : Int) (M3 : Mm), P3 r2 M3 → (r2 = 0 ∨ r2 = 1) ∧ P r2 M3))) : S_Town_takeOnce b b1 x2 M P := e_Town_takeOnce b b1 x2 M (fun _ h => w_Town_takeOnce_0 h b hb b1 hb1 x2 M H)
set_option maxHeartbeats 4000000 in
set_option maxRecDepth 100000 in
theorem w_Town_readShuns_0 {P : Int → Mm → Prop} {K : Nat → Rr → Nat → List (Nat × AV) → List AV → Mm → Prop} (h : EK shC yX8_readShuns cX8_readShuns 4 (some .boolean) 9 NN NN (QI RRC P) K) (b : Nat) (hb : At shC NN b (.inl 7)) (b1 : Nat) (hb1 : At shC NN b1 (.inl 6)) (M : Mm)
    (H : ∃ P1 : Mm → Prop, S_Tape_advance b1 M P1 ∧ ∀ M1 : Mm, P1 M1 → ∃ P2 : Int → Mm → Prop, S_Town_houseNamed b b1 M1 P2 ∧ ∀ (r2 : Int) (M2 : Mm), P2 r2 M2 → (rng r2) ∧ (r2 ≠ (-1) → (∃ P3 : Mm → Prop, S_Tape_advance b1 M2 P3 ∧ ∀ M3 : Mm, P3 M3 → ∃ P4 : Int → Mm → Prop, S_Town_houseNamed b b1 M3 P4 ∧ ∀ (r4 : Int) (M4 : Mm), P4 r4 M4 → (rng r4) ∧ (r4 ≠ (-1) → ((rng r2) ∧ (rng r4) ∧ (r2 = r4 → (∃ P5 : Int → Mm → Prop, S_Tape_fail b1 3 M4 P5 ∧ ∀ (r5 : Int) (M5 : Mm), P5 r5 M5 → (r5 = 0 ∨ r5 = 1) ∧ P r5 M5)) ∧ (r2 ≠ r4 → (∃ P6 : Int → Mm → Prop, S_Town_doesShun b r2 r4 M4 P6 ∧ ∀ (r6 : Int) (M6 : Mm), P6 r6 M6 → (rng r6) ∧ (r6 = 0 → ((0 ≤ r2 ∧ r2 < 7) ∧ (0 ≤ r2 ∧ r2 < 7) ∧ ∀ M7 : Mm, M7 = (upr M6 (b + 6) (up1 (M6 (b + 6)) r2.toNat (orI (M6 (b + 6) r2.toNat) (shlI 1 r4)))) → ∃ P8 : Mm → Prop, S_Tape_advance b1 M7 P8 ∧ ∀ M8 : Mm, P8 M8 → P 1 M8)) ∧ (r6 ≠ 0 → (∃ P9 : Int → Mm → Prop, S_Tape_fail b1 3 M6 P9 ∧ ∀ (r8 : Int) (M9 : Mm), P9 r8 M9 → (r8 = 0 ∨ r8 = 1) ∧ P r8 M9)))))) ∧ (r4 = (-1) → (P 0 M4)))) ∧ (r2 = (-1) → (P 0 M2))) :
    K NN RRC 0 [(0, vr b), (1, vr b1)] [] M := by
  refine r_aloadn h (q := 1) 1 rfl (by decide +kernel : decode cX8_readShuns 0 = .ok (.aload_n 1, 1)) ?_
  obtain ⟨P1, hSP1, H⟩ := H
  refine r_callV h (as := []) (S := []) (b := b1) m_Town_148 hSP1 (by decide) (Nat.le_refl _) rfl hb1 rfl (Nat.le_of_ble_eq_true rfl) (by decide +kernel : decode cX8_readShuns 1 = .ok (.invokevirtual 148, 3)) ?_
  rintro _ _ M1 ⟨rfl, rfl, hP⟩
  have H := H M1 hP
  show K NN RRC _ _ [] _
  refine r_aloadn h (q := 0) 0 rfl (by decide +kernel : decode cX8_readShuns 4 = .ok (.aload_n 0, 1)) ?_
  refine r_aloadn h (q := 1) 1 rfl (by decide +kernel : decode cX8_readShuns 5 = .ok (.aload_n 1, 1)) ?_
  obtain ⟨P2, hSP2, H⟩ := H
  refine r_callV h (as := [vr b1]) (S := []) (b := b) m_Town_190 hSP2 (by decide) (Nat.le_refl _) rfl hb rfl (Nat.le_of_ble_eq_true rfl) (by decide +kernel : decode cX8_readShuns 6 = .ok (.invokevirtual 190, 3)) ?_
  rintro _ _ M2 ⟨rfl, r2, rfl, hP⟩
  have H := H r2 M2 hP
  show K NN RRC _ _ [vi r2] _
  refine r_istoren h (q := 2) (L' := [(2, vi r2), (0, vr b), (1, vr b1)]) (by decide) rfl (by decide +kernel : decode cX8_readShuns 9 = .ok (.istore_n 2, 1)) ?_
  refine r_iloadn h (q := 2) 0 rfl (by decide +kernel : decode cX8_readShuns 10 = .ok (.iload_n 2, 1)) ?_
  refine r_iconst h (v := (-1)) (by decide +kernel : decode cX8_readShuns 11 = .ok (.iconst (-1), 1)) ?_
  obtain ⟨g1, H⟩ := H
  obtain ⟨H1, H2⟩ := H
  refine r_icmp_ne h 17 g1 (by decide) (by decide) (by decide +kernel : decode cX8_readShuns 12 = .ok (.if_icmp .ne 5, 3)) (fun hc => ?_) (fun hc => ?_)
  · have H := H1 hc
    refine r_aloadn h (q := 1) 2 rfl (by decide +kernel : decode cX8_readShuns 17 = .ok (.aload_n 1, 1)) ?_
    obtain ⟨P3, hSP3, H⟩ := H
    refine r_callV h (as := []) (S := []) (b := b1) m_Town_148 hSP3 (by decide) (Nat.le_refl _) rfl hb1 rfl (Nat.le_of_ble_eq_true rfl) (by decide +kernel : decode cX8_readShuns 18 = .ok (.invokevirtual 148, 3)) ?_
    rintro _ _ M3 ⟨rfl, rfl, hP⟩
    have H := H M3 hP
    show K NN RRC _ _ [] _
    refine r_aloadn h (q := 0) 1 rfl (by decide +kernel : decode cX8_readShuns 21 = .ok (.aload_n 0, 1)) ?_
    refine r_aloadn h (q := 1) 2 rfl (by decide +kernel : decode cX8_readShuns 22 = .ok (.aload_n 1, 1)) ?_
    obtain ⟨P4, hSP4, H⟩ := H
    refine r_callV h (as := [vr b1]) (S := []) (b := b) m_Town_190 hSP4 (by decide) (Nat.le_refl _) rfl hb rfl (Nat.le_of_ble_eq_true rfl) (by decide +kernel : decode cX8_readShuns 23 = .ok (.invokevirtual 190, 3)) ?_
    rintro _ _ M4 ⟨rfl, r4, rfl, hP⟩
    have H := H r4 M4 hP
    show K NN RRC _ _ [vi r4] _
    refine r_istoren h (q := 3) (L' := [(3, vi r4), (2, vi r2), (0, vr b), (1, vr b1)]) (by decide) rfl (by decide +kernel : decode cX8_readShuns 26 = .ok (.istore_n 3, 1)) ?_
    refine r_iloadn h (q := 3) 0 rfl (by decide +kernel : decode cX8_readShuns 27 = .ok (.iload_n 3, 1)) ?_
    refine r_iconst h (v := (-1)) (by decide +kernel : decode cX8_readShuns 28 = .ok (.iconst (-1), 1)) ?_
    obtain ⟨g1, H⟩ := H
    obtain ⟨H1, H2⟩ := H
    refine r_icmp_ne h 34 g1 (by decide) (by decide) (by decide +kernel : decode cX8_readShuns 29 = .ok (.if_icmp .ne 5, 3)) (fun hc => ?_) (fun hc => ?_)
    · have H := H1 hc
      refine r_iloadn h (q := 2) 1 rfl (by decide +kernel : decode cX8_readShuns 34 = .ok (.iload_n 2, 1)) ?_
      refine r_iloadn h (q := 3) 0 rfl (by decide +kernel : decode cX8_readShuns 35 = .ok (.iload_n 3, 1)) ?_
      obtain ⟨g1, g2, H⟩ := H
      obtain ⟨H1, H2⟩ := H
      refine r_icmp_eq h 48 g1 g2 (by decide) (by decide +kernel : decode cX8_readShuns 36 = .ok (.if_icmp .eq 12, 3)) (fun hc => ?_) (fun hc => ?_)
      · have H := H1 hc
        refine r_aloadn h (q := 1) 3 rfl (by decide +kernel : decode cX8_readShuns 48 = .ok (.aload_n 1, 1)) ?_
        refine r_iconst h (v := 3) (by decide +kernel : decode cX8_readShuns 49 = .ok (.iconst 3, 1)) ?_
        obtain ⟨P5, hSP5, H⟩ := H
        refine r_callV h (as := [vi 3]) (S := []) (b := b1) m_Town_145 hSP5 (by decide) (Nat.le_refl _) rfl hb1 rfl (Nat.le_of_ble_eq_true rfl) (by decide +kernel : decode cX8_readShuns 50 = .ok (.invokevirtual 145, 3)) ?_
        rintro _ _ M5 ⟨rfl, r5, rfl, hP⟩
        have H := H r5 M5 hP
        show K NN RRC _ _ [vi r5] _
        exact r_zret h rfl H.1 (by decide +kernel : decode cX8_readShuns 53 = .ok (.ireturn, 1)) rfl ⟨rfl, _, rfl, H.2⟩
      · have H := H2 hc
        refine r_aloadn h (q := 0) 2 rfl (by decide +kernel : decode cX8_readShuns 39 = .ok (.aload_n 0, 1)) ?_
        refine r_iloadn h (q := 2) 1 rfl (by decide +kernel : decode cX8_readShuns 40 = .ok (.iload_n 2, 1)) ?_
        refine r_iloadn h (q := 3) 0 rfl (by decide +kernel : decode cX8_readShuns 41 = .ok (.iload_n 3, 1)) ?_
        obtain ⟨P6, hSP6, H⟩ := H
        refine r_callV h (as := [vi r2, vi r4]) (S := []) (b := b) m_Town_194 hSP6 (by decide) (Nat.le_refl _) rfl hb rfl (Nat.le_of_ble_eq_true rfl) (by decide +kernel : decode cX8_readShuns 42 = .ok (.invokevirtual 194, 3)) ?_
        rintro _ _ M6 ⟨rfl, r6, rfl, hP⟩
        have H := H r6 M6 hP
        show K NN RRC _ _ [vi r6] _
        obtain ⟨g1, H⟩ := H
        obtain ⟨H1, H2⟩ := H
        refine r_if_eq h 54 g1 (by decide) (by decide +kernel : decode cX8_readShuns 45 = .ok (.ifCond .eq 9, 3)) (fun hc => ?_) (fun hc => ?_)
        · have H := H1 hc
          refine r_aloadn h (q := 0) 2 rfl (by decide +kernel : decode cX8_readShuns 54 = .ok (.aload_n 0, 1)) ?_
          refine r_getR h (r := (b + 6)) f_Town_28 hb (rr_7_5 hb) (by omega) (by decide +kernel : decode cX8_readShuns 55 = .ok (.getfield 28, 3)) ?_
          refine r_iloadn h (q := 2) 1 rfl (by decide +kernel : decode cX8_readShuns 58 = .ok (.iload_n 2, 1)) ?_
          refine r_dup2 h rfl rfl (by decide +kernel : decode cX8_readShuns 59 = .ok (.dup2, 1)) ?_
          obtain ⟨g1, H⟩ := H
          refine r_iald h r2.toNat rfl (at_7_5 hb) g1 (by decide) (by decide +kernel : decode cX8_readShuns 60 = .ok (.iaload, 1)) ?_
          refine r_iconst h (v := 1) (by decide +kernel : decode cX8_readShuns 61 = .ok (.iconst 1, 1)) ?_
          refine r_iloadn h (q := 3) 0 rfl (by decide +kernel : decode cX8_readShuns 62 = .ok (.iload_n 3, 1)) ?_
          refine r_ishl h (by decide +kernel : decode cX8_readShuns 63 = .ok (.ishl, 1)) ?_
          refine r_ior h (by decide +kernel : decode cX8_readShuns 64 = .ok (.ior, 1)) ?_
          obtain ⟨g1, H⟩ := H
          refine r_iast h r2.toNat rfl (at_7_5 hb) g1 (by decide) (by decide +kernel : decode cX8_readShuns 65 = .ok (.iastore, 1)) ?_
          have H := H _ rfl
          revert H
          generalize (upr M6 (b + 6) (up1 (M6 (b + 6)) r2.toNat (orI (M6 (b + 6) r2.toNat) (shlI 1 r4)))) = M7
          intro H
          refine r_aloadn h (q := 1) 3 rfl (by decide +kernel : decode cX8_readShuns 66 = .ok (.aload_n 1, 1)) ?_
          obtain ⟨P8, hSP8, H⟩ := H
          refine r_callV h (as := []) (S := []) (b := b1) m_Town_148 hSP8 (by decide) (Nat.le_refl _) rfl hb1 rfl (Nat.le_of_ble_eq_true rfl) (by decide +kernel : decode cX8_readShuns 67 = .ok (.invokevirtual 148, 3)) ?_
          rintro _ _ M8 ⟨rfl, rfl, hP⟩
          have H := H M8 hP
          show K NN RRC _ _ [] _
          refine r_iconst h (v := 1) (by decide +kernel : decode cX8_readShuns 70 = .ok (.iconst 1, 1)) ?_
          exact r_zret h rfl (by decide) (by decide +kernel : decode cX8_readShuns 71 = .ok (.ireturn, 1)) rfl ⟨rfl, _, rfl, H⟩
        · have H := H2 hc
          refine r_aloadn h (q := 1) 3 rfl (by decide +kernel : decode cX8_readShuns 48 = .ok (.aload_n 1, 1)) ?_
          refine r_iconst h (v := 3) (by decide +kernel : decode cX8_readShuns 49 = .ok (.iconst 3, 1)) ?_
          obtain ⟨P9, hSP9, H⟩ := H
          refine r_callV h (as := [vi 3]) (S := []) (b := b1) m_Town_145 hSP9 (by decide) (Nat.le_refl _) rfl hb1 rfl (Nat.le_of_ble_eq_true rfl) (by decide +kernel : decode cX8_readShuns 50 = .ok (.invokevirtual 145, 3)) ?_
          rintro _ _ M9 ⟨rfl, r8, rfl, hP⟩
          have H := H r8 M9 hP
          show K NN RRC _ _ [vi r8] _
          exact r_zret h rfl H.1 (by decide +kernel : decode cX8_readShuns 53 = .ok (.ireturn, 1)) rfl ⟨rfl, _, rfl, H.2⟩
    · have H := H2 hc
      refine r_iconst h (v := 0) (by decide +kernel : decode cX8_readShuns 32 = .ok (.iconst 0, 1)) ?_
      exact r_zret h rfl (by decide) (by decide +kernel : decode cX8_readShuns 33 = .ok (.ireturn, 1)) rfl ⟨rfl, _, rfl, H⟩
  · have H := H2 hc
    refine r_iconst h (v := 0) (by decide +kernel : decode cX8_readShuns 15 = .ok (.iconst 0, 1)) ?_
    exact r_zret h rfl (by decide) (by decide +kernel : decode cX8_readShuns 16 = .ok (.ireturn, 1)) rfl ⟨rfl, _, rfl, H⟩
theorem W_Town_readShuns (b : Nat) (hb : At shC NN b (.inl 7)) (b1 : Nat) (hb1 : At shC NN b1 (.inl 6)) (M : Mm) {P : Int → Mm → Prop} (H : ∃ P1 : Mm → Prop, S_Tape_advance b1 M P1 ∧ ∀ M1 : Mm, P1 M1 → ∃ P2 : Int → Mm → Prop, S_Town_houseNamed b b1 M1 P2 ∧ ∀ (r2 : Int) (M2 : Mm), P2 r2 M2 → (rng r2) ∧ (r2 ≠ (-1) → (∃ P3 : Mm → Prop, S_Tape_advance b1 M2 P3 ∧ ∀ M3 : Mm, P3 M3 → ∃ P4 : Int → Mm → Prop, S_Town_houseNamed b b1 M3 P4 ∧ ∀ (r4 : Int) (M4 : Mm), P4 r4 M4 → (rng r4) ∧ (r4 ≠ (-1) → ((rng r2) ∧ (rng r4) ∧ (r2 = r4 → (∃ P5 : Int → Mm → Prop, S_Tape_fail b1 3 M4 P5 ∧ ∀ (r5 : Int) (M5 : Mm), P5 r5 M5 → (r5 = 0 ∨ r5 = 1) ∧ P r5 M5)) ∧ (r2 ≠ r4 → (∃ P6 : Int → Mm → Prop, S_Town_doesShun b r2 r4 M4 P6 ∧ ∀ (r6 : Int) (M6 : Mm), P6 r6 M6 → (rng r6) ∧ (r6 = 0 → ((0 ≤ r2 ∧ r2 < 7) ∧ (0 ≤ r2 ∧ r2 < 7) ∧ ∀ M7 : Mm, M7 = (upr M6 (b + 6) (up1 (M6 (b + 6)) r2.toNat (orI (M6 (b + 6) r2.toNat) (shlI 1 r4)))) → ∃ P8 : Mm → Prop, S_Tape_advance b1 M7 P8 ∧ ∀ M8 : Mm, P8 M8 → P 1 M8)) ∧ (r6 ≠ 0 → (∃ P9 : Int → Mm → Prop, S_Tape_fail b1 3 M6 P9 ∧ ∀ (r8 : Int) (M9 : Mm), P9 r8 M9 → (r8 = 0 ∨ r8 = 1) ∧ P r8 M9)))))) ∧ (r4 = (-1) → (P 0 M4)))) ∧ (r2 = (-1) → (P 0 M2))) : S_Town_readShuns b b1 M P := e_Town_readShuns b b1 M (fun _ h => w_Town_readShuns_0 h b hb b1 hb1 M H)
set_option maxHeartbeats 4000000 in
set_option maxRecDepth 100000 in
theorem w_Years_readHouse_0 {P : Int → Mm → Prop} {K : Nat → Rr → Nat → List (Nat × AV) → List AV → Mm → Prop} (h : EK shC yX10_readHouse cX10_readHouse 3 (some .boolean) 9 NN NN (QI RRC P) K) (b : Nat) (hb : At shC NN b (.inl 8)) (b1 : Nat) (hb1 : At shC NN b1 (.inl 6)) (b2 : Nat) (hb2 : At shC NN b2 (.inl 7)) (M : Mm)
    (H : ∃ P1 : Int → Mm → Prop, S_Town_houseNamed b2 b1 M P1 ∧ ∀ (r1 : Int) (M1 : Mm), P1 r1 M1 → (0 ≤ (M b 3) ∧ (M b 3) < 40) ∧ ∀ M2 : Mm, M2 = (upr M1 (b + 2) (up1 (M1 (b + 2)) (M b 3).toNat r1)) → (0 ≤ (M2 b 3) ∧ (M2 b 3) < 40) ∧ (rng (M2 (b + 2) (M2 b 3).toNat)) ∧ ((M2 (b + 2) (M2 b 3).toNat) ≠ (-1) → (∃ P3 : Mm → Prop, S_Tape_advance b1 M2 P3 ∧ ∀ M3 : Mm, P3 M3 → P 1 M3)) ∧ ((M2 (b + 2) (M2 b 3).toNat) = (-1) → (P 0 M2))) :
    K NN RRC 0 [(0, vr b), (1, vr b1), (2, vr b2)] [] M := by
  refine r_aloadn h (q := 0) 0 rfl (by decide +kernel : decode cX10_readHouse 0 = .ok (.aload_n 0, 1)) ?_
  refine r_getR h (r := (b + 2)) f_Years_15 hb (rr_8_1 hb) (by omega) (by decide +kernel : decode cX10_readHouse 1 = .ok (.getfield 15, 3)) ?_
  refine r_aloadn h (q := 0) 0 rfl (by decide +kernel : decode cX10_readHouse 4 = .ok (.aload_n 0, 1)) ?_
  refine r_getI h f_Years_21 hb (by decide +kernel : decode cX10_readHouse 5 = .ok (.getfield 21, 3)) ?_
  refine r_aloadn h (q := 2) 2 rfl (by decide +kernel : decode cX10_readHouse 8 = .ok (.aload_n 2, 1)) ?_
  refine r_aloadn h (q := 1) 1 rfl (by decide +kernel : decode cX10_readHouse 9 = .ok (.aload_n 1, 1)) ?_
  obtain ⟨P1, hSP1, H⟩ := H
  refine r_callV h (as := [vr b1]) (S := [vi (M b 3), vr (b + 2)]) (b := b2) m_Years_76 hSP1 (by decide) (Nat.le_refl _) rfl hb2 rfl (Nat.le_of_ble_eq_true rfl) (by decide +kernel : decode cX10_readHouse 10 = .ok (.invokevirtual 76, 3)) ?_
  rintro _ _ M1 ⟨rfl, r1, rfl, hP⟩
  have H := H r1 M1 hP
  show K NN RRC _ _ [vi r1, vi (M b 3), vr (b + 2)] _
  obtain ⟨g1, H⟩ := H
  refine r_iast h (M b 3).toNat rfl (at_8_1 hb) g1 (by decide) (by decide +kernel : decode cX10_readHouse 13 = .ok (.iastore, 1)) ?_
  have H := H _ rfl
  revert H
  generalize (upr M1 (b + 2) (up1 (M1 (b + 2)) (M b 3).toNat r1)) = M2
  intro H
  refine r_aloadn h (q := 0) 0 rfl (by decide +kernel : decode cX10_readHouse 14 = .ok (.aload_n 0, 1)) ?_
  refine r_getR h (r := (b + 2)) f_Years_15 hb (rr_8_1 hb) (by omega) (by decide +kernel : decode cX10_readHouse 15 = .ok (.getfield 15, 3)) ?_
  refine r_aloadn h (q := 0) 0 rfl (by decide +kernel : decode cX10_readHouse 18 = .ok (.aload_n 0, 1)) ?_
  refine r_getI h f_Years_21 hb (by decide +kernel : decode cX10_readHouse 19 = .ok (.getfield 21, 3)) ?_
  obtain ⟨g1, H⟩ := H
  refine r_iald h (M2 b 3).toNat rfl (at_8_1 hb) g1 (by decide) (by decide +kernel : decode cX10_readHouse 22 = .ok (.iaload, 1)) ?_
  refine r_iconst h (v := (-1)) (by decide +kernel : decode cX10_readHouse 23 = .ok (.iconst (-1), 1)) ?_
  obtain ⟨g1, H⟩ := H
  obtain ⟨H1, H2⟩ := H
  refine r_icmp_ne h 29 g1 (by decide) (by decide) (by decide +kernel : decode cX10_readHouse 24 = .ok (.if_icmp .ne 5, 3)) (fun hc => ?_) (fun hc => ?_)
  · have H := H1 hc
    refine r_aloadn h (q := 1) 1 rfl (by decide +kernel : decode cX10_readHouse 29 = .ok (.aload_n 1, 1)) ?_
    obtain ⟨P3, hSP3, H⟩ := H
    refine r_callV h (as := []) (S := []) (b := b1) m_Years_55 hSP3 (by decide) (Nat.le_refl _) rfl hb1 rfl (Nat.le_of_ble_eq_true rfl) (by decide +kernel : decode cX10_readHouse 30 = .ok (.invokevirtual 55, 3)) ?_
    rintro _ _ M3 ⟨rfl, rfl, hP⟩
    have H := H M3 hP
    show K NN RRC _ _ [] _
    refine r_iconst h (v := 1) (by decide +kernel : decode cX10_readHouse 33 = .ok (.iconst 1, 1)) ?_
    exact r_zret h rfl (by decide) (by decide +kernel : decode cX10_readHouse 34 = .ok (.ireturn, 1)) rfl ⟨rfl, _, rfl, H⟩
  · have H := H2 hc
    refine r_iconst h (v := 0) (by decide +kernel : decode cX10_readHouse 27 = .ok (.iconst 0, 1)) ?_
    exact r_zret h rfl (by decide) (by decide +kernel : decode cX10_readHouse 28 = .ok (.ireturn, 1)) rfl ⟨rfl, _, rfl, H⟩
theorem W_Years_readHouse (b : Nat) (hb : At shC NN b (.inl 8)) (b1 : Nat) (hb1 : At shC NN b1 (.inl 6)) (b2 : Nat) (hb2 : At shC NN b2 (.inl 7)) (M : Mm) {P : Int → Mm → Prop} (H : ∃ P1 : Int → Mm → Prop, S_Town_houseNamed b2 b1 M P1 ∧ ∀ (r1 : Int) (M1 : Mm), P1 r1 M1 → (0 ≤ (M b 3) ∧ (M b 3) < 40) ∧ ∀ M2 : Mm, M2 = (upr M1 (b + 2) (up1 (M1 (b + 2)) (M b 3).toNat r1)) → (0 ≤ (M2 b 3) ∧ (M2 b 3) < 40) ∧ (rng (M2 (b + 2) (M2 b 3).toNat)) ∧ ((M2 (b + 2) (M2 b 3).toNat) ≠ (-1) → (∃ P3 : Mm → Prop, S_Tape_advance b1 M2 P3 ∧ ∀ M3 : Mm, P3 M3 → P 1 M3)) ∧ ((M2 (b + 2) (M2 b 3).toNat) = (-1) → (P 0 M2))) : S_Years_readHouse b b1 b2 M P := e_Years_readHouse b b1 b2 M (fun _ h => w_Years_readHouse_0 h b hb b1 hb1 b2 hb2 M H)
set_option maxHeartbeats 4000000 in
set_option maxRecDepth 100000 in
theorem w_Town_readMeasure_0 {P : Int → Mm → Prop} {K : Nat → Rr → Nat → List (Nat × AV) → List AV → Mm → Prop} (h : EK shC yX8_readMeasure cX8_readMeasure 6 (some .boolean) 10 NN NN (QI RRC P) K) (b : Nat) (hb : At shC NN b (.inl 7)) (b1 : Nat) (hb1 : At shC NN b1 (.inl 6)) (k2 : Nat) (hk2 : k2 < 27) (b3 l3 : Nat) (hb3 : At shC NN b3 (.inr (0, l3))) (hl3 : l3 < 2147483648) (x4 : Int) (x5 : Int) (M : Mm)
    (H : ∃ P1 : Int → Mm → Prop, S_Tape_takeWord b1 k2 M P1 ∧ ∀ (r1 : Int) (M1 : Mm), P1 r1 M1 → (rng r1) ∧ (r1 = 0 → (P 0 M1)) ∧ (r1 ≠ 0 → (∃ P2 : Int → Mm → Prop, S_Tape_takeNumber b1 x4 x5 M1 P2 ∧ ∀ (r2 : Int) (M2 : Mm), P2 r2 M2 → (rng r2) ∧ (r2 ≠ 0 → ((0 ≤ (M2 b 9) ∧ (M2 b 9) < l3) ∧ ∀ M3 : Mm, M3 = (upr M2 b3 (up1 (M2 b3) (M2 b 9).toNat (M2 b1 9))) → P 1 M3)) ∧ (r2 = 0 → (P 0 M2))))) :
    K NN RRC 0 [(0, vr b), (1, vr b1), (2, ve k2), (3, vr b3), (4, vi x4), (5, vi x5)] [] M := by
  refine r_aloadn h (q := 1) 1 rfl (by decide +kernel : decode cX8_readMeasure 0 = .ok (.aload_n 1, 1)) ?_
  refine r_aloadEn h (q := 2) 2 rfl (by decide +kernel : decode cX8_readMeasure 1 = .ok (.aload_n 2, 1)) ?_
  obtain ⟨P1, hSP1, H⟩ := H
  refine r_callV h (as := [ve k2]) (S := []) (b := b1) m_Town_179 hSP1 (by decide) (Nat.le_refl _) rfl hb1 rfl (Nat.le_of_ble_eq_true rfl) (by decide +kernel : decode cX8_readMeasure 2 = .ok (.invokevirtual 179, 3)) ?_
  rintro _ _ M1 ⟨rfl, r1, rfl, hP⟩
  have H := H r1 M1 hP
  show K NN RRC _ _ [vi r1] _
  obtain ⟨g1, H⟩ := H
  obtain ⟨H1, H2⟩ := H
  refine r_if_eq h 19 g1 (by decide) (by decide +kernel : decode cX8_readMeasure 5 = .ok (.ifCond .eq 14, 3)) (fun hc => ?_) (fun hc => ?_)
  · have H := H1 hc
    refine r_iconst h (v := 0) (by decide +kernel : decode cX8_readMeasure 19 = .ok (.iconst 0, 1)) ?_
    exact r_zret h rfl (by decide) (by decide +kernel : decode cX8_readMeasure 20 = .ok (.ireturn, 1)) rfl ⟨rfl, _, rfl, H⟩
  · have H := H2 hc
    refine r_aloadn h (q := 1) 1 rfl (by decide +kernel : decode cX8_readMeasure 8 = .ok (.aload_n 1, 1)) ?_
    refine r_iload h 4 rfl (by decide +kernel : decode cX8_readMeasure 9 = .ok (.iload 4, 2)) ?_
    refine r_iload h 5 rfl (by decide +kernel : decode cX8_readMeasure 11 = .ok (.iload 5, 2)) ?_
    obtain ⟨P2, hSP2, H⟩ := H
    refine r_callV h (as := [vi x4, vi x5]) (S := []) (b := b1) m_Town_183 hSP2 (by decide) (Nat.le_refl _) rfl hb1 rfl (Nat.le_of_ble_eq_true rfl) (by decide +kernel : decode cX8_readMeasure 13 = .ok (.invokevirtual 183, 3)) ?_
    rintro _ _ M2 ⟨rfl, r2, rfl, hP⟩
    have H := H r2 M2 hP
    show K NN RRC _ _ [vi r2] _
    obtain ⟨g1, H⟩ := H
    obtain ⟨H1, H2⟩ := H
    refine r_if_ne h 21 g1 (by decide) (by decide +kernel : decode cX8_readMeasure 16 = .ok (.ifCond .ne 5, 3)) (fun hc => ?_) (fun hc => ?_)
    · have H := H1 hc
      refine r_aloadn h (q := 3) 3 rfl (by decide +kernel : decode cX8_readMeasure 21 = .ok (.aload_n 3, 1)) ?_
      refine r_aloadn h (q := 0) 0 rfl (by decide +kernel : decode cX8_readMeasure 22 = .ok (.aload_n 0, 1)) ?_
      refine r_getI h f_Town_49 hb (by decide +kernel : decode cX8_readMeasure 23 = .ok (.getfield 49, 3)) ?_
      refine r_aloadn h (q := 1) 1 rfl (by decide +kernel : decode cX8_readMeasure 26 = .ok (.aload_n 1, 1)) ?_
      refine r_getI h f_Town_187 hb1 (by decide +kernel : decode cX8_readMeasure 27 = .ok (.getfield 187, 3)) ?_
      obtain ⟨g1, H⟩ := H
      refine r_iast h (M2 b 9).toNat rfl hb3 g1 hl3 (by decide +kernel : decode cX8_readMeasure 30 = .ok (.iastore, 1)) ?_
      have H := H _ rfl
      revert H
      generalize (upr M2 b3 (up1 (M2 b3) (M2 b 9).toNat (M2 b1 9))) = M3
      intro H
      refine r_iconst h (v := 1) (by decide +kernel : decode cX8_readMeasure 31 = .ok (.iconst 1, 1)) ?_
      exact r_zret h rfl (by decide) (by decide +kernel : decode cX8_readMeasure 32 = .ok (.ireturn, 1)) rfl ⟨rfl, _, rfl, H⟩
    · have H := H2 hc
      refine r_iconst h (v := 0) (by decide +kernel : decode cX8_readMeasure 19 = .ok (.iconst 0, 1)) ?_
      exact r_zret h rfl (by decide) (by decide +kernel : decode cX8_readMeasure 20 = .ok (.ireturn, 1)) rfl ⟨rfl, _, rfl, H⟩
theorem W_Town_readMeasure (b : Nat) (hb : At shC NN b (.inl 7)) (b1 : Nat) (hb1 : At shC NN b1 (.inl 6)) (k2 : Nat) (hk2 : k2 < 27) (b3 l3 : Nat) (hb3 : At shC NN b3 (.inr (0, l3))) (hl3 : l3 < 2147483648) (x4 : Int) (x5 : Int) (M : Mm) {P : Int → Mm → Prop} (H : ∃ P1 : Int → Mm → Prop, S_Tape_takeWord b1 k2 M P1 ∧ ∀ (r1 : Int) (M1 : Mm), P1 r1 M1 → (rng r1) ∧ (r1 = 0 → (P 0 M1)) ∧ (r1 ≠ 0 → (∃ P2 : Int → Mm → Prop, S_Tape_takeNumber b1 x4 x5 M1 P2 ∧ ∀ (r2 : Int) (M2 : Mm), P2 r2 M2 → (rng r2) ∧ (r2 ≠ 0 → ((0 ≤ (M2 b 9) ∧ (M2 b 9) < l3) ∧ ∀ M3 : Mm, M3 = (upr M2 b3 (up1 (M2 b3) (M2 b 9).toNat (M2 b1 9))) → P 1 M3)) ∧ (r2 = 0 → (P 0 M2))))) : S_Town_readMeasure b b1 k2 b3 l3 x4 x5 M P := e_Town_readMeasure b b1 k2 b3 l3 x4 x5 M (fun _ h => w_Town_readMeasure_0 h b hb b1 hb1 k2 hk2 b3 l3 hb3 hl3 x4 x5 M H)
set_option maxHeartbeats 4000000 in
set_option maxRecDepth 100000 in
theorem w_Town_readGap_0 {P : Int → Mm → Prop} {K : Nat → Rr → Nat → List (Nat × AV) → List AV → Mm → Prop} (h : EK shC yX8_readGap cX8_readGap 2 (some .boolean) 10 NN NN (QI RRC P) K) (b : Nat) (hb : At shC NN b (.inl 7)) (b1 : Nat) (hb1 : At shC NN b1 (.inl 6)) (M : Mm)
    (H : ∃ P1 : Int → Mm → Prop, S_Tape_takeNumber b1 1 20 M P1 ∧ ∀ (r1 : Int) (M1 : Mm), P1 r1 M1 → (rng r1) ∧ (r1 ≠ 0 → (∀ M2 : Mm, M2 = (upr M1 b (up1 (M1 b) 10 (M1 b1 9))) → P 1 M2)) ∧ (r1 = 0 → (P 0 M1))) :
    K NN RRC 0 [(0, vr b), (1, vr b1)] [] M := by
  refine r_aloadn h (q := 1) 1 rfl (by decide +kernel : decode cX8_readGap 0 = .ok (.aload_n 1, 1)) ?_
  refine r_iconst h (v := 1) (by decide +kernel : decode cX8_readGap 1 = .ok (.iconst 1, 1)) ?_
  refine r_bipush h (v := 20) (by decide) (by decide +kernel : decode cX8_readGap 2 = .ok (.bipush 20, 2)) ?_
  obtain ⟨P1, hSP1, H⟩ := H
  refine r_callV h (as := [vi 1, vi 20]) (S := []) (b := b1) m_Town_183 hSP1 (by decide) (Nat.le_refl _) rfl hb1 rfl (Nat.le_of_ble_eq_true rfl) (by decide +kernel : decode cX8_readGap 4 = .ok (.invokevirtual 183, 3)) ?_
  rintro _ _ M1 ⟨rfl, r1, rfl, hP⟩
  have H := H r1 M1 hP
  show K NN RRC _ _ [vi r1] _
  obtain ⟨g1, H⟩ := H
  obtain ⟨H1, H2⟩ := H
  refine r_if_ne h 12 g1 (by decide) (by decide +kernel : decode cX8_readGap 7 = .ok (.ifCond .ne 5, 3)) (fun hc => ?_) (fun hc => ?_)
  · have H := H1 hc
    refine r_aloadn h (q := 0) 0 rfl (by decide +kernel : decode cX8_readGap 12 = .ok (.aload_n 0, 1)) ?_
    refine r_aloadn h (q := 1) 1 rfl (by decide +kernel : decode cX8_readGap 13 = .ok (.aload_n 1, 1)) ?_
    refine r_getI h f_Town_187 hb1 (by decide +kernel : decode cX8_readGap 14 = .ok (.getfield 187, 3)) ?_
    refine r_putI h f_Town_53 hb rfl rfl (by decide +kernel : decode cX8_readGap 17 = .ok (.putfield 53, 3)) ?_
    have H := H _ rfl
    revert H
    generalize (upr M1 b (up1 (M1 b) 10 (M1 b1 9))) = M2
    intro H
    refine r_iconst h (v := 1) (by decide +kernel : decode cX8_readGap 20 = .ok (.iconst 1, 1)) ?_
    exact r_zret h rfl (by decide) (by decide +kernel : decode cX8_readGap 21 = .ok (.ireturn, 1)) rfl ⟨rfl, _, rfl, H⟩
  · have H := H2 hc
    refine r_iconst h (v := 0) (by decide +kernel : decode cX8_readGap 10 = .ok (.iconst 0, 1)) ?_
    exact r_zret h rfl (by decide) (by decide +kernel : decode cX8_readGap 11 = .ok (.ireturn, 1)) rfl ⟨rfl, _, rfl, H⟩
theorem W_Town_readGap (b : Nat) (hb : At shC NN b (.inl 7)) (b1 : Nat) (hb1 : At shC NN b1 (.inl 6)) (M : Mm) {P : Int → Mm → Prop} (H : ∃ P1 : Int → Mm → Prop, S_Tape_takeNumber b1 1 20 M P1 ∧ ∀ (r1 : Int) (M1 : Mm), P1 r1 M1 → (rng r1) ∧ (r1 ≠ 0 → (∀ M2 : Mm, M2 = (upr M1 b (up1 (M1 b) 10 (M1 b1 9))) → P 1 M2)) ∧ (r1 = 0 → (P 0 M1))) : S_Town_readGap b b1 M P := e_Town_readGap b b1 M (fun _ h => w_Town_readGap_0 h b hb b1 hb1 M H)
set_option maxHeartbeats 4000000 in
set_option maxRecDepth 100000 in
theorem w_Town_readPrice_0 {P : Int → Mm → Prop} {K : Nat → Rr → Nat → List (Nat × AV) → List AV → Mm → Prop} (h : EK shC yX8_readPrice cX8_readPrice 2 (some .boolean) 10 NN NN (QI RRC P) K) (b : Nat) (hb : At shC NN b (.inl 7)) (b1 : Nat) (hb1 : At shC NN b1 (.inl 6)) (M : Mm)
    (H : ∃ P1 : Int → Mm → Prop, S_Tape_takeNumber b1 0 99 M P1 ∧ ∀ (r1 : Int) (M1 : Mm), P1 r1 M1 → (rng r1) ∧ (r1 ≠ 0 → (∀ M2 : Mm, M2 = (upr M1 b (up1 (M1 b) 11 (M1 b1 9))) → P 1 M2)) ∧ (r1 = 0 → (P 0 M1))) :
    K NN RRC 0 [(0, vr b), (1, vr b1)] [] M := by
  refine r_aloadn h (q := 1) 1 rfl (by decide +kernel : decode cX8_readPrice 0 = .ok (.aload_n 1, 1)) ?_
  refine r_iconst h (v := 0) (by decide +kernel : decode cX8_readPrice 1 = .ok (.iconst 0, 1)) ?_
  refine r_bipush h (v := 99) (by decide) (by decide +kernel : decode cX8_readPrice 2 = .ok (.bipush 99, 2)) ?_
  obtain ⟨P1, hSP1, H⟩ := H
  refine r_callV h (as := [vi 0, vi 99]) (S := []) (b := b1) m_Town_183 hSP1 (by decide) (Nat.le_refl _) rfl hb1 rfl (Nat.le_of_ble_eq_true rfl) (by decide +kernel : decode cX8_readPrice 4 = .ok (.invokevirtual 183, 3)) ?_
  rintro _ _ M1 ⟨rfl, r1, rfl, hP⟩
  have H := H r1 M1 hP
  show K NN RRC _ _ [vi r1] _
  obtain ⟨g1, H⟩ := H
  obtain ⟨H1, H2⟩ := H
  refine r_if_ne h 12 g1 (by decide) (by decide +kernel : decode cX8_readPrice 7 = .ok (.ifCond .ne 5, 3)) (fun hc => ?_) (fun hc => ?_)
  · have H := H1 hc
    refine r_aloadn h (q := 0) 0 rfl (by decide +kernel : decode cX8_readPrice 12 = .ok (.aload_n 0, 1)) ?_
    refine r_aloadn h (q := 1) 1 rfl (by decide +kernel : decode cX8_readPrice 13 = .ok (.aload_n 1, 1)) ?_
    refine r_getI h f_Town_187 hb1 (by decide +kernel : decode cX8_readPrice 14 = .ok (.getfield 187, 3)) ?_
    refine r_putI h f_Town_56 hb rfl rfl (by decide +kernel : decode cX8_readPrice 17 = .ok (.putfield 56, 3)) ?_
    have H := H _ rfl
    revert H
    generalize (upr M1 b (up1 (M1 b) 11 (M1 b1 9))) = M2
    intro H
    refine r_iconst h (v := 1) (by decide +kernel : decode cX8_readPrice 20 = .ok (.iconst 1, 1)) ?_
    exact r_zret h rfl (by decide) (by decide +kernel : decode cX8_readPrice 21 = .ok (.ireturn, 1)) rfl ⟨rfl, _, rfl, H⟩
  · have H := H2 hc
    refine r_iconst h (v := 0) (by decide +kernel : decode cX8_readPrice 10 = .ok (.iconst 0, 1)) ?_
    exact r_zret h rfl (by decide) (by decide +kernel : decode cX8_readPrice 11 = .ok (.ireturn, 1)) rfl ⟨rfl, _, rfl, H⟩
theorem W_Town_readPrice (b : Nat) (hb : At shC NN b (.inl 7)) (b1 : Nat) (hb1 : At shC NN b1 (.inl 6)) (M : Mm) {P : Int → Mm → Prop} (H : ∃ P1 : Int → Mm → Prop, S_Tape_takeNumber b1 0 99 M P1 ∧ ∀ (r1 : Int) (M1 : Mm), P1 r1 M1 → (rng r1) ∧ (r1 ≠ 0 → (∀ M2 : Mm, M2 = (upr M1 b (up1 (M1 b) 11 (M1 b1 9))) → P 1 M2)) ∧ (r1 = 0 → (P 0 M1))) : S_Town_readPrice b b1 M P := e_Town_readPrice b b1 M (fun _ h => w_Town_readPrice_0 h b hb b1 hb1 M H)
set_option maxHeartbeats 4000000 in
set_option maxRecDepth 100000 in
theorem w_Town_readRains_0 {P : Int → Mm → Prop} {K : Nat → Rr → Nat → List (Nat × AV) → List AV → Mm → Prop} (h : EK shC yX8_readRains cX8_readRains 3 (some .boolean) 10 NN NN (QI RRC P) K) (b : Nat) (hb : At shC NN b (.inl 7)) (b1 : Nat) (hb1 : At shC NN b1 (.inl 6)) (M : Mm)
    (H : ∀ M1 : Mm, M1 = (upr M b (up1 (M b) 12 0)) → K NN RRC 7 [(0, vr b), (1, vr b1), (2, vi 0)] [] M1) :
    K NN RRC 0 [(0, vr b), (1, vr b1)] [] M := by
  refine r_aloadn h (q := 0) 0 rfl (by decide +kernel : decode cX8_readRains 0 = .ok (.aload_n 0, 1)) ?_
  refine r_iconst h (v := 0) (by decide +kernel : decode cX8_readRains 1 = .ok (.iconst 0, 1)) ?_
  refine r_putI h f_Town_59 hb rfl rfl (by decide +kernel : decode cX8_readRains 2 = .ok (.putfield 59, 3)) ?_
  have H := H _ rfl
  revert H
  generalize (upr M b (up1 (M b) 12 0)) = M1
  intro H
  refine r_iconst h (v := 0) (by decide +kernel : decode cX8_readRains 5 = .ok (.iconst 0, 1)) ?_
  refine r_istoren h (q := 2) (L' := [(2, vi 0), (0, vr b), (1, vr b1)]) (by decide) rfl (by decide +kernel : decode cX8_readRains 6 = .ok (.istore_n 2, 1)) ?_
  refine r_drop h [1, 2, 0] rfl ?_
  exact H
set_option maxHeartbeats 4000000 in
set_option maxRecDepth 100000 in
theorem w_Town_readRains_7 {P : Int → Mm → Prop} {K : Nat → Rr → Nat → List (Nat × AV) → List AV → Mm → Prop} (h : EK shC yX8_readRains cX8_readRains 3 (some .boolean) 10 NN NN (QI RRC P) K) (b : Nat) (hb : At shC NN b (.inl 7)) (b1 : Nat) (hb1 : At shC NN b1 (.inl 6)) (x2 : Int) (M : Mm)
    (H : (rng x2) ∧ (12 < x2 → (P 1 M)) ∧ (¬ (12 < x2) → ((rng x2) ∧ (x2 = 0 → (K NN RRC 25 [(0, vr b), (1, vr b1), (2, vi x2)] [] M)) ∧ (x2 ≠ 0 → ((rng (M b1 5)) ∧ ((M b1 5) ≠ 3 → (P 1 M)) ∧ ((M b1 5) = 3 → (K NN RRC 25 [(0, vr b), (1, vr b1), (2, vi x2)] [] M))))))) :
    K NN RRC 7 [(0, vr b), (1, vr b1), (2, vi x2)] [] M := by
  refine r_iloadn h (q := 2) 2 rfl (by decide +kernel : decode cX8_readRains 7 = .ok (.iload_n 2, 1)) ?_
  refine r_bipush h (v := 12) (by decide) (by decide +kernel : decode cX8_readRains 8 = .ok (.bipush 12, 2)) ?_
  obtain ⟨g1, H⟩ := H
  obtain ⟨H1, H2⟩ := H
  refine r_icmp_gt h 90 g1 (by decide) (by decide) (by decide +kernel : decode cX8_readRains 10 = .ok (.if_icmp .gt 80, 3)) (fun hc => ?_) (fun hc => ?_)
  · have H := H1 hc
    refine r_iconst h (v := 1) (by decide +kernel : decode cX8_readRains 90 = .ok (.iconst 1, 1)) ?_
    exact r_zret h rfl (by decide) (by decide +kernel : decode cX8_readRains 91 = .ok (.ireturn, 1)) rfl ⟨rfl, _, rfl, H⟩
  · have H := H2 hc
    refine r_iloadn h (q := 2) 2 rfl (by decide +kernel : decode cX8_readRains 13 = .ok (.iload_n 2, 1)) ?_
    obtain ⟨g1, H⟩ := H
    obtain ⟨H1, H2⟩ := H
    refine r_if_eq h 25 g1 (by decide) (by decide +kernel : decode cX8_readRains 14 = .ok (.ifCond .eq 11, 3)) (fun hc => ?_) (fun hc => ?_)
    · have H := H1 hc
      exact H
    · have H := H2 hc
      refine r_aloadn h (q := 1) 1 rfl (by decide +kernel : decode cX8_readRains 17 = .ok (.aload_n 1, 1)) ?_
      refine r_getI h f_Town_97 hb1 (by decide +kernel : decode cX8_readRains 18 = .ok (.getfield 97, 3)) ?_
      refine r_iconst h (v := 3) (by decide +kernel : decode cX8_readRains 21 = .ok (.iconst 3, 1)) ?_
      obtain ⟨g1, H⟩ := H
      obtain ⟨H1, H2⟩ := H
      refine r_icmp_ne h 90 g1 (by decide) (by decide) (by decide +kernel : decode cX8_readRains 22 = .ok (.if_icmp .ne 68, 3)) (fun hc => ?_) (fun hc => ?_)
      · have H := H1 hc
        refine r_iconst h (v := 1) (by decide +kernel : decode cX8_readRains 90 = .ok (.iconst 1, 1)) ?_
        exact r_zret h rfl (by decide) (by decide +kernel : decode cX8_readRains 91 = .ok (.ireturn, 1)) rfl ⟨rfl, _, rfl, H⟩
      · have H := H2 hc
        exact H
set_option maxHeartbeats 4000000 in
set_option maxRecDepth 100000 in
theorem w_Town_readRains_25 {P : Int → Mm → Prop} {K : Nat → Rr → Nat → List (Nat × AV) → List AV → Mm → Prop} (h : EK shC yX8_readRains cX8_readRains 3 (some .boolean) 10 NN NN (QI RRC P) K) (b : Nat) (hb : At shC NN b (.inl 7)) (b1 : Nat) (hb1 : At shC NN b1 (.inl 6)) (x2 : Int) (M : Mm)
    (H : (rng (M b 12)) ∧ ((M b 12) < 12 → (K NN RRC 49 [(0, vr b), (1, vr b1), (2, vi x2)] [] M)) ∧ (¬ ((M b 12) < 12) → ((rng (M b1 8)) ∧ (9 < (M b1 8) → (K NN RRC 49 [(0, vr b), (1, vr b1), (2, vi x2)] [] M)) ∧ (¬ (9 < (M b1 8)) → (∃ P1 : Int → Mm → Prop, S_Tape_fail b1 5 M P1 ∧ ∀ (r1 : Int) (M1 : Mm), P1 r1 M1 → (r1 = 0 ∨ r1 = 1) ∧ P r1 M1))))) :
    K NN RRC 25 [(0, vr b), (1, vr b1), (2, vi x2)] [] M := by
  refine r_aloadn h (q := 0) 0 rfl (by decide +kernel : decode cX8_readRains 25 = .ok (.aload_n 0, 1)) ?_
  refine r_getI h f_Town_59 hb (by decide +kernel : decode cX8_readRains 26 = .ok (.getfield 59, 3)) ?_
  refine r_bipush h (v := 12) (by decide) (by decide +kernel : decode cX8_readRains 29 = .ok (.bipush 12, 2)) ?_
  obtain ⟨g1, H⟩ := H
  obtain ⟨H1, H2⟩ := H
  refine r_icmp_lt h 49 g1 (by decide) (by decide) (by decide +kernel : decode cX8_readRains 31 = .ok (.if_icmp .lt 18, 3)) (fun hc => ?_) (fun hc => ?_)
  · have H := H1 hc
    exact H
  · have H := H2 hc
    refine r_aloadn h (q := 1) 1 rfl (by decide +kernel : decode cX8_readRains 34 = .ok (.aload_n 1, 1)) ?_
    refine r_getI h f_Town_197 hb1 (by decide +kernel : decode cX8_readRains 35 = .ok (.getfield 197, 3)) ?_
    refine r_bipush h (v := 9) (by decide) (by decide +kernel : decode cX8_readRains 38 = .ok (.bipush 9, 2)) ?_
    obtain ⟨g1, H⟩ := H
    obtain ⟨H1, H2⟩ := H
    refine r_icmp_gt h 49 g1 (by decide) (by decide) (by decide +kernel : decode cX8_readRains 40 = .ok (.if_icmp .gt 9, 3)) (fun hc => ?_) (fun hc => ?_)
    · have H := H1 hc
      exact H
    · have H := H2 hc
      refine r_aloadn h (q := 1) 1 rfl (by decide +kernel : decode cX8_readRains 43 = .ok (.aload_n 1, 1)) ?_
      refine r_iconst h (v := 5) (by decide +kernel : decode cX8_readRains 44 = .ok (.iconst 5, 1)) ?_
      obtain ⟨P1, hSP1, H⟩ := H
      refine r_callV h (as := [vi 5]) (S := []) (b := b1) m_Town_145 hSP1 (by decide) (Nat.le_refl _) rfl hb1 rfl (Nat.le_of_ble_eq_true rfl) (by decide +kernel : decode cX8_readRains 45 = .ok (.invokevirtual 145, 3)) ?_
      rintro _ _ M1 ⟨rfl, r1, rfl, hP⟩
      have H := H r1 M1 hP
      show K NN RRC _ _ [vi r1] _
      exact r_zret h rfl H.1 (by decide +kernel : decode cX8_readRains 48 = .ok (.ireturn, 1)) rfl ⟨rfl, _, rfl, H.2⟩
set_option maxHeartbeats 4000000 in
set_option maxRecDepth 100000 in
theorem w_Town_readRains_49 {P : Int → Mm → Prop} {K : Nat → Rr → Nat → List (Nat × AV) → List AV → Mm → Prop} (h : EK shC yX8_readRains cX8_readRains 3 (some .boolean) 10 NN NN (QI RRC P) K) (b : Nat) (hb : At shC NN b (.inl 7)) (b1 : Nat) (hb1 : At shC NN b1 (.inl 6)) (x2 : Int) (M : Mm)
    (H : ∃ P1 : Int → Mm → Prop, S_Tape_takeNumber b1 0 9 M P1 ∧ ∀ (r1 : Int) (M1 : Mm), P1 r1 M1 → (rng r1) ∧ (r1 ≠ 0 → ((0 ≤ (M1 b 12) ∧ (M1 b 12) < 12) ∧ ∀ M2 : Mm, M2 = (upr M1 (b + 7) (up1 (M1 (b + 7)) (M1 b 12).toNat (M1 b1 9))) → ∀ M3 : Mm, M3 = (upr M2 b (up1 (M2 b) 12 ((M2 b 12) + 1))) → K NN RRC 7 [(0, vr b), (1, vr b1), (2, vi (x2 + 1))] [] M3)) ∧ (r1 = 0 → (P 0 M1))) :
    K NN RRC 49 [(0, vr b), (1, vr b1), (2, vi x2)] [] M := by
  refine r_aloadn h (q := 1) 1 rfl (by decide +kernel : decode cX8_readRains 49 = .ok (.aload_n 1, 1)) ?_
  refine r_iconst h (v := 0) (by decide +kernel : decode cX8_readRains 50 = .ok (.iconst 0, 1)) ?_
  refine r_bipush h (v := 9) (by decide) (by decide +kernel : decode cX8_readRains 51 = .ok (.bipush 9, 2)) ?_
  obtain ⟨P1, hSP1, H⟩ := H
  refine r_callV h (as := [vi 0, vi 9]) (S := []) (b := b1) m_Town_183 hSP1 (by decide) (Nat.le_refl _) rfl hb1 rfl (Nat.le_of_ble_eq_true rfl) (by decide +kernel : decode cX8_readRains 53 = .ok (.invokevirtual 183, 3)) ?_
  rintro _ _ M1 ⟨rfl, r1, rfl, hP⟩
  have H := H r1 M1 hP
  show K NN RRC _ _ [vi r1] _
  obtain ⟨g1, H⟩ := H
  obtain ⟨H1, H2⟩ := H
  refine r_if_ne h 61 g1 (by decide) (by decide +kernel : decode cX8_readRains 56 = .ok (.ifCond .ne 5, 3)) (fun hc => ?_) (fun hc => ?_)
  · have H := H1 hc
    refine r_aloadn h (q := 0) 0 rfl (by decide +kernel : decode cX8_readRains 61 = .ok (.aload_n 0, 1)) ?_
    refine r_getR h (r := (b + 7)) f_Town_31 hb (rr_7_6 hb) (by omega) (by decide +kernel : decode cX8_readRains 62 = .ok (.getfield 31, 3)) ?_
    refine r_aloadn h (q := 0) 0 rfl (by decide +kernel : decode cX8_readRains 65 = .ok (.aload_n 0, 1)) ?_
    refine r_getI h f_Town_59 hb (by decide +kernel : decode cX8_readRains 66 = .ok (.getfield 59, 3)) ?_
    refine r_aloadn h (q := 1) 1 rfl (by decide +kernel : decode cX8_readRains 69 = .ok (.aload_n 1, 1)) ?_
    refine r_getI h f_Town_187 hb1 (by decide +kernel : decode cX8_readRains 70 = .ok (.getfield 187, 3)) ?_
    obtain ⟨g1, H⟩ := H
    refine r_iast h (M1 b 12).toNat rfl (at_7_6 hb) g1 (by decide) (by decide +kernel : decode cX8_readRains 73 = .ok (.iastore, 1)) ?_
    have H := H _ rfl
    revert H
    generalize (upr M1 (b + 7) (up1 (M1 (b + 7)) (M1 b 12).toNat (M1 b1 9))) = M2
    intro H
    refine r_aloadn h (q := 0) 0 rfl (by decide +kernel : decode cX8_readRains 74 = .ok (.aload_n 0, 1)) ?_
    refine r_dup h rfl (by decide +kernel : decode cX8_readRains 75 = .ok (.dup, 1)) ?_
    refine r_getI h f_Town_59 hb (by decide +kernel : decode cX8_readRains 76 = .ok (.getfield 59, 3)) ?_
    refine r_iconst h (v := 1) (by decide +kernel : decode cX8_readRains 79 = .ok (.iconst 1, 1)) ?_
    refine r_iadd h (by decide +kernel : decode cX8_readRains 80 = .ok (.iadd, 1)) ?_
    refine r_putI h f_Town_59 hb rfl rfl (by decide +kernel : decode cX8_readRains 81 = .ok (.putfield 59, 3)) ?_
    have H := H _ rfl
    revert H
    generalize (upr M2 b (up1 (M2 b) 12 ((M2 b 12) + 1))) = M3
    intro H
    refine r_iinc h (i := 2) (v := 1) (L' := [(2, vi (x2 + 1)), (0, vr b), (1, vr b1)]) 2 rfl (by decide) rfl (by decide +kernel : decode cX8_readRains 84 = .ok (.iinc 2 1, 3)) ?_
    refine r_goto h 7 (by decide) (by decide +kernel : decode cX8_readRains 87 = .ok (.goto (-80), 3)) ?_
    refine r_drop h [1, 2, 0] rfl ?_
    exact H
  · have H := H2 hc
    refine r_iconst h (v := 0) (by decide +kernel : decode cX8_readRains 59 = .ok (.iconst 0, 1)) ?_
    exact r_zret h rfl (by decide) (by decide +kernel : decode cX8_readRains 60 = .ok (.ireturn, 1)) rfl ⟨rfl, _, rfl, H⟩
set_option maxHeartbeats 4000000 in
set_option maxRecDepth 100000 in
theorem w_Years_readNumber_0 {P : Int → Mm → Prop} {K : Nat → Rr → Nat → List (Nat × AV) → List AV → Mm → Prop} (h : EK shC yX10_readNumber cX10_readNumber 4 (some .boolean) 10 NN NN (QI RRC P) K) (b : Nat) (hb : At shC NN b (.inl 8)) (b1 : Nat) (hb1 : At shC NN b1 (.inl 6)) (x2 : Int) (x3 : Int) (M : Mm)
    (H : ∃ P1 : Int → Mm → Prop, S_Tape_takeNumber b1 x2 x3 M P1 ∧ ∀ (r1 : Int) (M1 : Mm), P1 r1 M1 → (rng r1) ∧ (r1 ≠ 0 → ((0 ≤ (M1 b 3) ∧ (M1 b 3) < 40) ∧ ∀ M2 : Mm, M2 = (upr M1 (b + 3) (up1 (M1 (b + 3)) (M1 b 3).toNat (M1 b1 9))) → P 1 M2)) ∧ (r1 = 0 → (P 0 M1))) :
    K NN RRC 0 [(0, vr b), (1, vr b1), (2, vi x2), (3, vi x3)] [] M := by
  refine r_aloadn h (q := 1) 1 rfl (by decide +kernel : decode cX10_readNumber 0 = .ok (.aload_n 1, 1)) ?_
  refine r_iloadn h (q := 2) 2 rfl (by decide +kernel : decode cX10_readNumber 1 = .ok (.iload_n 2, 1)) ?_
  refine r_iloadn h (q := 3) 3 rfl (by decide +kernel : decode cX10_readNumber 2 = .ok (.iload_n 3, 1)) ?_
  obtain ⟨P1, hSP1, H⟩ := H
  refine r_callV h (as := [vi x2, vi x3]) (S := []) (b := b1) m_Years_82 hSP1 (by decide) (Nat.le_refl _) rfl hb1 rfl (Nat.le_of_ble_eq_true rfl) (by decide +kernel : decode cX10_readNumber 3 = .ok (.invokevirtual 82, 3)) ?_
  rintro _ _ M1 ⟨rfl, r1, rfl, hP⟩
  have H := H r1 M1 hP
  show K NN RRC _ _ [vi r1] _
  obtain ⟨g1, H⟩ := H
  obtain ⟨H1, H2⟩ := H
  refine r_if_ne h 11 g1 (by decide) (by decide +kernel : decode cX10_readNumber 6 = .ok (.ifCond .ne 5, 3)) (fun hc => ?_) (fun hc => ?_)
  · have H := H1 hc
    refine r_aloadn h (q := 0) 0 rfl (by decide +kernel : decode cX10_readNumber 11 = .ok (.aload_n 0, 1)) ?_
    refine r_getR h (r := (b + 3)) f_Years_18 hb (rr_8_2 hb) (by omega) (by decide +kernel : decode cX10_readNumber 12 = .ok (.getfield 18, 3)) ?_
    refine r_aloadn h (q := 0) 0 rfl (by decide +kernel : decode cX10_readNumber 15 = .ok (.aload_n 0, 1)) ?_
    refine r_getI h f_Years_21 hb (by decide +kernel : decode cX10_readNumber 16 = .ok (.getfield 21, 3)) ?_
    refine r_aloadn h (q := 1) 1 rfl (by decide +kernel : decode cX10_readNumber 19 = .ok (.aload_n 1, 1)) ?_
    refine r_getI h f_Years_86 hb1 (by decide +kernel : decode cX10_readNumber 20 = .ok (.getfield 86, 3)) ?_
    obtain ⟨g1, H⟩ := H
    refine r_iast h (M1 b 3).toNat rfl (at_8_2 hb) g1 (by decide) (by decide +kernel : decode cX10_readNumber 23 = .ok (.iastore, 1)) ?_
    have H := H _ rfl
    revert H
    generalize (upr M1 (b + 3) (up1 (M1 (b + 3)) (M1 b 3).toNat (M1 b1 9))) = M2
    intro H
    refine r_iconst h (v := 1) (by decide +kernel : decode cX10_readNumber 24 = .ok (.iconst 1, 1)) ?_
    exact r_zret h rfl (by decide) (by decide +kernel : decode cX10_readNumber 25 = .ok (.ireturn, 1)) rfl ⟨rfl, _, rfl, H⟩
  · have H := H2 hc
    refine r_iconst h (v := 0) (by decide +kernel : decode cX10_readNumber 9 = .ok (.iconst 0, 1)) ?_
    exact r_zret h rfl (by decide) (by decide +kernel : decode cX10_readNumber 10 = .ok (.ireturn, 1)) rfl ⟨rfl, _, rfl, H⟩
theorem W_Years_readNumber (b : Nat) (hb : At shC NN b (.inl 8)) (b1 : Nat) (hb1 : At shC NN b1 (.inl 6)) (x2 : Int) (x3 : Int) (M : Mm) {P : Int → Mm → Prop} (H : ∃ P1 : Int → Mm → Prop, S_Tape_takeNumber b1 x2 x3 M P1 ∧ ∀ (r1 : Int) (M1 : Mm), P1 r1 M1 → (rng r1) ∧ (r1 ≠ 0 → ((0 ≤ (M1 b 3) ∧ (M1 b 3) < 40) ∧ ∀ M2 : Mm, M2 = (upr M1 (b + 3) (up1 (M1 (b + 3)) (M1 b 3).toNat (M1 b1 9))) → P 1 M2)) ∧ (r1 = 0 → (P 0 M1))) : S_Years_readNumber b b1 x2 x3 M P := e_Years_readNumber b b1 x2 x3 M (fun _ h => w_Years_readNumber_0 h b hb b1 hb1 x2 x3 M H)
set_option maxHeartbeats 4000000 in
set_option maxRecDepth 100000 in
theorem w_Town_readHouse_0 {P : Int → Mm → Prop} {K : Nat → Rr → Nat → List (Nat × AV) → List AV → Mm → Prop} (h : EK shC yX8_readHouse cX8_readHouse 3 (some .boolean) 11 NN NN (QI RRC P) K) (b : Nat) (hb : At shC NN b (.inl 7)) (b1 : Nat) (hb1 : At shC NN b1 (.inl 6)) (M : Mm)
    (H : (rng (M b 9)) ∧ ((M b 9) < 7 → (∃ P1 : Mm → Prop, S_Tape_advance b1 M P1 ∧ ∀ M1 : Mm, P1 M1 → ∃ P2 : Int → Mm → Prop, S_Tape_isName b1 M1 P2 ∧ ∀ (r2 : Int) (M2 : Mm), P2 r2 M2 → (rng r2) ∧ (r2 ≠ 0 → (∃ P3 : Int → Mm → Prop, S_Town_numberOf b (M2 b1 7) M2 P3 ∧ ∀ (r3 : Int) (M3 : Mm), P3 r3 M3 → (rng r3) ∧ (r3 = (-1) → ((0 ≤ (M3 b 9) ∧ (M3 b 9) < 7) ∧ ∀ M4 : Mm, M4 = (upr M3 (b + 1) (up1 (M3 (b + 1)) (M3 b 9).toNat (M3 b1 7))) → ∃ P5 : Mm → Prop, S_Tape_advance b1 M4 P5 ∧ ∀ M5 : Mm, P5 M5 → ∃ k101 : Nat, M5 b1 6 = (k101 : Int) + 1 ∧ k101 < 27 ∧ ∃ P6 : Int → Mm → Prop, S_Town_kindOf k101 M5 P6 ∧ ∀ (r5 : Int) (M6 : Mm), P6 r5 M6 → (0 ≤ (M5 b 9) ∧ (M5 b 9) < 7) ∧ ∀ M7 : Mm, M7 = (upr M6 (b + 2) (up1 (M6 (b + 2)) (M5 b 9).toNat r5)) → (0 ≤ (M7 b 9) ∧ (M7 b 9) < 7) ∧ (rng (M7 (b + 2) (M7 b 9).toNat)) ∧ ((M7 (b + 2) (M7 b 9).toNat) ≠ (-1) → (∃ P8 : Mm → Prop, S_Tape_advance b1 M7 P8 ∧ ∀ M8 : Mm, P8 M8 → (0 ≤ (M8 b 9) ∧ (M8 b 9) < 7) ∧ ∀ M9 : Mm, M9 = (upr M8 (b + 6) (up1 (M8 (b + 6)) (M8 b 9).toNat 0)) → ∃ P10 : Int → Mm → Prop, S_Town_readMeasure b b1 2 (b + 3) 7 1 20 M9 P10 ∧ ∀ (r7 : Int) (M10 : Mm), P10 r7 M10 → (rng r7) ∧ (r7 = 0 → (K NN RRC 175 [(0, vr b)] [vi 0] M10)) ∧ (r7 ≠ 0 → (∃ P11 : Int → Mm → Prop, S_Town_readMeasure b b1 3 (b + 4) 7 0 99 M10 P11 ∧ ∀ (r8 : Int) (M11 : Mm), P11 r8 M11 → (rng r8) ∧ (r8 = 0 → (K NN RRC 175 [(0, vr b)] [vi 0] M11)) ∧ (r8 ≠ 0 → (∃ P12 : Int → Mm → Prop, S_Town_readMeasure b b1 4 (b + 5) 7 0 9 M11 P12 ∧ ∀ (r9 : Int) (M12 : Mm), P12 r9 M12 → (rng r9) ∧ (r9 = 0 → (K NN RRC 175 [(0, vr b)] [vi 0] M12)) ∧ (r9 ≠ 0 → (K NN RRC 175 [(0, vr b)] [vi 1] M12)))))))) ∧ ((M7 (b + 2) (M7 b 9).toNat) = (-1) → (∃ P13 : Int → Mm → Prop, S_Tape_fail b1 1 M7 P13 ∧ ∀ (r10 : Int) (M13 : Mm), P13 r10 M13 → (r10 = 0 ∨ r10 = 1) ∧ P r10 M13)))) ∧ (r3 ≠ (-1) → (∃ P14 : Int → Mm → Prop, S_Tape_fail b1 3 M3 P14 ∧ ∀ (r11 : Int) (M14 : Mm), P14 r11 M14 → (r11 = 0 ∨ r11 = 1) ∧ P r11 M14)))) ∧ (r2 = 0 → (∃ P15 : Int → Mm → Prop, S_Tape_fail b1 1 M2 P15 ∧ ∀ (r12 : Int) (M15 : Mm), P15 r12 M15 → (r12 = 0 ∨ r12 = 1) ∧ P r12 M15)))) ∧ (¬ ((M b 9) < 7) → (∃ P16 : Int → Mm → Prop, S_Tape_fail b1 5 M P16 ∧ ∀ (r13 : Int) (M16 : Mm), P16 r13 M16 → (r13 = 0 ∨ r13 = 1) ∧ P r13 M16))) :
    K NN RRC 0 [(0, vr b), (1, vr b1)] [] M := by
  refine r_aloadn h (q := 0) 0 rfl (by decide +kernel : decode cX8_readHouse 0 = .ok (.aload_n 0, 1)) ?_
  refine r_getI h f_Town_49 hb (by decide +kernel : decode cX8_readHouse 1 = .ok (.getfield 49, 3)) ?_
  refine r_bipush h (v := 7) (by decide) (by decide +kernel : decode cX8_readHouse 4 = .ok (.bipush 7, 2)) ?_
  obtain ⟨g1, H⟩ := H
  obtain ⟨H1, H2⟩ := H
  refine r_icmp_lt h 15 g1 (by decide) (by decide) (by decide +kernel : decode cX8_readHouse 6 = .ok (.if_icmp .lt 9, 3)) (fun hc => ?_) (fun hc => ?_)
  · have H := H1 hc
    refine r_aloadn h (q := 1) 1 rfl (by decide +kernel : decode cX8_readHouse 15 = .ok (.aload_n 1, 1)) ?_
    obtain ⟨P1, hSP1, H⟩ := H
    refine r_callV h (as := []) (S := []) (b := b1) m_Town_148 hSP1 (by decide) (Nat.le_refl _) rfl hb1 rfl (Nat.le_of_ble_eq_true rfl) (by decide +kernel : decode cX8_readHouse 16 = .ok (.invokevirtual 148, 3)) ?_
    rintro _ _ M1 ⟨rfl, rfl, hP⟩
    have H := H M1 hP
    show K NN RRC _ _ [] _
    refine r_aloadn h (q := 1) 1 rfl (by decide +kernel : decode cX8_readHouse 19 = .ok (.aload_n 1, 1)) ?_
    obtain ⟨P2, hSP2, H⟩ := H
    refine r_callV h (as := []) (S := []) (b := b1) m_Town_151 hSP2 (by decide) (Nat.le_refl _) rfl hb1 rfl (Nat.le_of_ble_eq_true rfl) (by decide +kernel : decode cX8_readHouse 20 = .ok (.invokevirtual 151, 3)) ?_
    rintro _ _ M2 ⟨rfl, r2, rfl, hP⟩
    have H := H r2 M2 hP
    show K NN RRC _ _ [vi r2] _
    obtain ⟨g1, H⟩ := H
    obtain ⟨H1, H2⟩ := H
    refine r_if_ne h 32 g1 (by decide) (by decide +kernel : decode cX8_readHouse 23 = .ok (.ifCond .ne 9, 3)) (fun hc => ?_) (fun hc => ?_)
    · have H := H1 hc
      refine r_aloadn h (q := 0) 0 rfl (by decide +kernel : decode cX8_readHouse 32 = .ok (.aload_n 0, 1)) ?_
      refine r_aloadn h (q := 1) 1 rfl (by decide +kernel : decode cX8_readHouse 33 = .ok (.aload_n 1, 1)) ?_
      refine r_getL h f_Town_154 hb1 (by decide +kernel : decode cX8_readHouse 34 = .ok (.getfield 154, 3)) ?_
      obtain ⟨P3, hSP3, H⟩ := H
      refine r_callV h (as := [vl (M2 b1 7)]) (S := []) (b := b) m_Town_158 hSP3 (by decide) (Nat.le_refl _) rfl hb rfl (Nat.le_of_ble_eq_true rfl) (by decide +kernel : decode cX8_readHouse 37 = .ok (.invokevirtual 158, 3)) ?_
      rintro _ _ M3 ⟨rfl, r3, rfl, hP⟩
      have H := H r3 M3 hP
      show K NN RRC _ _ [vi r3] _
      refine r_iconst h (v := (-1)) (by decide +kernel : decode cX8_readHouse 40 = .ok (.iconst (-1), 1)) ?_
      obtain ⟨g1, H⟩ := H
      obtain ⟨H1, H2⟩ := H
      refine r_icmp_eq h 50 g1 (by decide) (by decide) (by decide +kernel : decode cX8_readHouse 41 = .ok (.if_icmp .eq 9, 3)) (fun hc => ?_) (fun hc => ?_)
      · have H := H1 hc
        refine r_aloadn h (q := 0) 0 rfl (by decide +kernel : decode cX8_readHouse 50 = .ok (.aload_n 0, 1)) ?_
        refine r_getR h (r := (b + 1)) f_Town_9 hb (rr_7_0 hb) (by omega) (by decide +kernel : decode cX8_readHouse 51 = .ok (.getfield 9, 3)) ?_
        refine r_aloadn h (q := 0) 0 rfl (by decide +kernel : decode cX8_readHouse 54 = .ok (.aload_n 0, 1)) ?_
        refine r_getI h f_Town_49 hb (by decide +kernel : decode cX8_readHouse 55 = .ok (.getfield 49, 3)) ?_
        refine r_aloadn h (q := 1) 1 rfl (by decide +kernel : decode cX8_readHouse 58 = .ok (.aload_n 1, 1)) ?_
        refine r_getL h f_Town_154 hb1 (by decide +kernel : decode cX8_readHouse 59 = .ok (.getfield 154, 3)) ?_
        obtain ⟨g1, H⟩ := H
        refine r_last h (M3 b 9).toNat rfl (at_7_0 hb) g1 (by decide) (by decide +kernel : decode cX8_readHouse 62 = .ok (.lastore, 1)) ?_
        have H := H _ rfl
        revert H
        generalize (upr M3 (b + 1) (up1 (M3 (b + 1)) (M3 b 9).toNat (M3 b1 7))) = M4
        intro H
        refine r_aloadn h (q := 1) 1 rfl (by decide +kernel : decode cX8_readHouse 63 = .ok (.aload_n 1, 1)) ?_
        obtain ⟨P5, hSP5, H⟩ := H
        refine r_callV h (as := []) (S := []) (b := b1) m_Town_148 hSP5 (by decide) (Nat.le_refl _) rfl hb1 rfl (Nat.le_of_ble_eq_true rfl) (by decide +kernel : decode cX8_readHouse 64 = .ok (.invokevirtual 148, 3)) ?_
        rintro _ _ M5 ⟨rfl, rfl, hP⟩
        have H := H M5 hP
        show K NN RRC _ _ [] _
        refine r_aloadn h (q := 0) 0 rfl (by decide +kernel : decode cX8_readHouse 67 = .ok (.aload_n 0, 1)) ?_
        refine r_getR h (r := (b + 2)) f_Town_15 hb (rr_7_1 hb) (by omega) (by decide +kernel : decode cX8_readHouse 68 = .ok (.getfield 15, 3)) ?_
        refine r_aloadn h (q := 0) 0 rfl (by decide +kernel : decode cX8_readHouse 71 = .ok (.aload_n 0, 1)) ?_
        refine r_getI h f_Town_49 hb (by decide +kernel : decode cX8_readHouse 72 = .ok (.getfield 49, 3)) ?_
        refine r_aloadn h (q := 1) 1 rfl (by decide +kernel : decode cX8_readHouse 75 = .ok (.aload_n 1, 1)) ?_
        obtain ⟨k101, htk101, hlk101, H⟩ := H
        refine r_getE h (r := k101) f_Town_113 hb1 htk101 (by decide +kernel : decode cX8_readHouse 76 = .ok (.getfield 113, 3)) ?_
        obtain ⟨P6, hSP6, H⟩ := H
        refine r_callS h (as := [ve k101]) (S := [vi (M5 b 9), vr (b + 2)]) m_Town_162 hSP6 (by decide) (Nat.le_refl _) rfl rfl (Nat.le_of_ble_eq_true rfl) (by decide +kernel : decode cX8_readHouse 79 = .ok (.invokestatic 162, 3)) ?_
        rintro _ _ M6 ⟨rfl, r5, rfl, hP⟩
        have H := H r5 M6 hP
        show K NN RRC _ _ [vi r5, vi (M5 b 9), vr (b + 2)] _
        obtain ⟨g1, H⟩ := H
        refine r_iast h (M5 b 9).toNat rfl (at_7_1 hb) g1 (by decide) (by decide +kernel : decode cX8_readHouse 82 = .ok (.iastore, 1)) ?_
        have H := H _ rfl
        revert H
        generalize (upr M6 (b + 2) (up1 (M6 (b + 2)) (M5 b 9).toNat r5)) = M7
        intro H
        refine r_aloadn h (q := 0) 0 rfl (by decide +kernel : decode cX8_readHouse 83 = .ok (.aload_n 0, 1)) ?_
        refine r_getR h (r := (b + 2)) f_Town_15 hb (rr_7_1 hb) (by omega) (by decide +kernel : decode cX8_readHouse 84 = .ok (.getfield 15, 3)) ?_
        refine r_aloadn h (q := 0) 0 rfl (by decide +kernel : decode cX8_readHouse 87 = .ok (.aload_n 0, 1)) ?_
        refine r_getI h f_Town_49 hb (by decide +kernel : decode cX8_readHouse 88 = .ok (.getfield 49, 3)) ?_
        obtain ⟨g1, H⟩ := H
        refine r_iald h (M7 b 9).toNat rfl (at_7_1 hb) g1 (by decide) (by decide +kernel : decode cX8_readHouse 91 = .ok (.iaload, 1)) ?_
        refine r_iconst h (v := (-1)) (by decide +kernel : decode cX8_readHouse 92 = .ok (.iconst (-1), 1)) ?_
        obtain ⟨g1, H⟩ := H
        obtain ⟨H1, H2⟩ := H
        refine r_icmp_ne h 102 g1 (by decide) (by decide) (by decide +kernel : decode cX8_readHouse 93 = .ok (.if_icmp .ne 9, 3)) (fun hc => ?_) (fun hc => ?_)
        · have H := H1 hc
          refine r_aloadn h (q := 1) 1 rfl (by decide +kernel : decode cX8_readHouse 102 = .ok (.aload_n 1, 1)) ?_
          obtain ⟨P8, hSP8, H⟩ := H
          refine r_callV h (as := []) (S := []) (b := b1) m_Town_148 hSP8 (by decide) (Nat.le_refl _) rfl hb1 rfl (Nat.le_of_ble_eq_true rfl) (by decide +kernel : decode cX8_readHouse 103 = .ok (.invokevirtual 148, 3)) ?_
          rintro _ _ M8 ⟨rfl, rfl, hP⟩
          have H := H M8 hP
          show K NN RRC _ _ [] _
          refine r_aloadn h (q := 0) 0 rfl (by decide +kernel : decode cX8_readHouse 106 = .ok (.aload_n 0, 1)) ?_
          refine r_getR h (r := (b + 6)) f_Town_28 hb (rr_7_5 hb) (by omega) (by decide +kernel : decode cX8_readHouse 107 = .ok (.getfield 28, 3)) ?_
          refine r_aloadn h (q := 0) 0 rfl (by decide +kernel : decode cX8_readHouse 110 = .ok (.aload_n 0, 1)) ?_
          refine r_getI h f_Town_49 hb (by decide +kernel : decode cX8_readHouse 111 = .ok (.getfield 49, 3)) ?_
          refine r_iconst h (v := 0) (by decide +kernel : decode cX8_readHouse 114 = .ok (.iconst 0, 1)) ?_
          obtain ⟨g1, H⟩ := H
          refine r_iast h (M8 b 9).toNat rfl (at_7_5 hb) g1 (by decide) (by decide +kernel : decode cX8_readHouse 115 = .ok (.iastore, 1)) ?_
          have H := H _ rfl
          revert H
          generalize (upr M8 (b + 6) (up1 (M8 (b + 6)) (M8 b 9).toNat 0)) = M9
          intro H
          refine r_aloadn h (q := 0) 0 rfl (by decide +kernel : decode cX8_readHouse 116 = .ok (.aload_n 0, 1)) ?_
          refine r_aloadn h (q := 1) 1 rfl (by decide +kernel : decode cX8_readHouse 117 = .ok (.aload_n 1, 1)) ?_
          refine r_getS h zF_2 rfl (inT3 133 rfl rfl) (by decide +kernel : decode cX8_readHouse 118 = .ok (.getstatic 166, 3)) ?_
          refine r_aloadn h (q := 0) 0 rfl (by decide +kernel : decode cX8_readHouse 121 = .ok (.aload_n 0, 1)) ?_
          refine r_getR h (r := (b + 3)) f_Town_19 hb (rr_7_2 hb) (by omega) (by decide +kernel : decode cX8_readHouse 122 = .ok (.getfield 19, 3)) ?_
          refine r_iconst h (v := 1) (by decide +kernel : decode cX8_readHouse 125 = .ok (.iconst 1, 1)) ?_
          refine r_bipush h (v := 20) (by decide) (by decide +kernel : decode cX8_readHouse 126 = .ok (.bipush 20, 2)) ?_
          obtain ⟨P10, hSP10, H⟩ := H
          refine r_callV h (as := [vr b1, ve 2, vr (b + 3), vi 1, vi 20]) (S := []) (b := b) m_Town_169 hSP10 (by decide) (Nat.le_refl _) rfl hb rfl (Nat.le_of_ble_eq_true rfl) (by decide +kernel : decode cX8_readHouse 128 = .ok (.invokevirtual 169, 3)) ?_
          rintro _ _ M10 ⟨rfl, r7, rfl, hP⟩
          have H := H r7 M10 hP
          show K NN RRC _ _ [vi r7] _
          obtain ⟨g1, H⟩ := H
          obtain ⟨H1, H2⟩ := H
          refine r_if_eq h 174 g1 (by decide) (by decide +kernel : decode cX8_readHouse 131 = .ok (.ifCond .eq 43, 3)) (fun hc => ?_) (fun hc => ?_)
          · have H := H1 hc
            refine r_iconst h (v := 0) (by decide +kernel : decode cX8_readHouse 174 = .ok (.iconst 0, 1)) ?_
            refine r_drop h [0] rfl ?_
            exact H
          · have H := H2 hc
            refine r_aloadn h (q := 0) 0 rfl (by decide +kernel : decode cX8_readHouse 134 = .ok (.aload_n 0, 1)) ?_
            refine r_aloadn h (q := 1) 1 rfl (by decide +kernel : decode cX8_readHouse 135 = .ok (.aload_n 1, 1)) ?_
            refine r_getS h zF_3 rfl (inT3 148 rfl rfl) (by decide +kernel : decode cX8_readHouse 136 = .ok (.getstatic 173, 3)) ?_
            refine r_aloadn h (q := 0) 0 rfl (by decide +kernel : decode cX8_readHouse 139 = .ok (.aload_n 0, 1)) ?_
            refine r_getR h (r := (b + 4)) f_Town_22 hb (rr_7_3 hb) (by omega) (by decide +kernel : decode cX8_readHouse 140 = .ok (.getfield 22, 3)) ?_
            refine r_iconst h (v := 0) (by decide +kernel : decode cX8_readHouse 143 = .ok (.iconst 0, 1)) ?_
            refine r_bipush h (v := 99) (by decide) (by decide +kernel : decode cX8_readHouse 144 = .ok (.bipush 99, 2)) ?_
            obtain ⟨P11, hSP11, H⟩ := H
            refine r_callV h (as := [vr b1, ve 3, vr (b + 4), vi 0, vi 99]) (S := []) (b := b) m_Town_169 hSP11 (by decide) (Nat.le_refl _) rfl hb rfl (Nat.le_of_ble_eq_true rfl) (by decide +kernel : decode cX8_readHouse 146 = .ok (.invokevirtual 169, 3)) ?_
            rintro _ _ M11 ⟨rfl, r8, rfl, hP⟩
            have H := H r8 M11 hP
            show K NN RRC _ _ [vi r8] _
            obtain ⟨g1, H⟩ := H
            obtain ⟨H1, H2⟩ := H
            refine r_if_eq h 174 g1 (by decide) (by decide +kernel : decode cX8_readHouse 149 = .ok (.ifCond .eq 25, 3)) (fun hc => ?_) (fun hc => ?_)
            · have H := H1 hc
              refine r_iconst h (v := 0) (by decide +kernel : decode cX8_readHouse 174 = .ok (.iconst 0, 1)) ?_
              refine r_drop h [0] rfl ?_
              exact H
            · have H := H2 hc
              refine r_aloadn h (q := 0) 0 rfl (by decide +kernel : decode cX8_readHouse 152 = .ok (.aload_n 0, 1)) ?_
              refine r_aloadn h (q := 1) 1 rfl (by decide +kernel : decode cX8_readHouse 153 = .ok (.aload_n 1, 1)) ?_
              refine r_getS h zF_4 rfl (inT3 150 rfl rfl) (by decide +kernel : decode cX8_readHouse 154 = .ok (.getstatic 176, 3)) ?_
              refine r_aloadn h (q := 0) 0 rfl (by decide +kernel : decode cX8_readHouse 157 = .ok (.aload_n 0, 1)) ?_
              refine r_getR h (r := (b + 5)) f_Town_25 hb (rr_7_4 hb) (by omega) (by decide +kernel : decode cX8_readHouse 158 = .ok (.getfield 25, 3)) ?_
              refine r_iconst h (v := 0) (by decide +kernel : decode cX8_readHouse 161 = .ok (.iconst 0, 1)) ?_
              refine r_bipush h (v := 9) (by decide) (by decide +kernel : decode cX8_readHouse 162 = .ok (.bipush 9, 2)) ?_
              obtain ⟨P12, hSP12, H⟩ := H
              refine r_callV h (as := [vr b1, ve 4, vr (b + 5), vi 0, vi 9]) (S := []) (b := b) m_Town_169 hSP12 (by decide) (Nat.le_refl _) rfl hb rfl (Nat.le_of_ble_eq_true rfl) (by decide +kernel : decode cX8_readHouse 164 = .ok (.invokevirtual 169, 3)) ?_
              rintro _ _ M12 ⟨rfl, r9, rfl, hP⟩
              have H := H r9 M12 hP
              show K NN RRC _ _ [vi r9] _
              obtain ⟨g1, H⟩ := H
              obtain ⟨H1, H2⟩ := H
              refine r_if_eq h 174 g1 (by decide) (by decide +kernel : decode cX8_readHouse 167 = .ok (.ifCond .eq 7, 3)) (fun hc => ?_) (fun hc => ?_)
              · have H := H1 hc
                refine r_iconst h (v := 0) (by decide +kernel : decode cX8_readHouse 174 = .ok (.iconst 0, 1)) ?_
                refine r_drop h [0] rfl ?_
                exact H
              · have H := H2 hc
                refine r_iconst h (v := 1) (by decide +kernel : decode cX8_readHouse 170 = .ok (.iconst 1, 1)) ?_
                refine r_goto h 175 (by decide) (by decide +kernel : decode cX8_readHouse 171 = .ok (.goto 4, 3)) ?_
                refine r_drop h [0] rfl ?_
                exact H
        · have H := H2 hc
          refine r_aloadn h (q := 1) 1 rfl (by decide +kernel : decode cX8_readHouse 96 = .ok (.aload_n 1, 1)) ?_
          refine r_iconst h (v := 1) (by decide +kernel : decode cX8_readHouse 97 = .ok (.iconst 1, 1)) ?_
          obtain ⟨P13, hSP13, H⟩ := H
          refine r_callV h (as := [vi 1]) (S := []) (b := b1) m_Town_145 hSP13 (by decide) (Nat.le_refl _) rfl hb1 rfl (Nat.le_of_ble_eq_true rfl) (by decide +kernel : decode cX8_readHouse 98 = .ok (.invokevirtual 145, 3)) ?_
          rintro _ _ M13 ⟨rfl, r10, rfl, hP⟩
          have H := H r10 M13 hP
          show K NN RRC _ _ [vi r10] _
          exact r_zret h rfl H.1 (by decide +kernel : decode cX8_readHouse 101 = .ok (.ireturn, 1)) rfl ⟨rfl, _, rfl, H.2⟩
      · have H := H2 hc
        refine r_aloadn h (q := 1) 1 rfl (by decide +kernel : decode cX8_readHouse 44 = .ok (.aload_n 1, 1)) ?_
        refine r_iconst h (v := 3) (by decide +kernel : decode cX8_readHouse 45 = .ok (.iconst 3, 1)) ?_
        obtain ⟨P14, hSP14, H⟩ := H
        refine r_callV h (as := [vi 3]) (S := []) (b := b1) m_Town_145 hSP14 (by decide) (Nat.le_refl _) rfl hb1 rfl (Nat.le_of_ble_eq_true rfl) (by decide +kernel : decode cX8_readHouse 46 = .ok (.invokevirtual 145, 3)) ?_
        rintro _ _ M14 ⟨rfl, r11, rfl, hP⟩
        have H := H r11 M14 hP
        show K NN RRC _ _ [vi r11] _
        exact r_zret h rfl H.1 (by decide +kernel : decode cX8_readHouse 49 = .ok (.ireturn, 1)) rfl ⟨rfl, _, rfl, H.2⟩
    · have H := H2 hc
      refine r_aloadn h (q := 1) 1 rfl (by decide +kernel : decode cX8_readHouse 26 = .ok (.aload_n 1, 1)) ?_
      refine r_iconst h (v := 1) (by decide +kernel : decode cX8_readHouse 27 = .ok (.iconst 1, 1)) ?_
      obtain ⟨P15, hSP15, H⟩ := H
      refine r_callV h (as := [vi 1]) (S := []) (b := b1) m_Town_145 hSP15 (by decide) (Nat.le_refl _) rfl hb1 rfl (Nat.le_of_ble_eq_true rfl) (by decide +kernel : decode cX8_readHouse 28 = .ok (.invokevirtual 145, 3)) ?_
      rintro _ _ M15 ⟨rfl, r12, rfl, hP⟩
      have H := H r12 M15 hP
      show K NN RRC _ _ [vi r12] _
      exact r_zret h rfl H.1 (by decide +kernel : decode cX8_readHouse 31 = .ok (.ireturn, 1)) rfl ⟨rfl, _, rfl, H.2⟩
  · have H := H2 hc
    refine r_aloadn h (q := 1) 1 rfl (by decide +kernel : decode cX8_readHouse 9 = .ok (.aload_n 1, 1)) ?_
    refine r_iconst h (v := 5) (by decide +kernel : decode cX8_readHouse 10 = .ok (.iconst 5, 1)) ?_
    obtain ⟨P16, hSP16, H⟩ := H
    refine r_callV h (as := [vi 5]) (S := []) (b := b1) m_Town_145 hSP16 (by decide) (Nat.le_refl _) rfl hb1 rfl (Nat.le_of_ble_eq_true rfl) (by decide +kernel : decode cX8_readHouse 11 = .ok (.invokevirtual 145, 3)) ?_
    rintro _ _ M16 ⟨rfl, r13, rfl, hP⟩
    have H := H r13 M16 hP
    show K NN RRC _ _ [vi r13] _
    exact r_zret h rfl H.1 (by decide +kernel : decode cX8_readHouse 14 = .ok (.ireturn, 1)) rfl ⟨rfl, _, rfl, H.2⟩
set_option maxHeartbeats 4000000 in
set_option maxRecDepth 100000 in
theorem w_Town_readHouse_175 {P : Int → Mm → Prop} {K : Nat → Rr → Nat → List (Nat × AV) → List AV → Mm → Prop} (h : EK shC yX8_readHouse cX8_readHouse 3 (some .boolean) 11 NN NN (QI RRC P) K) (b : Nat) (hb : At shC NN b (.inl 7)) (s0 : Int) (M : Mm)
    (H : (rng s0) ∧ (s0 = 0 → (∀ M1 : Mm, M1 = (upr M b (up1 (M b) 9 ((M b 9) + 0))) → (s0 = 0 ∨ s0 = 1) ∧ P s0 M1)) ∧ (s0 ≠ 0 → (∀ M2 : Mm, M2 = (upr M b (up1 (M b) 9 ((M b 9) + 1))) → (s0 = 0 ∨ s0 = 1) ∧ P s0 M2))) :
    K NN RRC 175 [(0, vr b)] [vi s0] M := by
  refine r_istoren h (q := 2) (L' := [(2, vi s0), (0, vr b)]) (by decide) rfl (by decide +kernel : decode cX8_readHouse 175 = .ok (.istore_n 2, 1)) ?_
  refine r_aloadn h (q := 0) 1 rfl (by decide +kernel : decode cX8_readHouse 176 = .ok (.aload_n 0, 1)) ?_
  refine r_dup h rfl (by decide +kernel : decode cX8_readHouse 177 = .ok (.dup, 1)) ?_
  refine r_getI h f_Town_49 hb (by decide +kernel : decode cX8_readHouse 178 = .ok (.getfield 49, 3)) ?_
  refine r_iloadn h (q := 2) 0 rfl (by decide +kernel : decode cX8_readHouse 181 = .ok (.iload_n 2, 1)) ?_
  obtain ⟨g1, H⟩ := H
  obtain ⟨H1, H2⟩ := H
  refine r_if_eq h 189 g1 (by decide) (by decide +kernel : decode cX8_readHouse 182 = .ok (.ifCond .eq 7, 3)) (fun hc => ?_) (fun hc => ?_)
  · have H := H1 hc
    refine r_iconst h (v := 0) (by decide +kernel : decode cX8_readHouse 189 = .ok (.iconst 0, 1)) ?_
    refine r_iadd h (by decide +kernel : decode cX8_readHouse 190 = .ok (.iadd, 1)) ?_
    refine r_putI h f_Town_49 hb rfl rfl (by decide +kernel : decode cX8_readHouse 191 = .ok (.putfield 49, 3)) ?_
    have H := H _ rfl
    revert H
    generalize (upr M b (up1 (M b) 9 ((M b 9) + 0))) = M1
    intro H
    refine r_iloadn h (q := 2) 0 rfl (by decide +kernel : decode cX8_readHouse 194 = .ok (.iload_n 2, 1)) ?_
    exact r_zret h rfl H.1 (by decide +kernel : decode cX8_readHouse 195 = .ok (.ireturn, 1)) rfl ⟨rfl, _, rfl, H.2⟩
  · have H := H2 hc
    refine r_iconst h (v := 1) (by decide +kernel : decode cX8_readHouse 185 = .ok (.iconst 1, 1)) ?_
    refine r_goto h 190 (by decide) (by decide +kernel : decode cX8_readHouse 186 = .ok (.goto 4, 3)) ?_
    refine r_iadd h (by decide +kernel : decode cX8_readHouse 190 = .ok (.iadd, 1)) ?_
    refine r_putI h f_Town_49 hb rfl rfl (by decide +kernel : decode cX8_readHouse 191 = .ok (.putfield 49, 3)) ?_
    have H := H _ rfl
    revert H
    generalize (upr M b (up1 (M b) 9 ((M b 9) + 1))) = M2
    intro H
    refine r_iloadn h (q := 2) 0 rfl (by decide +kernel : decode cX8_readHouse 194 = .ok (.iload_n 2, 1)) ?_
    exact r_zret h rfl H.1 (by decide +kernel : decode cX8_readHouse 195 = .ok (.ireturn, 1)) rfl ⟨rfl, _, rfl, H.2⟩
set_option maxHeartbeats 4000000 in
set_option maxRecDepth 100000 in
theorem w_Years_readLine_0 {P : Int → Mm → Prop} {K : Nat → Rr → Nat → List (Nat × AV) → List AV → Mm → Prop} (h : EK shC yX10_readLine cX10_readLine 4 (some .boolean) 11 NN NN (QI RRC P) K) (b : Nat) (hb : At shC NN b (.inl 8)) (b1 : Nat) (hb1 : At shC NN b1 (.inl 6)) (b2 : Nat) (hb2 : At shC NN b2 (.inl 7)) (M : Mm)
    (H : ∃ k101 : Nat, M b1 6 = (k101 : Int) + 1 ∧ k101 < 27 ∧ ∃ P1 : Int → Mm → Prop, S_Years_deedOf k101 M P1 ∧ ∀ (r1 : Int) (M1 : Mm), P1 r1 M1 → (rng r1) ∧ (r1 ≠ (-1) → ((rng (M1 b 3)) ∧ ((M1 b 3) < 40 → (∃ P2 : Mm → Prop, S_Tape_advance b1 M1 P2 ∧ ∀ M2 : Mm, P2 M2 → (0 ≤ (M2 b 3) ∧ (M2 b 3) < 40) ∧ ∀ M3 : Mm, M3 = (upr M2 (b + 1) (up1 (M2 (b + 1)) (M2 b 3).toNat r1)) → (rng r1) ∧ (r1 = 0 → (∃ P4 : Int → Mm → Prop, S_Years_readHouse b b1 b2 M3 P4 ∧ ∀ (r3 : Int) (M4 : Mm), P4 r3 M4 → (rng r3) ∧ (r3 ≠ 0 → (K NN RRC 68 [(0, vr b), (1, vr b1), (3, vi r1)] [] M4)) ∧ (r3 = 0 → (P 0 M4)))) ∧ (r1 ≠ 0 → ((rng r1) ∧ (r1 ≠ 1 → (K NN RRC 68 [(0, vr b), (1, vr b1), (3, vi r1)] [] M3)) ∧ (r1 = 1 → (∃ P5 : Int → Mm → Prop, S_Years_readHouse b b1 b2 M3 P5 ∧ ∀ (r4 : Int) (M5 : Mm), P5 r4 M5 → (rng r4) ∧ (r4 ≠ 0 → (K NN RRC 68 [(0, vr b), (1, vr b1), (3, vi r1)] [] M5)) ∧ (r4 = 0 → (P 0 M5)))))))) ∧ (¬ ((M1 b 3) < 40) → (∃ P6 : Int → Mm → Prop, S_Tape_fail b1 5 M1 P6 ∧ ∀ (r5 : Int) (M6 : Mm), P6 r5 M6 → (r5 = 0 ∨ r5 = 1) ∧ P r5 M6)))) ∧ (r1 = (-1) → (∃ P7 : Int → Mm → Prop, S_Tape_fail b1 1 M1 P7 ∧ ∀ (r6 : Int) (M7 : Mm), P7 r6 M7 → (r6 = 0 ∨ r6 = 1) ∧ P r6 M7))) :
    K NN RRC 0 [(0, vr b), (1, vr b1), (2, vr b2)] [] M := by
  refine r_aloadn h (q := 1) 1 rfl (by decide +kernel : decode cX10_readLine 0 = .ok (.aload_n 1, 1)) ?_
  obtain ⟨k101, htk101, hlk101, H⟩ := H
  refine r_getE h (r := k101) f_Years_44 hb1 htk101 (by decide +kernel : decode cX10_readLine 1 = .ok (.getfield 44, 3)) ?_
  obtain ⟨P1, hSP1, H⟩ := H
  refine r_callS h (as := [ve k101]) (S := []) m_Years_48 hSP1 (by decide) (Nat.le_refl _) rfl rfl (Nat.le_of_ble_eq_true rfl) (by decide +kernel : decode cX10_readLine 4 = .ok (.invokestatic 48, 3)) ?_
  rintro _ _ M1 ⟨rfl, r1, rfl, hP⟩
  have H := H r1 M1 hP
  show K NN RRC _ _ [vi r1] _
  refine r_istoren h (q := 3) (L' := [(3, vi r1), (0, vr b), (1, vr b1), (2, vr b2)]) (by decide) rfl (by decide +kernel : decode cX10_readLine 7 = .ok (.istore_n 3, 1)) ?_
  refine r_iloadn h (q := 3) 0 rfl (by decide +kernel : decode cX10_readLine 8 = .ok (.iload_n 3, 1)) ?_
  refine r_iconst h (v := (-1)) (by decide +kernel : decode cX10_readLine 9 = .ok (.iconst (-1), 1)) ?_
  obtain ⟨g1, H⟩ := H
  obtain ⟨H1, H2⟩ := H
  refine r_icmp_ne h 19 g1 (by decide) (by decide) (by decide +kernel : decode cX10_readLine 10 = .ok (.if_icmp .ne 9, 3)) (fun hc => ?_) (fun hc => ?_)
  · have H := H1 hc
    refine r_aloadn h (q := 0) 1 rfl (by decide +kernel : decode cX10_readLine 19 = .ok (.aload_n 0, 1)) ?_
    refine r_getI h f_Years_21 hb (by decide +kernel : decode cX10_readLine 20 = .ok (.getfield 21, 3)) ?_
    refine r_bipush h (v := 40) (by decide) (by decide +kernel : decode cX10_readLine 23 = .ok (.bipush 40, 2)) ?_
    obtain ⟨g1, H⟩ := H
    obtain ⟨H1, H2⟩ := H
    refine r_icmp_lt h 34 g1 (by decide) (by decide) (by decide +kernel : decode cX10_readLine 25 = .ok (.if_icmp .lt 9, 3)) (fun hc => ?_) (fun hc => ?_)
    · have H := H1 hc
      refine r_aloadn h (q := 1) 2 rfl (by decide +kernel : decode cX10_readLine 34 = .ok (.aload_n 1, 1)) ?_
      obtain ⟨P2, hSP2, H⟩ := H
      refine r_callV h (as := []) (S := []) (b := b1) m_Years_55 hSP2 (by decide) (Nat.le_refl _) rfl hb1 rfl (Nat.le_of_ble_eq_true rfl) (by decide +kernel : decode cX10_readLine 35 = .ok (.invokevirtual 55, 3)) ?_
      rintro _ _ M2 ⟨rfl, rfl, hP⟩
      have H := H M2 hP
      show K NN RRC _ _ [] _
      refine r_aloadn h (q := 0) 1 rfl (by decide +kernel : decode cX10_readLine 38 = .ok (.aload_n 0, 1)) ?_
      refine r_getR h (r := (b + 1)) f_Years_11 hb (rr_8_0 hb) (by omega) (by decide +kernel : decode cX10_readLine 39 = .ok (.getfield 11, 3)) ?_
      refine r_aloadn h (q := 0) 1 rfl (by decide +kernel : decode cX10_readLine 42 = .ok (.aload_n 0, 1)) ?_
      refine r_getI h f_Years_21 hb (by decide +kernel : decode cX10_readLine 43 = .ok (.getfield 21, 3)) ?_
      refine r_iloadn h (q := 3) 0 rfl (by decide +kernel : decode cX10_readLine 46 = .ok (.iload_n 3, 1)) ?_
      obtain ⟨g1, H⟩ := H
      refine r_iast h (M2 b 3).toNat rfl (at_8_0 hb) g1 (by decide) (by decide +kernel : decode cX10_readLine 47 = .ok (.iastore, 1)) ?_
      have H := H _ rfl
      revert H
      generalize (upr M2 (b + 1) (up1 (M2 (b + 1)) (M2 b 3).toNat r1)) = M3
      intro H
      refine r_iloadn h (q := 3) 0 rfl (by decide +kernel : decode cX10_readLine 48 = .ok (.iload_n 3, 1)) ?_
      obtain ⟨g1, H⟩ := H
      obtain ⟨H1, H2⟩ := H
      refine r_if_eq h 57 g1 (by decide) (by decide +kernel : decode cX10_readLine 49 = .ok (.ifCond .eq 8, 3)) (fun hc => ?_) (fun hc => ?_)
      · have H := H1 hc
        refine r_aloadn h (q := 0) 1 rfl (by decide +kernel : decode cX10_readLine 57 = .ok (.aload_n 0, 1)) ?_
        refine r_aloadn h (q := 1) 2 rfl (by decide +kernel : decode cX10_readLine 58 = .ok (.aload_n 1, 1)) ?_
        refine r_aloadn h (q := 2) 3 rfl (by decide +kernel : decode cX10_readLine 59 = .ok (.aload_n 2, 1)) ?_
        obtain ⟨P4, hSP4, H⟩ := H
        refine r_callV h (as := [vr b1, vr b2]) (S := []) (b := b) m_Years_58 hSP4 (by decide) (Nat.le_refl _) rfl hb rfl (Nat.le_of_ble_eq_true rfl) (by decide +kernel : decode cX10_readLine 60 = .ok (.invokevirtual 58, 3)) ?_
        rintro _ _ M4 ⟨rfl, r3, rfl, hP⟩
        have H := H r3 M4 hP
        show K NN RRC _ _ [vi r3] _
        obtain ⟨g1, H⟩ := H
        obtain ⟨H1, H2⟩ := H
        refine r_if_ne h 68 g1 (by decide) (by decide +kernel : decode cX10_readLine 63 = .ok (.ifCond .ne 5, 3)) (fun hc => ?_) (fun hc => ?_)
        · have H := H1 hc
          refine r_drop h [1, 2, 0] rfl ?_
          exact H
        · have H := H2 hc
          refine r_iconst h (v := 0) (by decide +kernel : decode cX10_readLine 66 = .ok (.iconst 0, 1)) ?_
          exact r_zret h rfl (by decide) (by decide +kernel : decode cX10_readLine 67 = .ok (.ireturn, 1)) rfl ⟨rfl, _, rfl, H⟩
      · have H := H2 hc
        refine r_iloadn h (q := 3) 0 rfl (by decide +kernel : decode cX10_readLine 52 = .ok (.iload_n 3, 1)) ?_
        refine r_iconst h (v := 1) (by decide +kernel : decode cX10_readLine 53 = .ok (.iconst 1, 1)) ?_
        obtain ⟨g1, H⟩ := H
        obtain ⟨H1, H2⟩ := H
        refine r_icmp_ne h 68 g1 (by decide) (by decide) (by decide +kernel : decode cX10_readLine 54 = .ok (.if_icmp .ne 14, 3)) (fun hc => ?_) (fun hc => ?_)
        · have H := H1 hc
          refine r_drop h [1, 2, 0] rfl ?_
          exact H
        · have H := H2 hc
          refine r_aloadn h (q := 0) 1 rfl (by decide +kernel : decode cX10_readLine 57 = .ok (.aload_n 0, 1)) ?_
          refine r_aloadn h (q := 1) 2 rfl (by decide +kernel : decode cX10_readLine 58 = .ok (.aload_n 1, 1)) ?_
          refine r_aloadn h (q := 2) 3 rfl (by decide +kernel : decode cX10_readLine 59 = .ok (.aload_n 2, 1)) ?_
          obtain ⟨P5, hSP5, H⟩ := H
          refine r_callV h (as := [vr b1, vr b2]) (S := []) (b := b) m_Years_58 hSP5 (by decide) (Nat.le_refl _) rfl hb rfl (Nat.le_of_ble_eq_true rfl) (by decide +kernel : decode cX10_readLine 60 = .ok (.invokevirtual 58, 3)) ?_
          rintro _ _ M5 ⟨rfl, r4, rfl, hP⟩
          have H := H r4 M5 hP
          show K NN RRC _ _ [vi r4] _
          obtain ⟨g1, H⟩ := H
          obtain ⟨H1, H2⟩ := H
          refine r_if_ne h 68 g1 (by decide) (by decide +kernel : decode cX10_readLine 63 = .ok (.ifCond .ne 5, 3)) (fun hc => ?_) (fun hc => ?_)
          · have H := H1 hc
            refine r_drop h [1, 2, 0] rfl ?_
            exact H
          · have H := H2 hc
            refine r_iconst h (v := 0) (by decide +kernel : decode cX10_readLine 66 = .ok (.iconst 0, 1)) ?_
            exact r_zret h rfl (by decide) (by decide +kernel : decode cX10_readLine 67 = .ok (.ireturn, 1)) rfl ⟨rfl, _, rfl, H⟩
    · have H := H2 hc
      refine r_aloadn h (q := 1) 2 rfl (by decide +kernel : decode cX10_readLine 28 = .ok (.aload_n 1, 1)) ?_
      refine r_iconst h (v := 5) (by decide +kernel : decode cX10_readLine 29 = .ok (.iconst 5, 1)) ?_
      obtain ⟨P6, hSP6, H⟩ := H
      refine r_callV h (as := [vi 5]) (S := []) (b := b1) m_Years_52 hSP6 (by decide) (Nat.le_refl _) rfl hb1 rfl (Nat.le_of_ble_eq_true rfl) (by decide +kernel : decode cX10_readLine 30 = .ok (.invokevirtual 52, 3)) ?_
      rintro _ _ M6 ⟨rfl, r5, rfl, hP⟩
      have H := H r5 M6 hP
      show K NN RRC _ _ [vi r5] _
      exact r_zret h rfl H.1 (by decide +kernel : decode cX10_readLine 33 = .ok (.ireturn, 1)) rfl ⟨rfl, _, rfl, H.2⟩
  · have H := H2 hc
    refine r_aloadn h (q := 1) 2 rfl (by decide +kernel : decode cX10_readLine 13 = .ok (.aload_n 1, 1)) ?_
    refine r_iconst h (v := 1) (by decide +kernel : decode cX10_readLine 14 = .ok (.iconst 1, 1)) ?_
    obtain ⟨P7, hSP7, H⟩ := H
    refine r_callV h (as := [vi 1]) (S := []) (b := b1) m_Years_52 hSP7 (by decide) (Nat.le_refl _) rfl hb1 rfl (Nat.le_of_ble_eq_true rfl) (by decide +kernel : decode cX10_readLine 15 = .ok (.invokevirtual 52, 3)) ?_
    rintro _ _ M7 ⟨rfl, r6, rfl, hP⟩
    have H := H r6 M7 hP
    show K NN RRC _ _ [vi r6] _
    exact r_zret h rfl H.1 (by decide +kernel : decode cX10_readLine 18 = .ok (.ireturn, 1)) rfl ⟨rfl, _, rfl, H.2⟩
set_option maxHeartbeats 4000000 in
set_option maxRecDepth 100000 in
theorem w_Years_readLine_68 {P : Int → Mm → Prop} {K : Nat → Rr → Nat → List (Nat × AV) → List AV → Mm → Prop} (h : EK shC yX10_readLine cX10_readLine 4 (some .boolean) 11 NN NN (QI RRC P) K) (b : Nat) (hb : At shC NN b (.inl 8)) (b1 : Nat) (hb1 : At shC NN b1 (.inl 6)) (x3 : Int) (M : Mm)
    (H : (rng x3) ∧ (x3 ≠ 0 → (K NN RRC 85 [(0, vr b), (1, vr b1), (3, vi x3)] [] M)) ∧ (x3 = 0 → (∃ P1 : Int → Mm → Prop, S_Years_readNumber b b1 0 6 M P1 ∧ ∀ (r1 : Int) (M1 : Mm), P1 r1 M1 → (rng r1) ∧ (r1 ≠ 0 → (K NN RRC 85 [(0, vr b), (1, vr b1), (3, vi x3)] [] M1)) ∧ (r1 = 0 → (P 0 M1))))) :
    K NN RRC 68 [(0, vr b), (1, vr b1), (3, vi x3)] [] M := by
  refine r_iloadn h (q := 3) 2 rfl (by decide +kernel : decode cX10_readLine 68 = .ok (.iload_n 3, 1)) ?_
  obtain ⟨g1, H⟩ := H
  obtain ⟨H1, H2⟩ := H
  refine r_if_ne h 85 g1 (by decide) (by decide +kernel : decode cX10_readLine 69 = .ok (.ifCond .ne 16, 3)) (fun hc => ?_) (fun hc => ?_)
  · have H := H1 hc
    exact H
  · have H := H2 hc
    refine r_aloadn h (q := 0) 0 rfl (by decide +kernel : decode cX10_readLine 72 = .ok (.aload_n 0, 1)) ?_
    refine r_aloadn h (q := 1) 1 rfl (by decide +kernel : decode cX10_readLine 73 = .ok (.aload_n 1, 1)) ?_
    refine r_iconst h (v := 0) (by decide +kernel : decode cX10_readLine 74 = .ok (.iconst 0, 1)) ?_
    refine r_bipush h (v := 6) (by decide) (by decide +kernel : decode cX10_readLine 75 = .ok (.bipush 6, 2)) ?_
    obtain ⟨P1, hSP1, H⟩ := H
    refine r_callV h (as := [vr b1, vi 0, vi 6]) (S := []) (b := b) m_Years_61 hSP1 (by decide) (Nat.le_refl _) rfl hb rfl (Nat.le_of_ble_eq_true rfl) (by decide +kernel : decode cX10_readLine 77 = .ok (.invokevirtual 61, 3)) ?_
    rintro _ _ M1 ⟨rfl, r1, rfl, hP⟩
    have H := H r1 M1 hP
    show K NN RRC _ _ [vi r1] _
    obtain ⟨g1, H⟩ := H
    obtain ⟨H1, H2⟩ := H
    refine r_if_ne h 85 g1 (by decide) (by decide +kernel : decode cX10_readLine 80 = .ok (.ifCond .ne 5, 3)) (fun hc => ?_) (fun hc => ?_)
    · have H := H1 hc
      exact H
    · have H := H2 hc
      refine r_iconst h (v := 0) (by decide +kernel : decode cX10_readLine 83 = .ok (.iconst 0, 1)) ?_
      exact r_zret h rfl (by decide) (by decide +kernel : decode cX10_readLine 84 = .ok (.ireturn, 1)) rfl ⟨rfl, _, rfl, H⟩
set_option maxHeartbeats 4000000 in
set_option maxRecDepth 100000 in
theorem w_Years_readLine_85 {P : Int → Mm → Prop} {K : Nat → Rr → Nat → List (Nat × AV) → List AV → Mm → Prop} (h : EK shC yX10_readLine cX10_readLine 4 (some .boolean) 11 NN NN (QI RRC P) K) (b : Nat) (hb : At shC NN b (.inl 8)) (b1 : Nat) (hb1 : At shC NN b1 (.inl 6)) (x3 : Int) (M : Mm)
    (H : (rng x3) ∧ (x3 ≠ 3 → (∀ M1 : Mm, M1 = (upr M b (up1 (M b) 3 ((M b 3) + 1))) → P 1 M1)) ∧ (x3 = 3 → (∃ P2 : Int → Mm → Prop, S_Years_readNumber b b1 1 99 M P2 ∧ ∀ (r1 : Int) (M2 : Mm), P2 r1 M2 → (rng r1) ∧ (r1 ≠ 0 → (∀ M3 : Mm, M3 = (upr M2 b (up1 (M2 b) 3 ((M2 b 3) + 1))) → P 1 M3)) ∧ (r1 = 0 → (P 0 M2))))) :
    K NN RRC 85 [(0, vr b), (1, vr b1), (3, vi x3)] [] M := by
  refine r_iloadn h (q := 3) 2 rfl (by decide +kernel : decode cX10_readLine 85 = .ok (.iload_n 3, 1)) ?_
  refine r_iconst h (v := 3) (by decide +kernel : decode cX10_readLine 86 = .ok (.iconst 3, 1)) ?_
  obtain ⟨g1, H⟩ := H
  obtain ⟨H1, H2⟩ := H
  refine r_icmp_ne h 103 g1 (by decide) (by decide) (by decide +kernel : decode cX10_readLine 87 = .ok (.if_icmp .ne 16, 3)) (fun hc => ?_) (fun hc => ?_)
  · have H := H1 hc
    refine r_aloadn h (q := 0) 0 rfl (by decide +kernel : decode cX10_readLine 103 = .ok (.aload_n 0, 1)) ?_
    refine r_dup h rfl (by decide +kernel : decode cX10_readLine 104 = .ok (.dup, 1)) ?_
    refine r_getI h f_Years_21 hb (by decide +kernel : decode cX10_readLine 105 = .ok (.getfield 21, 3)) ?_
    refine r_iconst h (v := 1) (by decide +kernel : decode cX10_readLine 108 = .ok (.iconst 1, 1)) ?_
    refine r_iadd h (by decide +kernel : decode cX10_readLine 109 = .ok (.iadd, 1)) ?_
    refine r_putI h f_Years_21 hb rfl rfl (by decide +kernel : decode cX10_readLine 110 = .ok (.putfield 21, 3)) ?_
    have H := H _ rfl
    revert H
    generalize (upr M b (up1 (M b) 3 ((M b 3) + 1))) = M1
    intro H
    refine r_iconst h (v := 1) (by decide +kernel : decode cX10_readLine 113 = .ok (.iconst 1, 1)) ?_
    exact r_zret h rfl (by decide) (by decide +kernel : decode cX10_readLine 114 = .ok (.ireturn, 1)) rfl ⟨rfl, _, rfl, H⟩
  · have H := H2 hc
    refine r_aloadn h (q := 0) 0 rfl (by decide +kernel : decode cX10_readLine 90 = .ok (.aload_n 0, 1)) ?_
    refine r_aloadn h (q := 1) 1 rfl (by decide +kernel : decode cX10_readLine 91 = .ok (.aload_n 1, 1)) ?_
    refine r_iconst h (v := 1) (by decide +kernel : decode cX10_readLine 92 = .ok (.iconst 1, 1)) ?_
    refine r_bipush h (v := 99) (by decide) (by decide +kernel : decode cX10_readLine 93 = .ok (.bipush 99, 2)) ?_
    obtain ⟨P2, hSP2, H⟩ := H
    refine r_callV h (as := [vr b1, vi 1, vi 99]) (S := []) (b := b) m_Years_61 hSP2 (by decide) (Nat.le_refl _) rfl hb rfl (Nat.le_of_ble_eq_true rfl) (by decide +kernel : decode cX10_readLine 95 = .ok (.invokevirtual 61, 3)) ?_
    rintro _ _ M2 ⟨rfl, r1, rfl, hP⟩
    have H := H r1 M2 hP
    show K NN RRC _ _ [vi r1] _
    obtain ⟨g1, H⟩ := H
    obtain ⟨H1, H2⟩ := H
    refine r_if_ne h 103 g1 (by decide) (by decide +kernel : decode cX10_readLine 98 = .ok (.ifCond .ne 5, 3)) (fun hc => ?_) (fun hc => ?_)
    · have H := H1 hc
      refine r_aloadn h (q := 0) 0 rfl (by decide +kernel : decode cX10_readLine 103 = .ok (.aload_n 0, 1)) ?_
      refine r_dup h rfl (by decide +kernel : decode cX10_readLine 104 = .ok (.dup, 1)) ?_
      refine r_getI h f_Years_21 hb (by decide +kernel : decode cX10_readLine 105 = .ok (.getfield 21, 3)) ?_
      refine r_iconst h (v := 1) (by decide +kernel : decode cX10_readLine 108 = .ok (.iconst 1, 1)) ?_
      refine r_iadd h (by decide +kernel : decode cX10_readLine 109 = .ok (.iadd, 1)) ?_
      refine r_putI h f_Years_21 hb rfl rfl (by decide +kernel : decode cX10_readLine 110 = .ok (.putfield 21, 3)) ?_
      have H := H _ rfl
      revert H
      generalize (upr M2 b (up1 (M2 b) 3 ((M2 b 3) + 1))) = M3
      intro H
      refine r_iconst h (v := 1) (by decide +kernel : decode cX10_readLine 113 = .ok (.iconst 1, 1)) ?_
      exact r_zret h rfl (by decide) (by decide +kernel : decode cX10_readLine 114 = .ok (.ireturn, 1)) rfl ⟨rfl, _, rfl, H⟩
    · have H := H2 hc
      refine r_iconst h (v := 0) (by decide +kernel : decode cX10_readLine 101 = .ok (.iconst 0, 1)) ?_
      exact r_zret h rfl (by decide) (by decide +kernel : decode cX10_readLine 102 = .ok (.ireturn, 1)) rfl ⟨rfl, _, rfl, H⟩
set_option maxHeartbeats 4000000 in
set_option maxRecDepth 100000 in
theorem w_Years_readFrom_0 {P : Int → Mm → Prop} {K : Nat → Rr → Nat → List (Nat × AV) → List AV → Mm → Prop} (h : EK shC yX10_readFrom cX10_readFrom 4 (some .boolean) 12 NN NN (QI RRC P) K) (b : Nat) (hb : At shC NN b (.inl 8)) (b1 : Nat) (hb1 : At shC NN b1 (.inl 6)) (b2 : Nat) (hb2 : At shC NN b2 (.inl 7)) (M : Mm)
    (H : ∀ M1 : Mm, M1 = (upr M b (up1 (M b) 3 0)) → K NN RRC 7 [(0, vr b), (1, vr b1), (2, vr b2), (3, vi 0)] [] M1) :
    K NN RRC 0 [(0, vr b), (1, vr b1), (2, vr b2)] [] M := by
  refine r_aloadn h (q := 0) 0 rfl (by decide +kernel : decode cX10_readFrom 0 = .ok (.aload_n 0, 1)) ?_
  refine r_iconst h (v := 0) (by decide +kernel : decode cX10_readFrom 1 = .ok (.iconst 0, 1)) ?_
  refine r_putI h f_Years_21 hb rfl rfl (by decide +kernel : decode cX10_readFrom 2 = .ok (.putfield 21, 3)) ?_
  have H := H _ rfl
  revert H
  generalize (upr M b (up1 (M b) 3 0)) = M1
  intro H
  refine r_iconst h (v := 0) (by decide +kernel : decode cX10_readFrom 5 = .ok (.iconst 0, 1)) ?_
  refine r_istoren h (q := 3) (L' := [(3, vi 0), (0, vr b), (1, vr b1), (2, vr b2)]) (by decide) rfl (by decide +kernel : decode cX10_readFrom 6 = .ok (.istore_n 3, 1)) ?_
  refine r_drop h [1, 2, 3, 0] rfl ?_
  exact H
set_option maxHeartbeats 4000000 in
set_option maxRecDepth 100000 in
theorem w_Years_readFrom_7 {P : Int → Mm → Prop} {K : Nat → Rr → Nat → List (Nat × AV) → List AV → Mm → Prop} (h : EK shC yX10_readFrom cX10_readFrom 4 (some .boolean) 12 NN NN (QI RRC P) K) (b : Nat) (hb : At shC NN b (.inl 8)) (b1 : Nat) (hb1 : At shC NN b1 (.inl 6)) (b2 : Nat) (hb2 : At shC NN b2 (.inl 7)) (x3 : Int) (M : Mm)
    (H : (rng x3) ∧ (40 < x3 → (P 1 M)) ∧ (¬ (40 < x3) → ((rng (M b1 5)) ∧ ((M b1 5) = 0 → (P 1 M)) ∧ ((M b1 5) ≠ 0 → (∃ P1 : Int → Mm → Prop, S_Years_readLine b b1 b2 M P1 ∧ ∀ (r1 : Int) (M1 : Mm), P1 r1 M1 → (rng r1) ∧ (r1 = 0 → (P 0 M1)) ∧ (r1 ≠ 0 → (∃ P2 : Int → Mm → Prop, S_Tape_takeSign b1 59 M1 P2 ∧ ∀ (r2 : Int) (M2 : Mm), P2 r2 M2 → (rng r2) ∧ (r2 ≠ 0 → (K NN RRC 7 [(0, vr b), (1, vr b1), (2, vr b2), (3, vi (x3 + 1))] [] M2)) ∧ (r2 = 0 → (P 0 M2))))))))) :
    K NN RRC 7 [(0, vr b), (1, vr b1), (2, vr b2), (3, vi x3)] [] M := by
  refine r_iloadn h (q := 3) 3 rfl (by decide +kernel : decode cX10_readFrom 7 = .ok (.iload_n 3, 1)) ?_
  refine r_bipush h (v := 40) (by decide) (by decide +kernel : decode cX10_readFrom 8 = .ok (.bipush 40, 2)) ?_
  obtain ⟨g1, H⟩ := H
  obtain ⟨H1, H2⟩ := H
  refine r_icmp_gt h 46 g1 (by decide) (by decide) (by decide +kernel : decode cX10_readFrom 10 = .ok (.if_icmp .gt 36, 3)) (fun hc => ?_) (fun hc => ?_)
  · have H := H1 hc
    refine r_iconst h (v := 1) (by decide +kernel : decode cX10_readFrom 46 = .ok (.iconst 1, 1)) ?_
    exact r_zret h rfl (by decide) (by decide +kernel : decode cX10_readFrom 47 = .ok (.ireturn, 1)) rfl ⟨rfl, _, rfl, H⟩
  · have H := H2 hc
    refine r_aloadn h (q := 1) 1 rfl (by decide +kernel : decode cX10_readFrom 13 = .ok (.aload_n 1, 1)) ?_
    refine r_getI h f_Years_31 hb1 (by decide +kernel : decode cX10_readFrom 14 = .ok (.getfield 31, 3)) ?_
    obtain ⟨g1, H⟩ := H
    obtain ⟨H1, H2⟩ := H
    refine r_if_eq h 46 g1 (by decide) (by decide +kernel : decode cX10_readFrom 17 = .ok (.ifCond .eq 29, 3)) (fun hc => ?_) (fun hc => ?_)
    · have H := H1 hc
      refine r_iconst h (v := 1) (by decide +kernel : decode cX10_readFrom 46 = .ok (.iconst 1, 1)) ?_
      exact r_zret h rfl (by decide) (by decide +kernel : decode cX10_readFrom 47 = .ok (.ireturn, 1)) rfl ⟨rfl, _, rfl, H⟩
    · have H := H2 hc
      refine r_aloadn h (q := 0) 0 rfl (by decide +kernel : decode cX10_readFrom 20 = .ok (.aload_n 0, 1)) ?_
      refine r_aloadn h (q := 1) 1 rfl (by decide +kernel : decode cX10_readFrom 21 = .ok (.aload_n 1, 1)) ?_
      refine r_aloadn h (q := 2) 2 rfl (by decide +kernel : decode cX10_readFrom 22 = .ok (.aload_n 2, 1)) ?_
      obtain ⟨P1, hSP1, H⟩ := H
      refine r_callV h (as := [vr b1, vr b2]) (S := []) (b := b) m_Years_36 hSP1 (by decide) (Nat.le_refl _) rfl hb rfl (Nat.le_of_ble_eq_true rfl) (by decide +kernel : decode cX10_readFrom 23 = .ok (.invokevirtual 36, 3)) ?_
      rintro _ _ M1 ⟨rfl, r1, rfl, hP⟩
      have H := H r1 M1 hP
      show K NN RRC _ _ [vi r1] _
      obtain ⟨g1, H⟩ := H
      obtain ⟨H1, H2⟩ := H
      refine r_if_eq h 38 g1 (by decide) (by decide +kernel : decode cX10_readFrom 26 = .ok (.ifCond .eq 12, 3)) (fun hc => ?_) (fun hc => ?_)
      · have H := H1 hc
        refine r_iconst h (v := 0) (by decide +kernel : decode cX10_readFrom 38 = .ok (.iconst 0, 1)) ?_
        exact r_zret h rfl (by decide) (by decide +kernel : decode cX10_readFrom 39 = .ok (.ireturn, 1)) rfl ⟨rfl, _, rfl, H⟩
      · have H := H2 hc
        refine r_aloadn h (q := 1) 1 rfl (by decide +kernel : decode cX10_readFrom 29 = .ok (.aload_n 1, 1)) ?_
        refine r_bipush h (v := 59) (by decide) (by decide +kernel : decode cX10_readFrom 30 = .ok (.bipush 59, 2)) ?_
        obtain ⟨P2, hSP2, H⟩ := H
        refine r_callV h (as := [vi 59]) (S := []) (b := b1) m_Years_40 hSP2 (by decide) (Nat.le_refl _) rfl hb1 rfl (Nat.le_of_ble_eq_true rfl) (by decide +kernel : decode cX10_readFrom 32 = .ok (.invokevirtual 40, 3)) ?_
        rintro _ _ M2 ⟨rfl, r2, rfl, hP⟩
        have H := H r2 M2 hP
        show K NN RRC _ _ [vi r2] _
        obtain ⟨g1, H⟩ := H
        obtain ⟨H1, H2⟩ := H
        refine r_if_ne h 40 g1 (by decide) (by decide +kernel : decode cX10_readFrom 35 = .ok (.ifCond .ne 5, 3)) (fun hc => ?_) (fun hc => ?_)
        · have H := H1 hc
          refine r_iinc h (i := 3) (v := 1) (L' := [(3, vi (x3 + 1)), (0, vr b), (1, vr b1), (2, vr b2)]) 3 rfl (by decide) rfl (by decide +kernel : decode cX10_readFrom 40 = .ok (.iinc 3 1, 3)) ?_
          refine r_goto h 7 (by decide) (by decide +kernel : decode cX10_readFrom 43 = .ok (.goto (-36), 3)) ?_
          refine r_drop h [1, 2, 3, 0] rfl ?_
          exact H
        · have H := H2 hc
          refine r_iconst h (v := 0) (by decide +kernel : decode cX10_readFrom 38 = .ok (.iconst 0, 1)) ?_
          exact r_zret h rfl (by decide) (by decide +kernel : decode cX10_readFrom 39 = .ok (.ireturn, 1)) rfl ⟨rfl, _, rfl, H⟩
set_option maxHeartbeats 4000000 in
set_option maxRecDepth 100000 in
theorem w_Law_readE_0 {dd : Nat} {P : Int → Mm → Prop} {K : Nat → Rr → Nat → List (Nat × AV) → List AV → Mm → Prop} (h : EK shC yX1_readE cX1_readE 5 (some .boolean) (dd + 1) NN NN (QI RRC P) K) (hdd : 8 ≤ dd) (b : Nat) (hb : At shC NN b (.inl 0)) (b1 : Nat) (hb1 : At shC NN b1 (.inl 6)) (x2 : Int) (M : Mm)
    (H : ∃ P1 : Int → Mm → Prop, S_Law_readTest dd b b1 x2 M P1 ∧ ∀ (r1 : Int) (M1 : Mm), P1 r1 M1 → (rng r1) ∧ (r1 ≠ 0 → (K NN RRC 13 [(0, vr b), (1, vr b1), (2, vi x2), (3, vi 0)] [] M1)) ∧ (r1 = 0 → (P 0 M1))) :
    K NN RRC 0 [(0, vr b), (1, vr b1), (2, vi x2)] [] M := by
  refine r_aloadn h (q := 0) 0 rfl (by decide +kernel : decode cX1_readE 0 = .ok (.aload_n 0, 1)) ?_
  refine r_aloadn h (q := 1) 1 rfl (by decide +kernel : decode cX1_readE 1 = .ok (.aload_n 1, 1)) ?_
  refine r_iloadn h (q := 2) 2 rfl (by decide +kernel : decode cX1_readE 2 = .ok (.iload_n 2, 1)) ?_
  obtain ⟨P1, hSP1, H⟩ := H
  refine r_callV h (as := [vr b1, vi x2]) (S := []) (b := b) m_Law_30 hSP1 (Nat.le_refl _) (Nat.le_refl _) rfl hb rfl (Nat.le_of_ble_eq_true rfl) (by decide +kernel : decode cX1_readE 3 = .ok (.invokevirtual 30, 3)) ?_
  rintro _ _ M1 ⟨rfl, r1, rfl, hP⟩
  have H := H r1 M1 hP
  show K NN RRC _ _ [vi r1] _
  obtain ⟨g1, H⟩ := H
  obtain ⟨H1, H2⟩ := H
  refine r_if_ne h 11 g1 (by decide) (by decide +kernel : decode cX1_readE 6 = .ok (.ifCond .ne 5, 3)) (fun hc => ?_) (fun hc => ?_)
  · have H := H1 hc
    refine r_iconst h (v := 0) (by decide +kernel : decode cX1_readE 11 = .ok (.iconst 0, 1)) ?_
    refine r_istoren h (q := 3) (L' := [(3, vi 0), (0, vr b), (1, vr b1), (2, vi x2)]) (by decide) rfl (by decide +kernel : decode cX1_readE 12 = .ok (.istore_n 3, 1)) ?_
    refine r_drop h [1, 2, 3, 0] rfl ?_
    exact H
  · have H := H2 hc
    refine r_iconst h (v := 0) (by decide +kernel : decode cX1_readE 9 = .ok (.iconst 0, 1)) ?_
    exact r_zret h rfl (by decide) (by decide +kernel : decode cX1_readE 10 = .ok (.ireturn, 1)) rfl ⟨rfl, _, rfl, H⟩
set_option maxHeartbeats 4000000 in
set_option maxRecDepth 100000 in
theorem w_Law_readE_13 {dd : Nat} {P : Int → Mm → Prop} {K : Nat → Rr → Nat → List (Nat × AV) → List AV → Mm → Prop} (h : EK shC yX1_readE cX1_readE 5 (some .boolean) (dd + 1) NN NN (QI RRC P) K) (hdd : 8 ≤ dd) (b : Nat) (hb : At shC NN b (.inl 0)) (b1 : Nat) (hb1 : At shC NN b1 (.inl 6)) (x2 : Int) (x3 : Int) (M : Mm)
    (H : (rng x3) ∧ (1000 ≤ x3 → (P 1 M)) ∧ (¬ (1000 ≤ x3) → (∃ k101 : Nat, M b1 6 = (k101 : Int) + 1 ∧ k101 < 27 ∧ (k101 = 20 → (∃ k102 : Nat, M b1 6 = (k102 : Int) + 1 ∧ k102 < 27 ∧ (k102 ≠ 20 → (K NN RRC 57 [(0, vr b), (1, vr b1), (2, vi x2), (3, vi x3)] [vi (-8)] M)) ∧ (k102 = 20 → (K NN RRC 57 [(0, vr b), (1, vr b1), (2, vi x2), (3, vi x3)] [vi (-7)] M)))) ∧ (k101 ≠ 20 → (∃ k103 : Nat, M b1 6 = (k103 : Int) + 1 ∧ k103 < 27 ∧ (k103 ≠ 21 → (P 1 M)) ∧ (k103 = 21 → (∃ k104 : Nat, M b1 6 = (k104 : Int) + 1 ∧ k104 < 27 ∧ (k104 ≠ 20 → (K NN RRC 57 [(0, vr b), (1, vr b1), (2, vi x2), (3, vi x3)] [vi (-8)] M)) ∧ (k104 = 20 → (K NN RRC 57 [(0, vr b), (1, vr b1), (2, vi x2), (3, vi x3)] [vi (-7)] M))))))))) :
    K NN RRC 13 [(0, vr b), (1, vr b1), (2, vi x2), (3, vi x3)] [] M := by
  refine r_iloadn h (q := 3) 3 rfl (by decide +kernel : decode cX1_readE 13 = .ok (.iload_n 3, 1)) ?_
  refine r_sipush h (v := 1000) (by decide) (by decide +kernel : decode cX1_readE 14 = .ok (.sipush 1000, 3)) ?_
  obtain ⟨g1, H⟩ := H
  obtain ⟨H1, H2⟩ := H
  refine r_icmp_ge h 86 g1 (by decide) (by decide) (by decide +kernel : decode cX1_readE 17 = .ok (.if_icmp .ge 69, 3)) (fun hc => ?_) (fun hc => ?_)
  · have H := H1 hc
    refine r_iconst h (v := 1) (by decide +kernel : decode cX1_readE 86 = .ok (.iconst 1, 1)) ?_
    exact r_zret h rfl (by decide) (by decide +kernel : decode cX1_readE 87 = .ok (.ireturn, 1)) rfl ⟨rfl, _, rfl, H⟩
  · have H := H2 hc
    refine r_aloadn h (q := 1) 1 rfl (by decide +kernel : decode cX1_readE 20 = .ok (.aload_n 1, 1)) ?_
    obtain ⟨k101, htk101, hlk101, H⟩ := H
    refine r_getE h (r := k101) f_Law_33 hb1 htk101 (by decide +kernel : decode cX1_readE 21 = .ok (.getfield 33, 3)) ?_
    refine r_getS h zF_20 rfl (inT3 227 rfl rfl) (by decide +kernel : decode cX1_readE 24 = .ok (.getstatic 39, 3)) ?_
    obtain ⟨H1, H2⟩ := H
    refine r_acmp_eq h 40 hlk101 (by decide) (by decide) (by decide +kernel : decode cX1_readE 27 = .ok (.if_acmp .eq 13, 3)) (fun hc => ?_) (fun hc => ?_)
    · have H := H1 hc
      refine r_aloadn h (q := 1) 1 rfl (by decide +kernel : decode cX1_readE 40 = .ok (.aload_n 1, 1)) ?_
      obtain ⟨k102, htk102, hlk102, H⟩ := H
      refine r_getE h (r := k102) f_Law_33 hb1 htk102 (by decide +kernel : decode cX1_readE 41 = .ok (.getfield 33, 3)) ?_
      refine r_getS h zF_20 rfl (inT3 227 rfl rfl) (by decide +kernel : decode cX1_readE 44 = .ok (.getstatic 39, 3)) ?_
      obtain ⟨H1, H2⟩ := H
      refine r_acmp_ne h 55 hlk102 (by decide) (by decide) (by decide +kernel : decode cX1_readE 47 = .ok (.if_acmp .ne 8, 3)) (fun hc => ?_) (fun hc => ?_)
      · have H := H1 hc
        refine r_bipush h (v := (-8)) (by decide) (by decide +kernel : decode cX1_readE 55 = .ok (.bipush (-8), 2)) ?_
        exact H
      · have H := H2 hc
        refine r_bipush h (v := (-7)) (by decide) (by decide +kernel : decode cX1_readE 50 = .ok (.bipush (-7), 2)) ?_
        refine r_goto h 57 (by decide) (by decide +kernel : decode cX1_readE 52 = .ok (.goto 5, 3)) ?_
        exact H
    · have H := H2 hc
      refine r_aloadn h (q := 1) 1 rfl (by decide +kernel : decode cX1_readE 30 = .ok (.aload_n 1, 1)) ?_
      obtain ⟨k103, htk103, hlk103, H⟩ := H
      refine r_getE h (r := k103) f_Law_33 hb1 htk103 (by decide +kernel : decode cX1_readE 31 = .ok (.getfield 33, 3)) ?_
      refine r_getS h zF_21 rfl (inT3 229 rfl rfl) (by decide +kernel : decode cX1_readE 34 = .ok (.getstatic 44, 3)) ?_
      obtain ⟨H1, H2⟩ := H
      refine r_acmp_ne h 86 hlk103 (by decide) (by decide) (by decide +kernel : decode cX1_readE 37 = .ok (.if_acmp .ne 49, 3)) (fun hc => ?_) (fun hc => ?_)
      · have H := H1 hc
        refine r_iconst h (v := 1) (by decide +kernel : decode cX1_readE 86 = .ok (.iconst 1, 1)) ?_
        exact r_zret h rfl (by decide) (by decide +kernel : decode cX1_readE 87 = .ok (.ireturn, 1)) rfl ⟨rfl, _, rfl, H⟩
      · have H := H2 hc
        refine r_aloadn h (q := 1) 1 rfl (by decide +kernel : decode cX1_readE 40 = .ok (.aload_n 1, 1)) ?_
        obtain ⟨k104, htk104, hlk104, H⟩ := H
        refine r_getE h (r := k104) f_Law_33 hb1 htk104 (by decide +kernel : decode cX1_readE 41 = .ok (.getfield 33, 3)) ?_
        refine r_getS h zF_20 rfl (inT3 227 rfl rfl) (by decide +kernel : decode cX1_readE 44 = .ok (.getstatic 39, 3)) ?_
        obtain ⟨H1, H2⟩ := H
        refine r_acmp_ne h 55 hlk104 (by decide) (by decide) (by decide +kernel : decode cX1_readE 47 = .ok (.if_acmp .ne 8, 3)) (fun hc => ?_) (fun hc => ?_)
        · have H := H1 hc
          refine r_bipush h (v := (-8)) (by decide) (by decide +kernel : decode cX1_readE 55 = .ok (.bipush (-8), 2)) ?_
          exact H
        · have H := H2 hc
          refine r_bipush h (v := (-7)) (by decide) (by decide +kernel : decode cX1_readE 50 = .ok (.bipush (-7), 2)) ?_
          refine r_goto h 57 (by decide) (by decide +kernel : decode cX1_readE 52 = .ok (.goto 5, 3)) ?_
          exact H
set_option maxHeartbeats 4000000 in
set_option maxRecDepth 100000 in
theorem w_Law_readE_57 {dd : Nat} {P : Int → Mm → Prop} {K : Nat → Rr → Nat → List (Nat × AV) → List AV → Mm → Prop} (h : EK shC yX1_readE cX1_readE 5 (some .boolean) (dd + 1) NN NN (QI RRC P) K) (hdd : 8 ≤ dd) (b : Nat) (hb : At shC NN b (.inl 0)) (b1 : Nat) (hb1 : At shC NN b1 (.inl 6)) (x2 : Int) (x3 : Int) (s0 : Int) (M : Mm)
    (H : ∃ P1 : Mm → Prop, S_Tape_advance b1 M P1 ∧ ∀ M1 : Mm, P1 M1 → ∃ P2 : Int → Mm → Prop, S_Law_readTest dd b b1 x2 M1 P2 ∧ ∀ (r2 : Int) (M2 : Mm), P2 r2 M2 → (rng r2) ∧ (r2 ≠ 0 → (∃ P3 : Mm → Prop, S_Law_add b s0 M2 P3 ∧ ∀ M3 : Mm, P3 M3 → K NN RRC 13 [(0, vr b), (1, vr b1), (2, vi x2), (3, vi (x3 + 1))] [] M3)) ∧ (r2 = 0 → (P 0 M2))) :
    K NN RRC 57 [(0, vr b), (1, vr b1), (2, vi x2), (3, vi x3)] [vi s0] M := by
  refine r_istore h (L' := [(4, vi s0), (0, vr b), (1, vr b1), (2, vi x2), (3, vi x3)]) (by decide) rfl (by decide +kernel : decode cX1_readE 57 = .ok (.istore 4, 2)) ?_
  refine r_aloadn h (q := 1) 2 rfl (by decide +kernel : decode cX1_readE 59 = .ok (.aload_n 1, 1)) ?_
  obtain ⟨P1, hSP1, H⟩ := H
  refine r_callV h (as := []) (S := []) (b := b1) m_Law_47 hSP1 (by omega) (Nat.le_refl _) rfl hb1 rfl (Nat.le_of_ble_eq_true rfl) (by decide +kernel : decode cX1_readE 60 = .ok (.invokevirtual 47, 3)) ?_
  rintro _ _ M1 ⟨rfl, rfl, hP⟩
  have H := H M1 hP
  show K NN RRC _ _ [] _
  refine r_aloadn h (q := 0) 1 rfl (by decide +kernel : decode cX1_readE 63 = .ok (.aload_n 0, 1)) ?_
  refine r_aloadn h (q := 1) 2 rfl (by decide +kernel : decode cX1_readE 64 = .ok (.aload_n 1, 1)) ?_
  refine r_iloadn h (q := 2) 3 rfl (by decide +kernel : decode cX1_readE 65 = .ok (.iload_n 2, 1)) ?_
  obtain ⟨P2, hSP2, H⟩ := H
  refine r_callV h (as := [vr b1, vi x2]) (S := []) (b := b) m_Law_30 hSP2 (Nat.le_refl _) (Nat.le_refl _) rfl hb rfl (Nat.le_of_ble_eq_true rfl) (by decide +kernel : decode cX1_readE 66 = .ok (.invokevirtual 30, 3)) ?_
  rintro _ _ M2 ⟨rfl, r2, rfl, hP⟩
  have H := H r2 M2 hP
  show K NN RRC _ _ [vi r2] _
  obtain ⟨g1, H⟩ := H
  obtain ⟨H1, H2⟩ := H
  refine r_if_ne h 74 g1 (by decide) (by decide +kernel : decode cX1_readE 69 = .ok (.ifCond .ne 5, 3)) (fun hc => ?_) (fun hc => ?_)
  · have H := H1 hc
    refine r_aloadn h (q := 0) 1 rfl (by decide +kernel : decode cX1_readE 74 = .ok (.aload_n 0, 1)) ?_
    refine r_iload h 0 rfl (by decide +kernel : decode cX1_readE 75 = .ok (.iload 4, 2)) ?_
    obtain ⟨P3, hSP3, H⟩ := H
    refine r_callV h (as := [vi s0]) (S := []) (b := b) m_Law_50 hSP3 (by omega) (Nat.le_refl _) rfl hb rfl (Nat.le_of_ble_eq_true rfl) (by decide +kernel : decode cX1_readE 77 = .ok (.invokevirtual 50, 3)) ?_
    rintro _ _ M3 ⟨rfl, rfl, hP⟩
    have H := H M3 hP
    show K NN RRC _ _ [] _
    refine r_iinc h (i := 3) (v := 1) (L' := [(3, vi (x3 + 1)), (4, vi s0), (0, vr b), (1, vr b1), (2, vi x2)]) 4 rfl (by decide) rfl (by decide +kernel : decode cX1_readE 80 = .ok (.iinc 3 1, 3)) ?_
    refine r_goto h 13 (by decide) (by decide +kernel : decode cX1_readE 83 = .ok (.goto (-70), 3)) ?_
    refine r_drop h [2, 3, 4, 0] rfl ?_
    exact H
  · have H := H2 hc
    refine r_iconst h (v := 0) (by decide +kernel : decode cX1_readE 72 = .ok (.iconst 0, 1)) ?_
    exact r_zret h rfl (by decide) (by decide +kernel : decode cX1_readE 73 = .ok (.ireturn, 1)) rfl ⟨rfl, _, rfl, H⟩
set_option maxHeartbeats 4000000 in
set_option maxRecDepth 100000 in
theorem w_Law_readTest_0 {dd : Nat} {P : Int → Mm → Prop} {K : Nat → Rr → Nat → List (Nat × AV) → List AV → Mm → Prop} (h : EK shC yX1_readTest cX1_readTest 4 (some .boolean) (dd + 1) NN NN (QI RRC P) K) (hdd : 8 ≤ dd) (b : Nat) (hb : At shC NN b (.inl 0)) (b1 : Nat) (hb1 : At shC NN b1 (.inl 6)) (x2 : Int) (M : Mm)
    (H : ∃ P1 : Int → Mm → Prop, S_Law_readSum dd b b1 x2 M P1 ∧ ∀ (r1 : Int) (M1 : Mm), P1 r1 M1 → (rng r1) ∧ (r1 ≠ 0 → (∃ P2 : Int → Mm → Prop, S_Tape_isSign b1 60 M1 P2 ∧ ∀ (r2 : Int) (M2 : Mm), P2 r2 M2 → (rng r2) ∧ (r2 ≠ 0 → (∃ P3 : Int → Mm → Prop, S_Tape_isSign b1 60 M2 P3 ∧ ∀ (r3 : Int) (M3 : Mm), P3 r3 M3 → (rng r3) ∧ (r3 = 0 → (K NN RRC 47 [(0, vr b), (1, vr b1), (2, vi x2)] [vi (-6)] M3)) ∧ (r3 ≠ 0 → (K NN RRC 47 [(0, vr b), (1, vr b1), (2, vi x2)] [vi (-5)] M3)))) ∧ (r2 = 0 → (∃ P4 : Int → Mm → Prop, S_Tape_isSign b1 61 M2 P4 ∧ ∀ (r4 : Int) (M4 : Mm), P4 r4 M4 → (rng r4) ∧ (r4 ≠ 0 → (∃ P5 : Int → Mm → Prop, S_Tape_isSign b1 60 M4 P5 ∧ ∀ (r5 : Int) (M5 : Mm), P5 r5 M5 → (rng r5) ∧ (r5 = 0 → (K NN RRC 47 [(0, vr b), (1, vr b1), (2, vi x2)] [vi (-6)] M5)) ∧ (r5 ≠ 0 → (K NN RRC 47 [(0, vr b), (1, vr b1), (2, vi x2)] [vi (-5)] M5)))) ∧ (r4 = 0 → (P 1 M4)))))) ∧ (r1 = 0 → (P 0 M1))) :
    K NN RRC 0 [(0, vr b), (1, vr b1), (2, vi x2)] [] M := by
  refine r_aloadn h (q := 0) 0 rfl (by decide +kernel : decode cX1_readTest 0 = .ok (.aload_n 0, 1)) ?_
  refine r_aloadn h (q := 1) 1 rfl (by decide +kernel : decode cX1_readTest 1 = .ok (.aload_n 1, 1)) ?_
  refine r_iloadn h (q := 2) 2 rfl (by decide +kernel : decode cX1_readTest 2 = .ok (.iload_n 2, 1)) ?_
  obtain ⟨P1, hSP1, H⟩ := H
  refine r_callV h (as := [vr b1, vi x2]) (S := []) (b := b) m_Law_54 hSP1 (Nat.le_refl _) (Nat.le_refl _) rfl hb rfl (Nat.le_of_ble_eq_true rfl) (by decide +kernel : decode cX1_readTest 3 = .ok (.invokevirtual 54, 3)) ?_
  rintro _ _ M1 ⟨rfl, r1, rfl, hP⟩
  have H := H r1 M1 hP
  show K NN RRC _ _ [vi r1] _
  obtain ⟨g1, H⟩ := H
  obtain ⟨H1, H2⟩ := H
  refine r_if_ne h 11 g1 (by decide) (by decide +kernel : decode cX1_readTest 6 = .ok (.ifCond .ne 5, 3)) (fun hc => ?_) (fun hc => ?_)
  · have H := H1 hc
    refine r_aloadn h (q := 1) 1 rfl (by decide +kernel : decode cX1_readTest 11 = .ok (.aload_n 1, 1)) ?_
    refine r_bipush h (v := 60) (by decide) (by decide +kernel : decode cX1_readTest 12 = .ok (.bipush 60, 2)) ?_
    obtain ⟨P2, hSP2, H⟩ := H
    refine r_callV h (as := [vi 60]) (S := []) (b := b1) m_Law_57 hSP2 (by omega) (Nat.le_refl _) rfl hb1 rfl (Nat.le_of_ble_eq_true rfl) (by decide +kernel : decode cX1_readTest 14 = .ok (.invokevirtual 57, 3)) ?_
    rintro _ _ M2 ⟨rfl, r2, rfl, hP⟩
    have H := H r2 M2 hP
    show K NN RRC _ _ [vi r2] _
    obtain ⟨g1, H⟩ := H
    obtain ⟨H1, H2⟩ := H
    refine r_if_ne h 31 g1 (by decide) (by decide +kernel : decode cX1_readTest 17 = .ok (.ifCond .ne 14, 3)) (fun hc => ?_) (fun hc => ?_)
    · have H := H1 hc
      refine r_aloadn h (q := 1) 1 rfl (by decide +kernel : decode cX1_readTest 31 = .ok (.aload_n 1, 1)) ?_
      refine r_bipush h (v := 60) (by decide) (by decide +kernel : decode cX1_readTest 32 = .ok (.bipush 60, 2)) ?_
      obtain ⟨P3, hSP3, H⟩ := H
      refine r_callV h (as := [vi 60]) (S := []) (b := b1) m_Law_57 hSP3 (by omega) (Nat.le_refl _) rfl hb1 rfl (Nat.le_of_ble_eq_true rfl) (by decide +kernel : decode cX1_readTest 34 = .ok (.invokevirtual 57, 3)) ?_
      rintro _ _ M3 ⟨rfl, r3, rfl, hP⟩
      have H := H r3 M3 hP
      show K NN RRC _ _ [vi r3] _
      obtain ⟨g1, H⟩ := H
      obtain ⟨H1, H2⟩ := H
      refine r_if_eq h 45 g1 (by decide) (by decide +kernel : decode cX1_readTest 37 = .ok (.ifCond .eq 8, 3)) (fun hc => ?_) (fun hc => ?_)
      · have H := H1 hc
        refine r_bipush h (v := (-6)) (by decide) (by decide +kernel : decode cX1_readTest 45 = .ok (.bipush (-6), 2)) ?_
        exact H
      · have H := H2 hc
        refine r_bipush h (v := (-5)) (by decide) (by decide +kernel : decode cX1_readTest 40 = .ok (.bipush (-5), 2)) ?_
        refine r_goto h 47 (by decide) (by decide +kernel : decode cX1_readTest 42 = .ok (.goto 5, 3)) ?_
        exact H
    · have H := H2 hc
      refine r_aloadn h (q := 1) 1 rfl (by decide +kernel : decode cX1_readTest 20 = .ok (.aload_n 1, 1)) ?_
      refine r_bipush h (v := 61) (by decide) (by decide +kernel : decode cX1_readTest 21 = .ok (.bipush 61, 2)) ?_
      obtain ⟨P4, hSP4, H⟩ := H
      refine r_callV h (as := [vi 61]) (S := []) (b := b1) m_Law_57 hSP4 (by omega) (Nat.le_refl _) rfl hb1 rfl (Nat.le_of_ble_eq_true rfl) (by decide +kernel : decode cX1_readTest 23 = .ok (.invokevirtual 57, 3)) ?_
      rintro _ _ M4 ⟨rfl, r4, rfl, hP⟩
      have H := H r4 M4 hP
      show K NN RRC _ _ [vi r4] _
      obtain ⟨g1, H⟩ := H
      obtain ⟨H1, H2⟩ := H
      refine r_if_ne h 31 g1 (by decide) (by decide +kernel : decode cX1_readTest 26 = .ok (.ifCond .ne 5, 3)) (fun hc => ?_) (fun hc => ?_)
      · have H := H1 hc
        refine r_aloadn h (q := 1) 1 rfl (by decide +kernel : decode cX1_readTest 31 = .ok (.aload_n 1, 1)) ?_
        refine r_bipush h (v := 60) (by decide) (by decide +kernel : decode cX1_readTest 32 = .ok (.bipush 60, 2)) ?_
        obtain ⟨P5, hSP5, H⟩ := H
        refine r_callV h (as := [vi 60]) (S := []) (b := b1) m_Law_57 hSP5 (by omega) (Nat.le_refl _) rfl hb1 rfl (Nat.le_of_ble_eq_true rfl) (by decide +kernel : decode cX1_readTest 34 = .ok (.invokevirtual 57, 3)) ?_
        rintro _ _ M5 ⟨rfl, r5, rfl, hP⟩
        have H := H r5 M5 hP
        show K NN RRC _ _ [vi r5] _
        obtain ⟨g1, H⟩ := H
        obtain ⟨H1, H2⟩ := H
        refine r_if_eq h 45 g1 (by decide) (by decide +kernel : decode cX1_readTest 37 = .ok (.ifCond .eq 8, 3)) (fun hc => ?_) (fun hc => ?_)
        · have H := H1 hc
          refine r_bipush h (v := (-6)) (by decide) (by decide +kernel : decode cX1_readTest 45 = .ok (.bipush (-6), 2)) ?_
          exact H
        · have H := H2 hc
          refine r_bipush h (v := (-5)) (by decide) (by decide +kernel : decode cX1_readTest 40 = .ok (.bipush (-5), 2)) ?_
          refine r_goto h 47 (by decide) (by decide +kernel : decode cX1_readTest 42 = .ok (.goto 5, 3)) ?_
          exact H
      · have H := H2 hc
        refine r_iconst h (v := 1) (by decide +kernel : decode cX1_readTest 29 = .ok (.iconst 1, 1)) ?_
        exact r_zret h rfl (by decide) (by decide +kernel : decode cX1_readTest 30 = .ok (.ireturn, 1)) rfl ⟨rfl, _, rfl, H⟩
  · have H := H2 hc
    refine r_iconst h (v := 0) (by decide +kernel : decode cX1_readTest 9 = .ok (.iconst 0, 1)) ?_
    exact r_zret h rfl (by decide) (by decide +kernel : decode cX1_readTest 10 = .ok (.ireturn, 1)) rfl ⟨rfl, _, rfl, H⟩
set_option maxHeartbeats 4000000 in
set_option maxRecDepth 100000 in
theorem w_Law_readTest_47 {dd : Nat} {P : Int → Mm → Prop} {K : Nat → Rr → Nat → List (Nat × AV) → List AV → Mm → Prop} (h : EK shC yX1_readTest cX1_readTest 4 (some .boolean) (dd + 1) NN NN (QI RRC P) K) (hdd : 8 ≤ dd) (b : Nat) (hb : At shC NN b (.inl 0)) (b1 : Nat) (hb1 : At shC NN b1 (.inl 6)) (x2 : Int) (s0 : Int) (M : Mm)
    (H : ∃ P1 : Mm → Prop, S_Tape_advance b1 M P1 ∧ ∀ M1 : Mm, P1 M1 → ∃ P2 : Int → Mm → Prop, S_Law_readSum dd b b1 x2 M1 P2 ∧ ∀ (r2 : Int) (M2 : Mm), P2 r2 M2 → (rng r2) ∧ (r2 ≠ 0 → (∃ P3 : Mm → Prop, S_Law_add b s0 M2 P3 ∧ ∀ M3 : Mm, P3 M3 → P 1 M3)) ∧ (r2 = 0 → (P 0 M2))) :
    K NN RRC 47 [(0, vr b), (1, vr b1), (2, vi x2)] [vi s0] M := by
  refine r_istoren h (q := 3) (L' := [(3, vi s0), (0, vr b), (1, vr b1), (2, vi x2)]) (by decide) rfl (by decide +kernel : decode cX1_readTest 47 = .ok (.istore_n 3, 1)) ?_
  refine r_aloadn h (q := 1) 2 rfl (by decide +kernel : decode cX1_readTest 48 = .ok (.aload_n 1, 1)) ?_
  obtain ⟨P1, hSP1, H⟩ := H
  refine r_callV h (as := []) (S := []) (b := b1) m_Law_47 hSP1 (by omega) (Nat.le_refl _) rfl hb1 rfl (Nat.le_of_ble_eq_true rfl) (by decide +kernel : decode cX1_readTest 49 = .ok (.invokevirtual 47, 3)) ?_
  rintro _ _ M1 ⟨rfl, rfl, hP⟩
  have H := H M1 hP
  show K NN RRC _ _ [] _
  refine r_aloadn h (q := 0) 1 rfl (by decide +kernel : decode cX1_readTest 52 = .ok (.aload_n 0, 1)) ?_
  refine r_aloadn h (q := 1) 2 rfl (by decide +kernel : decode cX1_readTest 53 = .ok (.aload_n 1, 1)) ?_
  refine r_iloadn h (q := 2) 3 rfl (by decide +kernel : decode cX1_readTest 54 = .ok (.iload_n 2, 1)) ?_
  obtain ⟨P2, hSP2, H⟩ := H
  refine r_callV h (as := [vr b1, vi x2]) (S := []) (b := b) m_Law_54 hSP2 (Nat.le_refl _) (Nat.le_refl _) rfl hb rfl (Nat.le_of_ble_eq_true rfl) (by decide +kernel : decode cX1_readTest 55 = .ok (.invokevirtual 54, 3)) ?_
  rintro _ _ M2 ⟨rfl, r2, rfl, hP⟩
  have H := H r2 M2 hP
  show K NN RRC _ _ [vi r2] _
  obtain ⟨g1, H⟩ := H
  obtain ⟨H1, H2⟩ := H
  refine r_if_ne h 63 g1 (by decide) (by decide +kernel : decode cX1_readTest 58 = .ok (.ifCond .ne 5, 3)) (fun hc => ?_) (fun hc => ?_)
  · have H := H1 hc
    refine r_aloadn h (q := 0) 1 rfl (by decide +kernel : decode cX1_readTest 63 = .ok (.aload_n 0, 1)) ?_
    refine r_iloadn h (q := 3) 0 rfl (by decide +kernel : decode cX1_readTest 64 = .ok (.iload_n 3, 1)) ?_
    obtain ⟨P3, hSP3, H⟩ := H
    refine r_callV h (as := [vi s0]) (S := []) (b := b) m_Law_50 hSP3 (by omega) (Nat.le_refl _) rfl hb rfl (Nat.le_of_ble_eq_true rfl) (by decide +kernel : decode cX1_readTest 65 = .ok (.invokevirtual 50, 3)) ?_
    rintro _ _ M3 ⟨rfl, rfl, hP⟩
    have H := H M3 hP
    show K NN RRC _ _ [] _
    refine r_iconst h (v := 1) (by decide +kernel : decode cX1_readTest 68 = .ok (.iconst 1, 1)) ?_
    exact r_zret h rfl (by decide) (by decide +kernel : decode cX1_readTest 69 = .ok (.ireturn, 1)) rfl ⟨rfl, _, rfl, H⟩
  · have H := H2 hc
    refine r_iconst h (v := 0) (by decide +kernel : decode cX1_readTest 61 = .ok (.iconst 0, 1)) ?_
    exact r_zret h rfl (by decide) (by decide +kernel : decode cX1_readTest 62 = .ok (.ireturn, 1)) rfl ⟨rfl, _, rfl, H⟩
set_option maxHeartbeats 4000000 in
set_option maxRecDepth 100000 in
theorem w_Law_readSum_0 {dd : Nat} {P : Int → Mm → Prop} {K : Nat → Rr → Nat → List (Nat × AV) → List AV → Mm → Prop} (h : EK shC yX1_readSum cX1_readSum 5 (some .boolean) (dd + 1) NN NN (QI RRC P) K) (hdd : 8 ≤ dd) (b : Nat) (hb : At shC NN b (.inl 0)) (b1 : Nat) (hb1 : At shC NN b1 (.inl 6)) (x2 : Int) (M : Mm)
    (H : ∃ P1 : Int → Mm → Prop, S_Law_readProduct dd b b1 x2 M P1 ∧ ∀ (r1 : Int) (M1 : Mm), P1 r1 M1 → (rng r1) ∧ (r1 ≠ 0 → (K NN RRC 13 [(0, vr b), (1, vr b1), (2, vi x2), (3, vi 0)] [] M1)) ∧ (r1 = 0 → (P 0 M1))) :
    K NN RRC 0 [(0, vr b), (1, vr b1), (2, vi x2)] [] M := by
  refine r_aloadn h (q := 0) 0 rfl (by decide +kernel : decode cX1_readSum 0 = .ok (.aload_n 0, 1)) ?_
  refine r_aloadn h (q := 1) 1 rfl (by decide +kernel : decode cX1_readSum 1 = .ok (.aload_n 1, 1)) ?_
  refine r_iloadn h (q := 2) 2 rfl (by decide +kernel : decode cX1_readSum 2 = .ok (.iload_n 2, 1)) ?_
  obtain ⟨P1, hSP1, H⟩ := H
  refine r_callV h (as := [vr b1, vi x2]) (S := []) (b := b) m_Law_61 hSP1 (Nat.le_refl _) (Nat.le_refl _) rfl hb rfl (Nat.le_of_ble_eq_true rfl) (by decide +kernel : decode cX1_readSum 3 = .ok (.invokevirtual 61, 3)) ?_
  rintro _ _ M1 ⟨rfl, r1, rfl, hP⟩
  have H := H r1 M1 hP
  show K NN RRC _ _ [vi r1] _
  obtain ⟨g1, H⟩ := H
  obtain ⟨H1, H2⟩ := H
  refine r_if_ne h 11 g1 (by decide) (by decide +kernel : decode cX1_readSum 6 = .ok (.ifCond .ne 5, 3)) (fun hc => ?_) (fun hc => ?_)
  · have H := H1 hc
    refine r_iconst h (v := 0) (by decide +kernel : decode cX1_readSum 11 = .ok (.iconst 0, 1)) ?_
    refine r_istoren h (q := 3) (L' := [(3, vi 0), (0, vr b), (1, vr b1), (2, vi x2)]) (by decide) rfl (by decide +kernel : decode cX1_readSum 12 = .ok (.istore_n 3, 1)) ?_
    refine r_drop h [1, 2, 3, 0] rfl ?_
    exact H
  · have H := H2 hc
    refine r_iconst h (v := 0) (by decide +kernel : decode cX1_readSum 9 = .ok (.iconst 0, 1)) ?_
    exact r_zret h rfl (by decide) (by decide +kernel : decode cX1_readSum 10 = .ok (.ireturn, 1)) rfl ⟨rfl, _, rfl, H⟩
set_option maxHeartbeats 4000000 in
set_option maxRecDepth 100000 in
theorem w_Law_readSum_13 {dd : Nat} {P : Int → Mm → Prop} {K : Nat → Rr → Nat → List (Nat × AV) → List AV → Mm → Prop} (h : EK shC yX1_readSum cX1_readSum 5 (some .boolean) (dd + 1) NN NN (QI RRC P) K) (hdd : 8 ≤ dd) (b : Nat) (hb : At shC NN b (.inl 0)) (b1 : Nat) (hb1 : At shC NN b1 (.inl 6)) (x2 : Int) (x3 : Int) (M : Mm)
    (H : (rng x3) ∧ (1000 ≤ x3 → (P 1 M)) ∧ (¬ (1000 ≤ x3) → (∃ P1 : Int → Mm → Prop, S_Tape_isSign b1 43 M P1 ∧ ∀ (r1 : Int) (M1 : Mm), P1 r1 M1 → (rng r1) ∧ (r1 ≠ 0 → (∃ P2 : Int → Mm → Prop, S_Tape_isSign b1 43 M1 P2 ∧ ∀ (r2 : Int) (M2 : Mm), P2 r2 M2 → (rng r2) ∧ (r2 = 0 → (K NN RRC 54 [(0, vr b), (1, vr b1), (2, vi x2), (3, vi x3)] [vi (-4)] M2)) ∧ (r2 ≠ 0 → (K NN RRC 54 [(0, vr b), (1, vr b1), (2, vi x2), (3, vi x3)] [vi (-3)] M2)))) ∧ (r1 = 0 → (∃ P3 : Int → Mm → Prop, S_Tape_isSign b1 45 M1 P3 ∧ ∀ (r3 : Int) (M3 : Mm), P3 r3 M3 → (rng r3) ∧ (r3 = 0 → (P 1 M3)) ∧ (r3 ≠ 0 → (∃ P4 : Int → Mm → Prop, S_Tape_isSign b1 43 M3 P4 ∧ ∀ (r4 : Int) (M4 : Mm), P4 r4 M4 → (rng r4) ∧ (r4 = 0 → (K NN RRC 54 [(0, vr b), (1, vr b1), (2, vi x2), (3, vi x3)] [vi (-4)] M4)) ∧ (r4 ≠ 0 → (K NN RRC 54 [(0, vr b), (1, vr b1), (2, vi x2), (3, vi x3)] [vi (-3)] M4))))))))) :
    K NN RRC 13 [(0, vr b), (1, vr b1), (2, vi x2), (3, vi x3)] [] M := by
  refine r_iloadn h (q := 3) 3 rfl (by decide +kernel : decode cX1_readSum 13 = .ok (.iload_n 3, 1)) ?_
  refine r_sipush h (v := 1000) (by decide) (by decide +kernel : decode cX1_readSum 14 = .ok (.sipush 1000, 3)) ?_
  obtain ⟨g1, H⟩ := H
  obtain ⟨H1, H2⟩ := H
  refine r_icmp_ge h 83 g1 (by decide) (by decide) (by decide +kernel : decode cX1_readSum 17 = .ok (.if_icmp .ge 66, 3)) (fun hc => ?_) (fun hc => ?_)
  · have H := H1 hc
    refine r_iconst h (v := 1) (by decide +kernel : decode cX1_readSum 83 = .ok (.iconst 1, 1)) ?_
    exact r_zret h rfl (by decide) (by decide +kernel : decode cX1_readSum 84 = .ok (.ireturn, 1)) rfl ⟨rfl, _, rfl, H⟩
  · have H := H2 hc
    refine r_aloadn h (q := 1) 1 rfl (by decide +kernel : decode cX1_readSum 20 = .ok (.aload_n 1, 1)) ?_
    refine r_bipush h (v := 43) (by decide) (by decide +kernel : decode cX1_readSum 21 = .ok (.bipush 43, 2)) ?_
    obtain ⟨P1, hSP1, H⟩ := H
    refine r_callV h (as := [vi 43]) (S := []) (b := b1) m_Law_57 hSP1 (by omega) (Nat.le_refl _) rfl hb1 rfl (Nat.le_of_ble_eq_true rfl) (by decide +kernel : decode cX1_readSum 23 = .ok (.invokevirtual 57, 3)) ?_
    rintro _ _ M1 ⟨rfl, r1, rfl, hP⟩
    have H := H r1 M1 hP
    show K NN RRC _ _ [vi r1] _
    obtain ⟨g1, H⟩ := H
    obtain ⟨H1, H2⟩ := H
    refine r_if_ne h 38 g1 (by decide) (by decide +kernel : decode cX1_readSum 26 = .ok (.ifCond .ne 12, 3)) (fun hc => ?_) (fun hc => ?_)
    · have H := H1 hc
      refine r_aloadn h (q := 1) 1 rfl (by decide +kernel : decode cX1_readSum 38 = .ok (.aload_n 1, 1)) ?_
      refine r_bipush h (v := 43) (by decide) (by decide +kernel : decode cX1_readSum 39 = .ok (.bipush 43, 2)) ?_
      obtain ⟨P2, hSP2, H⟩ := H
      refine r_callV h (as := [vi 43]) (S := []) (b := b1) m_Law_57 hSP2 (by omega) (Nat.le_refl _) rfl hb1 rfl (Nat.le_of_ble_eq_true rfl) (by decide +kernel : decode cX1_readSum 41 = .ok (.invokevirtual 57, 3)) ?_
      rintro _ _ M2 ⟨rfl, r2, rfl, hP⟩
      have H := H r2 M2 hP
      show K NN RRC _ _ [vi r2] _
      obtain ⟨g1, H⟩ := H
      obtain ⟨H1, H2⟩ := H
      refine r_if_eq h 52 g1 (by decide) (by decide +kernel : decode cX1_readSum 44 = .ok (.ifCond .eq 8, 3)) (fun hc => ?_) (fun hc => ?_)
      · have H := H1 hc
        refine r_bipush h (v := (-4)) (by decide) (by decide +kernel : decode cX1_readSum 52 = .ok (.bipush (-4), 2)) ?_
        exact H
      · have H := H2 hc
        refine r_bipush h (v := (-3)) (by decide) (by decide +kernel : decode cX1_readSum 47 = .ok (.bipush (-3), 2)) ?_
        refine r_goto h 54 (by decide) (by decide +kernel : decode cX1_readSum 49 = .ok (.goto 5, 3)) ?_
        exact H
    · have H := H2 hc
      refine r_aloadn h (q := 1) 1 rfl (by decide +kernel : decode cX1_readSum 29 = .ok (.aload_n 1, 1)) ?_
      refine r_bipush h (v := 45) (by decide) (by decide +kernel : decode cX1_readSum 30 = .ok (.bipush 45, 2)) ?_
      obtain ⟨P3, hSP3, H⟩ := H
      refine r_callV h (as := [vi 45]) (S := []) (b := b1) m_Law_57 hSP3 (by omega) (Nat.le_refl _) rfl hb1 rfl (Nat.le_of_ble_eq_true rfl) (by decide +kernel : decode cX1_readSum 32 = .ok (.invokevirtual 57, 3)) ?_
      rintro _ _ M3 ⟨rfl, r3, rfl, hP⟩
      have H := H r3 M3 hP
      show K NN RRC _ _ [vi r3] _
      obtain ⟨g1, H⟩ := H
      obtain ⟨H1, H2⟩ := H
      refine r_if_eq h 83 g1 (by decide) (by decide +kernel : decode cX1_readSum 35 = .ok (.ifCond .eq 48, 3)) (fun hc => ?_) (fun hc => ?_)
      · have H := H1 hc
        refine r_iconst h (v := 1) (by decide +kernel : decode cX1_readSum 83 = .ok (.iconst 1, 1)) ?_
        exact r_zret h rfl (by decide) (by decide +kernel : decode cX1_readSum 84 = .ok (.ireturn, 1)) rfl ⟨rfl, _, rfl, H⟩
      · have H := H2 hc
        refine r_aloadn h (q := 1) 1 rfl (by decide +kernel : decode cX1_readSum 38 = .ok (.aload_n 1, 1)) ?_
        refine r_bipush h (v := 43) (by decide) (by decide +kernel : decode cX1_readSum 39 = .ok (.bipush 43, 2)) ?_
        obtain ⟨P4, hSP4, H⟩ := H
        refine r_callV h (as := [vi 43]) (S := []) (b := b1) m_Law_57 hSP4 (by omega) (Nat.le_refl _) rfl hb1 rfl (Nat.le_of_ble_eq_true rfl) (by decide +kernel : decode cX1_readSum 41 = .ok (.invokevirtual 57, 3)) ?_
        rintro _ _ M4 ⟨rfl, r4, rfl, hP⟩
        have H := H r4 M4 hP
        show K NN RRC _ _ [vi r4] _
        obtain ⟨g1, H⟩ := H
        obtain ⟨H1, H2⟩ := H
        refine r_if_eq h 52 g1 (by decide) (by decide +kernel : decode cX1_readSum 44 = .ok (.ifCond .eq 8, 3)) (fun hc => ?_) (fun hc => ?_)
        · have H := H1 hc
          refine r_bipush h (v := (-4)) (by decide) (by decide +kernel : decode cX1_readSum 52 = .ok (.bipush (-4), 2)) ?_
          exact H
        · have H := H2 hc
          refine r_bipush h (v := (-3)) (by decide) (by decide +kernel : decode cX1_readSum 47 = .ok (.bipush (-3), 2)) ?_
          refine r_goto h 54 (by decide) (by decide +kernel : decode cX1_readSum 49 = .ok (.goto 5, 3)) ?_
          exact H
set_option maxHeartbeats 4000000 in
set_option maxRecDepth 100000 in
theorem w_Law_readSum_54 {dd : Nat} {P : Int → Mm → Prop} {K : Nat → Rr → Nat → List (Nat × AV) → List AV → Mm → Prop} (h : EK shC yX1_readSum cX1_readSum 5 (some .boolean) (dd + 1) NN NN (QI RRC P) K) (hdd : 8 ≤ dd) (b : Nat) (hb : At shC NN b (.inl 0)) (b1 : Nat) (hb1 : At shC NN b1 (.inl 6)) (x2 : Int) (x3 : Int) (s0 : Int) (M : Mm)
    (H : ∃ P1 : Mm → Prop, S_Tape_advance b1 M P1 ∧ ∀ M1 : Mm, P1 M1 → ∃ P2 : Int → Mm → Prop, S_Law_readProduct dd b b1 x2 M1 P2 ∧ ∀ (r2 : Int) (M2 : Mm), P2 r2 M2 → (rng r2) ∧ (r2 ≠ 0 → (∃ P3 : Mm → Prop, S_Law_add b s0 M2 P3 ∧ ∀ M3 : Mm, P3 M3 → K NN RRC 13 [(0, vr b), (1, vr b1), (2, vi x2), (3, vi (x3 + 1))] [] M3)) ∧ (r2 = 0 → (P 0 M2))) :
    K NN RRC 54 [(0, vr b), (1, vr b1), (2, vi x2), (3, vi x3)] [vi s0] M := by
  refine r_istore h (L' := [(4, vi s0), (0, vr b), (1, vr b1), (2, vi x2), (3, vi x3)]) (by decide) rfl (by decide +kernel : decode cX1_readSum 54 = .ok (.istore 4, 2)) ?_
  refine r_aloadn h (q := 1) 2 rfl (by decide +kernel : decode cX1_readSum 56 = .ok (.aload_n 1, 1)) ?_
  obtain ⟨P1, hSP1, H⟩ := H
  refine r_callV h (as := []) (S := []) (b := b1) m_Law_47 hSP1 (by omega) (Nat.le_refl _) rfl hb1 rfl (Nat.le_of_ble_eq_true rfl) (by decide +kernel : decode cX1_readSum 57 = .ok (.invokevirtual 47, 3)) ?_
  rintro _ _ M1 ⟨rfl, rfl, hP⟩
  have H := H M1 hP
  show K NN RRC _ _ [] _
  refine r_aloadn h (q := 0) 1 rfl (by decide +kernel : decode cX1_readSum 60 = .ok (.aload_n 0, 1)) ?_
  refine r_aloadn h (q := 1) 2 rfl (by decide +kernel : decode cX1_readSum 61 = .ok (.aload_n 1, 1)) ?_
  refine r_iloadn h (q := 2) 3 rfl (by decide +kernel : decode cX1_readSum 62 = .ok (.iload_n 2, 1)) ?_
  obtain ⟨P2, hSP2, H⟩ := H
  refine r_callV h (as := [vr b1, vi x2]) (S := []) (b := b) m_Law_61 hSP2 (Nat.le_refl _) (Nat.le_refl _) rfl hb rfl (Nat.le_of_ble_eq_true rfl) (by decide +kernel : decode cX1_readSum 63 = .ok (.invokevirtual 61, 3)) ?_
  rintro _ _ M2 ⟨rfl, r2, rfl, hP⟩
  have H := H r2 M2 hP
  show K NN RRC _ _ [vi r2] _
  obtain ⟨g1, H⟩ := H
  obtain ⟨H1, H2⟩ := H
  refine r_if_ne h 71 g1 (by decide) (by decide +kernel : decode cX1_readSum 66 = .ok (.ifCond .ne 5, 3)) (fun hc => ?_) (fun hc => ?_)
  · have H := H1 hc
    refine r_aloadn h (q := 0) 1 rfl (by decide +kernel : decode cX1_readSum 71 = .ok (.aload_n 0, 1)) ?_
    refine r_iload h 0 rfl (by decide +kernel : decode cX1_readSum 72 = .ok (.iload 4, 2)) ?_
    obtain ⟨P3, hSP3, H⟩ := H
    refine r_callV h (as := [vi s0]) (S := []) (b := b) m_Law_50 hSP3 (by omega) (Nat.le_refl _) rfl hb rfl (Nat.le_of_ble_eq_true rfl) (by decide +kernel : decode cX1_readSum 74 = .ok (.invokevirtual 50, 3)) ?_
    rintro _ _ M3 ⟨rfl, rfl, hP⟩
    have H := H M3 hP
    show K NN RRC _ _ [] _
    refine r_iinc h (i := 3) (v := 1) (L' := [(3, vi (x3 + 1)), (4, vi s0), (0, vr b), (1, vr b1), (2, vi x2)]) 4 rfl (by decide) rfl (by decide +kernel : decode cX1_readSum 77 = .ok (.iinc 3 1, 3)) ?_
    refine r_goto h 13 (by decide) (by decide +kernel : decode cX1_readSum 80 = .ok (.goto (-67), 3)) ?_
    refine r_drop h [2, 3, 4, 0] rfl ?_
    exact H
  · have H := H2 hc
    refine r_iconst h (v := 0) (by decide +kernel : decode cX1_readSum 69 = .ok (.iconst 0, 1)) ?_
    exact r_zret h rfl (by decide) (by decide +kernel : decode cX1_readSum 70 = .ok (.ireturn, 1)) rfl ⟨rfl, _, rfl, H⟩
set_option maxHeartbeats 4000000 in
set_option maxRecDepth 100000 in
theorem w_Law_readProduct_0 {dd : Nat} {P : Int → Mm → Prop} {K : Nat → Rr → Nat → List (Nat × AV) → List AV → Mm → Prop} (h : EK shC yX1_readProduct cX1_readProduct 4 (some .boolean) (dd + 1) NN NN (QI RRC P) K) (hdd : 8 ≤ dd) (b : Nat) (hb : At shC NN b (.inl 0)) (b1 : Nat) (hb1 : At shC NN b1 (.inl 6)) (x2 : Int) (M : Mm)
    (H : ∃ P1 : Int → Mm → Prop, S_Law_readPart dd b b1 x2 M P1 ∧ ∀ (r1 : Int) (M1 : Mm), P1 r1 M1 → (rng r1) ∧ (r1 ≠ 0 → (K NN RRC 13 [(0, vr b), (1, vr b1), (2, vi x2), (3, vi 0)] [] M1)) ∧ (r1 = 0 → (P 0 M1))) :
    K NN RRC 0 [(0, vr b), (1, vr b1), (2, vi x2)] [] M := by
  refine r_aloadn h (q := 0) 0 rfl (by decide +kernel : decode cX1_readProduct 0 = .ok (.aload_n 0, 1)) ?_
  refine r_aloadn h (q := 1) 1 rfl (by decide +kernel : decode cX1_readProduct 1 = .ok (.aload_n 1, 1)) ?_
  refine r_iloadn h (q := 2) 2 rfl (by decide +kernel : decode cX1_readProduct 2 = .ok (.iload_n 2, 1)) ?_
  obtain ⟨P1, hSP1, H⟩ := H
  refine r_callV h (as := [vr b1, vi x2]) (S := []) (b := b) m_Law_64 hSP1 (Nat.le_refl _) (Nat.le_refl _) rfl hb rfl (Nat.le_of_ble_eq_true rfl) (by decide +kernel : decode cX1_readProduct 3 = .ok (.invokevirtual 64, 3)) ?_
  rintro _ _ M1 ⟨rfl, r1, rfl, hP⟩
  have H := H r1 M1 hP
  show K NN RRC _ _ [vi r1] _
  obtain ⟨g1, H⟩ := H
  obtain ⟨H1, H2⟩ := H
  refine r_if_ne h 11 g1 (by decide) (by decide +kernel : decode cX1_readProduct 6 = .ok (.ifCond .ne 5, 3)) (fun hc => ?_) (fun hc => ?_)
  · have H := H1 hc
    refine r_iconst h (v := 0) (by decide +kernel : decode cX1_readProduct 11 = .ok (.iconst 0, 1)) ?_
    refine r_istoren h (q := 3) (L' := [(3, vi 0), (0, vr b), (1, vr b1), (2, vi x2)]) (by decide) rfl (by decide +kernel : decode cX1_readProduct 12 = .ok (.istore_n 3, 1)) ?_
    refine r_drop h [1, 2, 3, 0] rfl ?_
    exact H
  · have H := H2 hc
    refine r_iconst h (v := 0) (by decide +kernel : decode cX1_readProduct 9 = .ok (.iconst 0, 1)) ?_
    exact r_zret h rfl (by decide) (by decide +kernel : decode cX1_readProduct 10 = .ok (.ireturn, 1)) rfl ⟨rfl, _, rfl, H⟩
set_option maxHeartbeats 4000000 in
set_option maxRecDepth 100000 in
theorem w_Law_readProduct_13 {dd : Nat} {P : Int → Mm → Prop} {K : Nat → Rr → Nat → List (Nat × AV) → List AV → Mm → Prop} (h : EK shC yX1_readProduct cX1_readProduct 4 (some .boolean) (dd + 1) NN NN (QI RRC P) K) (hdd : 8 ≤ dd) (b : Nat) (hb : At shC NN b (.inl 0)) (b1 : Nat) (hb1 : At shC NN b1 (.inl 6)) (x2 : Int) (x3 : Int) (M : Mm)
    (H : (rng x3) ∧ (1000 ≤ x3 → (P 1 M)) ∧ (¬ (1000 ≤ x3) → (∃ P1 : Int → Mm → Prop, S_Tape_isSign b1 42 M P1 ∧ ∀ (r1 : Int) (M1 : Mm), P1 r1 M1 → (rng r1) ∧ (r1 = 0 → (P 1 M1)) ∧ (r1 ≠ 0 → (∃ P2 : Mm → Prop, S_Tape_advance b1 M1 P2 ∧ ∀ M2 : Mm, P2 M2 → ∃ P3 : Int → Mm → Prop, S_Law_readPart dd b b1 x2 M2 P3 ∧ ∀ (r3 : Int) (M3 : Mm), P3 r3 M3 → (rng r3) ∧ (r3 ≠ 0 → (∃ P4 : Mm → Prop, S_Law_add b (-2) M3 P4 ∧ ∀ M4 : Mm, P4 M4 → K NN RRC 13 [(0, vr b), (1, vr b1), (2, vi x2), (3, vi (x3 + 1))] [] M4)) ∧ (r3 = 0 → (P 0 M3))))))) :
    K NN RRC 13 [(0, vr b), (1, vr b1), (2, vi x2), (3, vi x3)] [] M := by
  refine r_iloadn h (q := 3) 3 rfl (by decide +kernel : decode cX1_readProduct 13 = .ok (.iload_n 3, 1)) ?_
  refine r_sipush h (v := 1000) (by decide) (by decide +kernel : decode cX1_readProduct 14 = .ok (.sipush 1000, 3)) ?_
  obtain ⟨g1, H⟩ := H
  obtain ⟨H1, H2⟩ := H
  refine r_icmp_ge h 56 g1 (by decide) (by decide) (by decide +kernel : decode cX1_readProduct 17 = .ok (.if_icmp .ge 39, 3)) (fun hc => ?_) (fun hc => ?_)
  · have H := H1 hc
    refine r_iconst h (v := 1) (by decide +kernel : decode cX1_readProduct 56 = .ok (.iconst 1, 1)) ?_
    exact r_zret h rfl (by decide) (by decide +kernel : decode cX1_readProduct 57 = .ok (.ireturn, 1)) rfl ⟨rfl, _, rfl, H⟩
  · have H := H2 hc
    refine r_aloadn h (q := 1) 1 rfl (by decide +kernel : decode cX1_readProduct 20 = .ok (.aload_n 1, 1)) ?_
    refine r_bipush h (v := 42) (by decide) (by decide +kernel : decode cX1_readProduct 21 = .ok (.bipush 42, 2)) ?_
    obtain ⟨P1, hSP1, H⟩ := H
    refine r_callV h (as := [vi 42]) (S := []) (b := b1) m_Law_57 hSP1 (by omega) (Nat.le_refl _) rfl hb1 rfl (Nat.le_of_ble_eq_true rfl) (by decide +kernel : decode cX1_readProduct 23 = .ok (.invokevirtual 57, 3)) ?_
    rintro _ _ M1 ⟨rfl, r1, rfl, hP⟩
    have H := H r1 M1 hP
    show K NN RRC _ _ [vi r1] _
    obtain ⟨g1, H⟩ := H
    obtain ⟨H1, H2⟩ := H
    refine r_if_eq h 56 g1 (by decide) (by decide +kernel : decode cX1_readProduct 26 = .ok (.ifCond .eq 30, 3)) (fun hc => ?_) (fun hc => ?_)
    · have H := H1 hc
      refine r_iconst h (v := 1) (by decide +kernel : decode cX1_readProduct 56 = .ok (.iconst 1, 1)) ?_
      exact r_zret h rfl (by decide) (by decide +kernel : decode cX1_readProduct 57 = .ok (.ireturn, 1)) rfl ⟨rfl, _, rfl, H⟩
    · have H := H2 hc
      refine r_aloadn h (q := 1) 1 rfl (by decide +kernel : decode cX1_readProduct 29 = .ok (.aload_n 1, 1)) ?_
      obtain ⟨P2, hSP2, H⟩ := H
      refine r_callV h (as := []) (S := []) (b := b1) m_Law_47 hSP2 (by omega) (Nat.le_refl _) rfl hb1 rfl (Nat.le_of_ble_eq_true rfl) (by decide +kernel : decode cX1_readProduct 30 = .ok (.invokevirtual 47, 3)) ?_
      rintro _ _ M2 ⟨rfl, rfl, hP⟩
      have H := H M2 hP
      show K NN RRC _ _ [] _
      refine r_aloadn h (q := 0) 0 rfl (by decide +kernel : decode cX1_readProduct 33 = .ok (.aload_n 0, 1)) ?_
      refine r_aloadn h (q := 1) 1 rfl (by decide +kernel : decode cX1_readProduct 34 = .ok (.aload_n 1, 1)) ?_
      refine r_iloadn h (q := 2) 2 rfl (by decide +kernel : decode cX1_readProduct 35 = .ok (.iload_n 2, 1)) ?_
      obtain ⟨P3, hSP3, H⟩ := H
      refine r_callV h (as := [vr b1, vi x2]) (S := []) (b := b) m_Law_64 hSP3 (Nat.le_refl _) (Nat.le_refl _) rfl hb rfl (Nat.le_of_ble_eq_true rfl) (by decide +kernel : decode cX1_readProduct 36 = .ok (.invokevirtual 64, 3)) ?_
      rintro _ _ M3 ⟨rfl, r3, rfl, hP⟩
      have H := H r3 M3 hP
      show K NN RRC _ _ [vi r3] _
      obtain ⟨g1, H⟩ := H
      obtain ⟨H1, H2⟩ := H
      refine r_if_ne h 44 g1 (by decide) (by decide +kernel : decode cX1_readProduct 39 = .ok (.ifCond .ne 5, 3)) (fun hc => ?_) (fun hc => ?_)
      · have H := H1 hc
        refine r_aloadn h (q := 0) 0 rfl (by decide +kernel : decode cX1_readProduct 44 = .ok (.aload_n 0, 1)) ?_
        refine r_bipush h (v := (-2)) (by decide) (by decide +kernel : decode cX1_readProduct 45 = .ok (.bipush (-2), 2)) ?_
        obtain ⟨P4, hSP4, H⟩ := H
        refine r_callV h (as := [vi (-2)]) (S := []) (b := b) m_Law_50 hSP4 (by omega) (Nat.le_refl _) rfl hb rfl (Nat.le_of_ble_eq_true rfl) (by decide +kernel : decode cX1_readProduct 47 = .ok (.invokevirtual 50, 3)) ?_
        rintro _ _ M4 ⟨rfl, rfl, hP⟩
        have H := H M4 hP
        show K NN RRC _ _ [] _
        refine r_iinc h (i := 3) (v := 1) (L' := [(3, vi (x3 + 1)), (0, vr b), (1, vr b1), (2, vi x2)]) 3 rfl (by decide) rfl (by decide +kernel : decode cX1_readProduct 50 = .ok (.iinc 3 1, 3)) ?_
        refine r_goto h 13 (by decide) (by decide +kernel : decode cX1_readProduct 53 = .ok (.goto (-40), 3)) ?_
        refine r_drop h [1, 2, 3, 0] rfl ?_
        exact H
      · have H := H2 hc
        refine r_iconst h (v := 0) (by decide +kernel : decode cX1_readProduct 42 = .ok (.iconst 0, 1)) ?_
        exact r_zret h rfl (by decide) (by decide +kernel : decode cX1_readProduct 43 = .ok (.ireturn, 1)) rfl ⟨rfl, _, rfl, H⟩
set_option maxHeartbeats 4000000 in
set_option maxRecDepth 100000 in
theorem w_Law_readPart_0 {dd : Nat} {P : Int → Mm → Prop} {K : Nat → Rr → Nat → List (Nat × AV) → List AV → Mm → Prop} (h : EK shC yX1_readPart cX1_readPart 6 (some .boolean) (dd + 1) NN NN (QI RRC P) K) (hdd : 9 ≤ dd) (b : Nat) (hb : At shC NN b (.inl 0)) (b1 : Nat) (hb1 : At shC NN b1 (.inl 6)) (x2 : Int) (M : Mm)
    (H : (rng (M b1 5)) ∧ ((M b1 5) ≠ 3 → (∃ k101 : Nat, M b1 6 = (k101 : Int) + 1 ∧ k101 < 27 ∧ ∃ P1 : Int → Mm → Prop, S_Law_factCode b k101 M P1 ∧ ∀ (r1 : Int) (M1 : Mm), P1 r1 M1 → K NN RRC 23 [(0, vr b), (1, vr b1), (2, vi x2)] [vi r1] M1)) ∧ ((M b1 5) = 3 → (K NN RRC 23 [(0, vr b), (1, vr b1), (2, vi x2)] [vi (M b1 8)] M))) :
    K NN RRC 0 [(0, vr b), (1, vr b1), (2, vi x2)] [] M := by
  refine r_aloadn h (q := 1) 1 rfl (by decide +kernel : decode cX1_readPart 0 = .ok (.aload_n 1, 1)) ?_
  refine r_getI h f_Law_67 hb1 (by decide +kernel : decode cX1_readPart 1 = .ok (.getfield 67, 3)) ?_
  refine r_iconst h (v := 3) (by decide +kernel : decode cX1_readPart 4 = .ok (.iconst 3, 1)) ?_
  obtain ⟨g1, H⟩ := H
  obtain ⟨H1, H2⟩ := H
  refine r_icmp_ne h 15 g1 (by decide) (by decide) (by decide +kernel : decode cX1_readPart 5 = .ok (.if_icmp .ne 10, 3)) (fun hc => ?_) (fun hc => ?_)
  · have H := H1 hc
    refine r_aloadn h (q := 0) 0 rfl (by decide +kernel : decode cX1_readPart 15 = .ok (.aload_n 0, 1)) ?_
    refine r_aloadn h (q := 1) 1 rfl (by decide +kernel : decode cX1_readPart 16 = .ok (.aload_n 1, 1)) ?_
    obtain ⟨k101, htk101, hlk101, H⟩ := H
    refine r_getE h (r := k101) f_Law_33 hb1 htk101 (by decide +kernel : decode cX1_readPart 17 = .ok (.getfield 33, 3)) ?_
    obtain ⟨P1, hSP1, H⟩ := H
    refine r_callV h (as := [ve k101]) (S := []) (b := b) m_Law_73 hSP1 (by omega) (Nat.le_refl _) rfl hb rfl (Nat.le_of_ble_eq_true rfl) (by decide +kernel : decode cX1_readPart 20 = .ok (.invokevirtual 73, 3)) ?_
    rintro _ _ M1 ⟨rfl, r1, rfl, hP⟩
    have H := H r1 M1 hP
    show K NN RRC _ _ [vi r1] _
    exact H
  · have H := H2 hc
    refine r_aloadn h (q := 1) 1 rfl (by decide +kernel : decode cX1_readPart 8 = .ok (.aload_n 1, 1)) ?_
    refine r_getI h f_Law_70 hb1 (by decide +kernel : decode cX1_readPart 9 = .ok (.getfield 70, 3)) ?_
    refine r_goto h 23 (by decide) (by decide +kernel : decode cX1_readPart 12 = .ok (.goto 11, 3)) ?_
    exact H
set_option maxHeartbeats 4000000 in
set_option maxRecDepth 100000 in
theorem w_Law_readPart_23 {dd : Nat} {P : Int → Mm → Prop} {K : Nat → Rr → Nat → List (Nat × AV) → List AV → Mm → Prop} (h : EK shC yX1_readPart cX1_readPart 6 (some .boolean) (dd + 1) NN NN (QI RRC P) K) (hdd : 9 ≤ dd) (b : Nat) (hb : At shC NN b (.inl 0)) (b1 : Nat) (hb1 : At shC NN b1 (.inl 6)) (x2 : Int) (s0 : Int) (M : Mm)
    (H : ∃ P1 : Int → Mm → Prop, S_Tape_isSign b1 40 M P1 ∧ ∀ (r1 : Int) (M1 : Mm), P1 r1 M1 → ∃ k101 : Nat, M1 b1 6 = (k101 : Int) + 1 ∧ k101 < 27 ∧ (k101 ≠ 19 → (K NN RRC 47 [(0, vr b), (1, vr b1), (2, vi x2), (3, vi s0), (4, vi r1)] [vi 0] M1)) ∧ (k101 = 19 → (K NN RRC 47 [(0, vr b), (1, vr b1), (2, vi x2), (3, vi s0), (4, vi r1)] [vi 1] M1))) :
    K NN RRC 23 [(0, vr b), (1, vr b1), (2, vi x2)] [vi s0] M := by
  refine r_istoren h (q := 3) (L' := [(3, vi s0), (0, vr b), (1, vr b1), (2, vi x2)]) (by decide) rfl (by decide +kernel : decode cX1_readPart 23 = .ok (.istore_n 3, 1)) ?_
  refine r_aloadn h (q := 1) 2 rfl (by decide +kernel : decode cX1_readPart 24 = .ok (.aload_n 1, 1)) ?_
  refine r_bipush h (v := 40) (by decide) (by decide +kernel : decode cX1_readPart 25 = .ok (.bipush 40, 2)) ?_
  obtain ⟨P1, hSP1, H⟩ := H
  refine r_callV h (as := [vi 40]) (S := []) (b := b1) m_Law_57 hSP1 (by omega) (Nat.le_refl _) rfl hb1 rfl (Nat.le_of_ble_eq_true rfl) (by decide +kernel : decode cX1_readPart 27 = .ok (.invokevirtual 57, 3)) ?_
  rintro _ _ M1 ⟨rfl, r1, rfl, hP⟩
  have H := H r1 M1 hP
  show K NN RRC _ _ [vi r1] _
  refine r_istore h (L' := [(4, vi r1), (3, vi s0), (0, vr b), (1, vr b1), (2, vi x2)]) (by decide) rfl (by decide +kernel : decode cX1_readPart 30 = .ok (.istore 4, 2)) ?_
  refine r_aloadn h (q := 1) 3 rfl (by decide +kernel : decode cX1_readPart 32 = .ok (.aload_n 1, 1)) ?_
  obtain ⟨k101, htk101, hlk101, H⟩ := H
  refine r_getE h (r := k101) f_Law_33 hb1 htk101 (by decide +kernel : decode cX1_readPart 33 = .ok (.getfield 33, 3)) ?_
  refine r_getS h zF_19 rfl (inT3 214 rfl rfl) (by decide +kernel : decode cX1_readPart 36 = .ok (.getstatic 77, 3)) ?_
  obtain ⟨H1, H2⟩ := H
  refine r_acmp_ne h 46 hlk101 (by decide) (by decide) (by decide +kernel : decode cX1_readPart 39 = .ok (.if_acmp .ne 7, 3)) (fun hc => ?_) (fun hc => ?_)
  · have H := H1 hc
    refine r_iconst h (v := 0) (by decide +kernel : decode cX1_readPart 46 = .ok (.iconst 0, 1)) ?_
    refine r_drop h [2, 3, 4, 1, 0] rfl ?_
    exact H
  · have H := H2 hc
    refine r_iconst h (v := 1) (by decide +kernel : decode cX1_readPart 42 = .ok (.iconst 1, 1)) ?_
    refine r_goto h 47 (by decide) (by decide +kernel : decode cX1_readPart 43 = .ok (.goto 4, 3)) ?_
    refine r_drop h [2, 3, 4, 1, 0] rfl ?_
    exact H
set_option maxHeartbeats 4000000 in
set_option maxRecDepth 100000 in
theorem w_Law_readPart_47 {dd : Nat} {P : Int → Mm → Prop} {K : Nat → Rr → Nat → List (Nat × AV) → List AV → Mm → Prop} (h : EK shC yX1_readPart cX1_readPart 6 (some .boolean) (dd + 1) NN NN (QI RRC P) K) (hdd : 9 ≤ dd) (b : Nat) (hb : At shC NN b (.inl 0)) (b1 : Nat) (hb1 : At shC NN b1 (.inl 6)) (x2 : Int) (x3 : Int) (x4 : Int) (s0 : Int) (M : Mm)
    (H : (rng x3) ∧ (x3 ≠ (-14) → (K NN RRC 71 [(0, vr b), (1, vr b1), (2, vi x2), (3, vi x3), (4, vi x4), (5, vi s0)] [] M)) ∧ (x3 = (-14) → ((rng x4) ∧ (x4 ≠ 0 → (K NN RRC 71 [(0, vr b), (1, vr b1), (2, vi x2), (3, vi x3), (4, vi x4), (5, vi s0)] [] M)) ∧ (x4 = 0 → ((rng s0) ∧ (s0 ≠ 0 → (K NN RRC 71 [(0, vr b), (1, vr b1), (2, vi x2), (3, vi x3), (4, vi x4), (5, vi s0)] [] M)) ∧ (s0 = 0 → (∃ P1 : Int → Mm → Prop, S_Tape_fail b1 1 M P1 ∧ ∀ (r1 : Int) (M1 : Mm), P1 r1 M1 → (r1 = 0 ∨ r1 = 1) ∧ P r1 M1))))))) :
    K NN RRC 47 [(0, vr b), (1, vr b1), (2, vi x2), (3, vi x3), (4, vi x4)] [vi s0] M := by
  refine r_istore h (L' := [(5, vi s0), (0, vr b), (1, vr b1), (2, vi x2), (3, vi x3), (4, vi x4)]) (by decide) rfl (by decide +kernel : decode cX1_readPart 47 = .ok (.istore 5, 2)) ?_
  refine r_iloadn h (q := 3) 4 rfl (by decide +kernel : decode cX1_readPart 49 = .ok (.iload_n 3, 1)) ?_
  refine r_bipush h (v := (-14)) (by decide) (by decide +kernel : decode cX1_readPart 50 = .ok (.bipush (-14), 2)) ?_
  obtain ⟨g1, H⟩ := H
  obtain ⟨H1, H2⟩ := H
  refine r_icmp_ne h 71 g1 (by decide) (by decide) (by decide +kernel : decode cX1_readPart 52 = .ok (.if_icmp .ne 19, 3)) (fun hc => ?_) (fun hc => ?_)
  · have H := H1 hc
    refine r_drop h [1, 2, 3, 4, 5, 0] rfl ?_
    exact H
  · have H := H2 hc
    refine r_iload h 5 rfl (by decide +kernel : decode cX1_readPart 55 = .ok (.iload 4, 2)) ?_
    obtain ⟨g1, H⟩ := H
    obtain ⟨H1, H2⟩ := H
    refine r_if_ne h 71 g1 (by decide) (by decide +kernel : decode cX1_readPart 57 = .ok (.ifCond .ne 14, 3)) (fun hc => ?_) (fun hc => ?_)
    · have H := H1 hc
      refine r_drop h [1, 2, 3, 4, 5, 0] rfl ?_
      exact H
    · have H := H2 hc
      refine r_iload h 0 rfl (by decide +kernel : decode cX1_readPart 60 = .ok (.iload 5, 2)) ?_
      obtain ⟨g1, H⟩ := H
      obtain ⟨H1, H2⟩ := H
      refine r_if_ne h 71 g1 (by decide) (by decide +kernel : decode cX1_readPart 62 = .ok (.ifCond .ne 9, 3)) (fun hc => ?_) (fun hc => ?_)
      · have H := H1 hc
        refine r_drop h [1, 2, 3, 4, 5, 0] rfl ?_
        exact H
      · have H := H2 hc
        refine r_aloadn h (q := 1) 2 rfl (by decide +kernel : decode cX1_readPart 65 = .ok (.aload_n 1, 1)) ?_
        refine r_iconst h (v := 1) (by decide +kernel : decode cX1_readPart 66 = .ok (.iconst 1, 1)) ?_
        obtain ⟨P1, hSP1, H⟩ := H
        refine r_callV h (as := [vi 1]) (S := []) (b := b1) m_Law_80 hSP1 (by omega) (Nat.le_refl _) rfl hb1 rfl (Nat.le_of_ble_eq_true rfl) (by decide +kernel : decode cX1_readPart 67 = .ok (.invokevirtual 80, 3)) ?_
        rintro _ _ M1 ⟨rfl, r1, rfl, hP⟩
        have H := H r1 M1 hP
        show K NN RRC _ _ [vi r1] _
        exact r_zret h rfl H.1 (by decide +kernel : decode cX1_readPart 70 = .ok (.ireturn, 1)) rfl ⟨rfl, _, rfl, H.2⟩
set_option maxHeartbeats 4000000 in
set_option maxRecDepth 100000 in
theorem w_Law_readPart_71 {dd : Nat} {P : Int → Mm → Prop} {K : Nat → Rr → Nat → List (Nat × AV) → List AV → Mm → Prop} (h : EK shC yX1_readPart cX1_readPart 6 (some .boolean) (dd + 1) NN NN (QI RRC P) K) (hdd : 9 ≤ dd) (b : Nat) (hb : At shC NN b (.inl 0)) (b1 : Nat) (hb1 : At shC NN b1 (.inl 6)) (x2 : Int) (x3 : Int) (x4 : Int) (x5 : Int) (M : Mm)
    (H : (rng x2) ∧ (x2 < 5 → (∃ P1 : Mm → Prop, S_Tape_advance b1 M P1 ∧ ∀ M1 : Mm, P1 M1 → (rng x4) ∧ (x4 = 0 → ((rng x5) ∧ (x5 = 0 → (K NN RRC 135 [(0, vr b), (3, vi x3), (5, vi x5)] [] M1)) ∧ (x5 ≠ 0 → (∃ P2 : Int → Mm → Prop, S_Law_readPart dd b b1 (x2 + 1) M1 P2 ∧ ∀ (r2 : Int) (M2 : Mm), P2 r2 M2 → (rng r2) ∧ (r2 ≠ 0 → (K NN RRC 135 [(0, vr b), (3, vi x3), (5, vi x5)] [] M2)) ∧ (r2 = 0 → (P 0 M2)))))) ∧ (x4 ≠ 0 → (∃ P3 : Int → Mm → Prop, S_Law_readE dd b b1 (x2 + 1) M1 P3 ∧ ∀ (r3 : Int) (M3 : Mm), P3 r3 M3 → (rng r3) ∧ (r3 = 0 → (P 0 M3)) ∧ (r3 ≠ 0 → (∃ P4 : Int → Mm → Prop, S_Tape_takeSign b1 41 M3 P4 ∧ ∀ (r4 : Int) (M4 : Mm), P4 r4 M4 → (rng r4) ∧ (r4 = 0 → (P 0 M4)) ∧ (r4 ≠ 0 → (P 1 M4)))))))) ∧ (¬ (x2 < 5) → (∃ P5 : Int → Mm → Prop, S_Tape_fail b1 5 M P5 ∧ ∀ (r5 : Int) (M5 : Mm), P5 r5 M5 → (r5 = 0 ∨ r5 = 1) ∧ P r5 M5))) :
    K NN RRC 71 [(0, vr b), (1, vr b1), (2, vi x2), (3, vi x3), (4, vi x4), (5, vi x5)] [] M := by
  refine r_iloadn h (q := 2) 2 rfl (by decide +kernel : decode cX1_readPart 71 = .ok (.iload_n 2, 1)) ?_
  refine r_iconst h (v := 5) (by decide +kernel : decode cX1_readPart 72 = .ok (.iconst 5, 1)) ?_
  obtain ⟨g1, H⟩ := H
  obtain ⟨H1, H2⟩ := H
  refine r_icmp_lt h 82 g1 (by decide) (by decide) (by decide +kernel : decode cX1_readPart 73 = .ok (.if_icmp .lt 9, 3)) (fun hc => ?_) (fun hc => ?_)
  · have H := H1 hc
    refine r_aloadn h (q := 1) 1 rfl (by decide +kernel : decode cX1_readPart 82 = .ok (.aload_n 1, 1)) ?_
    obtain ⟨P1, hSP1, H⟩ := H
    refine r_callV h (as := []) (S := []) (b := b1) m_Law_47 hSP1 (by omega) (Nat.le_refl _) rfl hb1 rfl (Nat.le_of_ble_eq_true rfl) (by decide +kernel : decode cX1_readPart 83 = .ok (.invokevirtual 47, 3)) ?_
    rintro _ _ M1 ⟨rfl, rfl, hP⟩
    have H := H M1 hP
    show K NN RRC _ _ [] _
    refine r_iload h 4 rfl (by decide +kernel : decode cX1_readPart 86 = .ok (.iload 4, 2)) ?_
    obtain ⟨g1, H⟩ := H
    obtain ⟨H1, H2⟩ := H
    refine r_if_eq h 117 g1 (by decide) (by decide +kernel : decode cX1_readPart 88 = .ok (.ifCond .eq 29, 3)) (fun hc => ?_) (fun hc => ?_)
    · have H := H1 hc
      refine r_iload h 5 rfl (by decide +kernel : decode cX1_readPart 117 = .ok (.iload 5, 2)) ?_
      obtain ⟨g1, H⟩ := H
      obtain ⟨H1, H2⟩ := H
      refine r_if_eq h 135 g1 (by decide) (by decide +kernel : decode cX1_readPart 119 = .ok (.ifCond .eq 16, 3)) (fun hc => ?_) (fun hc => ?_)
      · have H := H1 hc
        refine r_drop h [0, 3, 5] rfl ?_
        exact H
      · have H := H2 hc
        refine r_aloadn h (q := 0) 0 rfl (by decide +kernel : decode cX1_readPart 122 = .ok (.aload_n 0, 1)) ?_
        refine r_aloadn h (q := 1) 1 rfl (by decide +kernel : decode cX1_readPart 123 = .ok (.aload_n 1, 1)) ?_
        refine r_iloadn h (q := 2) 2 rfl (by decide +kernel : decode cX1_readPart 124 = .ok (.iload_n 2, 1)) ?_
        refine r_iconst h (v := 1) (by decide +kernel : decode cX1_readPart 125 = .ok (.iconst 1, 1)) ?_
        refine r_iadd h (by decide +kernel : decode cX1_readPart 126 = .ok (.iadd, 1)) ?_
        obtain ⟨P2, hSP2, H⟩ := H
        refine r_callV h (as := [vr b1, vi (x2 + 1)]) (S := []) (b := b) m_Law_64 hSP2 (Nat.le_refl _) (Nat.le_refl _) rfl hb rfl (Nat.le_of_ble_eq_true rfl) (by decide +kernel : decode cX1_readPart 127 = .ok (.invokevirtual 64, 3)) ?_
        rintro _ _ M2 ⟨rfl, r2, rfl, hP⟩
        have H := H r2 M2 hP
        show K NN RRC _ _ [vi r2] _
        obtain ⟨g1, H⟩ := H
        obtain ⟨H1, H2⟩ := H
        refine r_if_ne h 135 g1 (by decide) (by decide +kernel : decode cX1_readPart 130 = .ok (.ifCond .ne 5, 3)) (fun hc => ?_) (fun hc => ?_)
        · have H := H1 hc
          refine r_drop h [0, 3, 5] rfl ?_
          exact H
        · have H := H2 hc
          refine r_iconst h (v := 0) (by decide +kernel : decode cX1_readPart 133 = .ok (.iconst 0, 1)) ?_
          exact r_zret h rfl (by decide) (by decide +kernel : decode cX1_readPart 134 = .ok (.ireturn, 1)) rfl ⟨rfl, _, rfl, H⟩
    · have H := H2 hc
      refine r_aloadn h (q := 0) 0 rfl (by decide +kernel : decode cX1_readPart 91 = .ok (.aload_n 0, 1)) ?_
      refine r_aloadn h (q := 1) 1 rfl (by decide +kernel : decode cX1_readPart 92 = .ok (.aload_n 1, 1)) ?_
      refine r_iloadn h (q := 2) 2 rfl (by decide +kernel : decode cX1_readPart 93 = .ok (.iload_n 2, 1)) ?_
      refine r_iconst h (v := 1) (by decide +kernel : decode cX1_readPart 94 = .ok (.iconst 1, 1)) ?_
      refine r_iadd h (by decide +kernel : decode cX1_readPart 95 = .ok (.iadd, 1)) ?_
      obtain ⟨P3, hSP3, H⟩ := H
      refine r_callV h (as := [vr b1, vi (x2 + 1)]) (S := []) (b := b) m_Law_26 hSP3 (Nat.le_refl _) (Nat.le_refl _) rfl hb rfl (Nat.le_of_ble_eq_true rfl) (by decide +kernel : decode cX1_readPart 96 = .ok (.invokevirtual 26, 3)) ?_
      rintro _ _ M3 ⟨rfl, r3, rfl, hP⟩
      have H := H r3 M3 hP
      show K NN RRC _ _ [vi r3] _
      obtain ⟨g1, H⟩ := H
      obtain ⟨H1, H2⟩ := H
      refine r_if_eq h 115 g1 (by decide) (by decide +kernel : decode cX1_readPart 99 = .ok (.ifCond .eq 16, 3)) (fun hc => ?_) (fun hc => ?_)
      · have H := H1 hc
        refine r_iconst h (v := 0) (by decide +kernel : decode cX1_readPart 115 = .ok (.iconst 0, 1)) ?_
        exact r_zret h rfl (by decide) (by decide +kernel : decode cX1_readPart 116 = .ok (.ireturn, 1)) rfl ⟨rfl, _, rfl, H⟩
      · have H := H2 hc
        refine r_aloadn h (q := 1) 1 rfl (by decide +kernel : decode cX1_readPart 102 = .ok (.aload_n 1, 1)) ?_
        refine r_bipush h (v := 41) (by decide) (by decide +kernel : decode cX1_readPart 103 = .ok (.bipush 41, 2)) ?_
        obtain ⟨P4, hSP4, H⟩ := H
        refine r_callV h (as := [vi 41]) (S := []) (b := b1) m_Law_83 hSP4 (by omega) (Nat.le_refl _) rfl hb1 rfl (Nat.le_of_ble_eq_true rfl) (by decide +kernel : decode cX1_readPart 105 = .ok (.invokevirtual 83, 3)) ?_
        rintro _ _ M4 ⟨rfl, r4, rfl, hP⟩
        have H := H r4 M4 hP
        show K NN RRC _ _ [vi r4] _
        obtain ⟨g1, H⟩ := H
        obtain ⟨H1, H2⟩ := H
        refine r_if_eq h 115 g1 (by decide) (by decide +kernel : decode cX1_readPart 108 = .ok (.ifCond .eq 7, 3)) (fun hc => ?_) (fun hc => ?_)
        · have H := H1 hc
          refine r_iconst h (v := 0) (by decide +kernel : decode cX1_readPart 115 = .ok (.iconst 0, 1)) ?_
          exact r_zret h rfl (by decide) (by decide +kernel : decode cX1_readPart 116 = .ok (.ireturn, 1)) rfl ⟨rfl, _, rfl, H⟩
        · have H := H2 hc
          refine r_iconst h (v := 1) (by decide +kernel : decode cX1_readPart 111 = .ok (.iconst 1, 1)) ?_
          refine r_goto h 116 (by decide) (by decide +kernel : decode cX1_readPart 112 = .ok (.goto 4, 3)) ?_
          exact r_zret h rfl (by decide) (by decide +kernel : decode cX1_readPart 116 = .ok (.ireturn, 1)) rfl ⟨rfl, _, rfl, H⟩
  · have H := H2 hc
    refine r_aloadn h (q := 1) 1 rfl (by decide +kernel : decode cX1_readPart 76 = .ok (.aload_n 1, 1)) ?_
    refine r_iconst h (v := 5) (by decide +kernel : decode cX1_readPart 77 = .ok (.iconst 5, 1)) ?_
    obtain ⟨P5, hSP5, H⟩ := H
    refine r_callV h (as := [vi 5]) (S := []) (b := b1) m_Law_80 hSP5 (by omega) (Nat.le_refl _) rfl hb1 rfl (Nat.le_of_ble_eq_true rfl) (by decide +kernel : decode cX1_readPart 78 = .ok (.invokevirtual 80, 3)) ?_
    rintro _ _ M5 ⟨rfl, r5, rfl, hP⟩
    have H := H r5 M5 hP
    show K NN RRC _ _ [vi r5] _
    exact r_zret h rfl H.1 (by decide +kernel : decode cX1_readPart 81 = .ok (.ireturn, 1)) rfl ⟨rfl, _, rfl, H.2⟩
set_option maxHeartbeats 4000000 in
set_option maxRecDepth 100000 in
theorem w_Law_readPart_135 {dd : Nat} {P : Int → Mm → Prop} {K : Nat → Rr → Nat → List (Nat × AV) → List AV → Mm → Prop} (h : EK shC yX1_readPart cX1_readPart 6 (some .boolean) (dd + 1) NN NN (QI RRC P) K) (hdd : 9 ≤ dd) (b : Nat) (hb : At shC NN b (.inl 0)) (x3 : Int) (x5 : Int) (M : Mm)
    (H : (rng x5) ∧ (x5 = 0 → (∃ P1 : Mm → Prop, S_Law_add b x3 M P1 ∧ ∀ M1 : Mm, P1 M1 → P 1 M1)) ∧ (x5 ≠ 0 → (∃ P2 : Mm → Prop, S_Law_add b (-1) M P2 ∧ ∀ M2 : Mm, P2 M2 → P 1 M2))) :
    K NN RRC 135 [(0, vr b), (3, vi x3), (5, vi x5)] [] M := by
  refine r_aloadn h (q := 0) 0 rfl (by decide +kernel : decode cX1_readPart 135 = .ok (.aload_n 0, 1)) ?_
  refine r_iload h 2 rfl (by decide +kernel : decode cX1_readPart 136 = .ok (.iload 5, 2)) ?_
  obtain ⟨g1, H⟩ := H
  obtain ⟨H1, H2⟩ := H
  refine r_if_eq h 145 g1 (by decide) (by decide +kernel : decode cX1_readPart 138 = .ok (.ifCond .eq 7, 3)) (fun hc => ?_) (fun hc => ?_)
  · have H := H1 hc
    refine r_iloadn h (q := 3) 1 rfl (by decide +kernel : decode cX1_readPart 145 = .ok (.iload_n 3, 1)) ?_
    obtain ⟨P1, hSP1, H⟩ := H
    refine r_callV h (as := [vi x3]) (S := []) (b := b) m_Law_50 hSP1 (by omega) (Nat.le_refl _) rfl hb rfl (Nat.le_of_ble_eq_true rfl) (by decide +kernel : decode cX1_readPart 146 = .ok (.invokevirtual 50, 3)) ?_
    rintro _ _ M1 ⟨rfl, rfl, hP⟩
    have H := H M1 hP
    show K NN RRC _ _ [] _
    refine r_iconst h (v := 1) (by decide +kernel : decode cX1_readPart 149 = .ok (.iconst 1, 1)) ?_
    exact r_zret h rfl (by decide) (by decide +kernel : decode cX1_readPart 150 = .ok (.ireturn, 1)) rfl ⟨rfl, _, rfl, H⟩
  · have H := H2 hc
    refine r_iconst h (v := (-1)) (by decide +kernel : decode cX1_readPart 141 = .ok (.iconst (-1), 1)) ?_
    refine r_goto h 146 (by decide) (by decide +kernel : decode cX1_readPart 142 = .ok (.goto 4, 3)) ?_
    obtain ⟨P2, hSP2, H⟩ := H
    refine r_callV h (as := [vi (-1)]) (S := []) (b := b) m_Law_50 hSP2 (by omega) (Nat.le_refl _) rfl hb rfl (Nat.le_of_ble_eq_true rfl) (by decide +kernel : decode cX1_readPart 146 = .ok (.invokevirtual 50, 3)) ?_
    rintro _ _ M2 ⟨rfl, rfl, hP⟩
    have H := H M2 hP
    show K NN RRC _ _ [] _
    refine r_iconst h (v := 1) (by decide +kernel : decode cX1_readPart 149 = .ok (.iconst 1, 1)) ?_
    exact r_zret h rfl (by decide) (by decide +kernel : decode cX1_readPart 150 = .ok (.ireturn, 1)) rfl ⟨rfl, _, rfl, H⟩
set_option maxHeartbeats 4000000 in
set_option maxRecDepth 100000 in
theorem w_Law_readFrom_0 {P : Int → Mm → Prop} {K : Nat → Rr → Nat → List (Nat × AV) → List AV → Mm → Prop} (h : EK shC yX1_readFrom cX1_readFrom 2 (some .boolean) 61 NN NN (QI RRC P) K) (b : Nat) (hb : At shC NN b (.inl 0)) (b1 : Nat) (hb1 : At shC NN b1 (.inl 6)) (M : Mm)
    (H : ∀ M1 : Mm, M1 = (upr M b (up1 (M b) 3 0)) → ∃ P2 : Int → Mm → Prop, S_Law_readE 60 b b1 0 M1 P2 ∧ ∀ (r1 : Int) (M2 : Mm), P2 r1 M2 → (r1 = 0 ∨ r1 = 1) ∧ P r1 M2) :
    K NN RRC 0 [(0, vr b), (1, vr b1)] [] M := by
  refine r_aloadn h (q := 0) 0 rfl (by decide +kernel : decode cX1_readFrom 0 = .ok (.aload_n 0, 1)) ?_
  refine r_iconst h (v := 0) (by decide +kernel : decode cX1_readFrom 1 = .ok (.iconst 0, 1)) ?_
  refine r_putI h f_Law_22 hb rfl rfl (by decide +kernel : decode cX1_readFrom 2 = .ok (.putfield 22, 3)) ?_
  have H := H _ rfl
  revert H
  generalize (upr M b (up1 (M b) 3 0)) = M1
  intro H
  refine r_aloadn h (q := 0) 0 rfl (by decide +kernel : decode cX1_readFrom 5 = .ok (.aload_n 0, 1)) ?_
  refine r_aloadn h (q := 1) 1 rfl (by decide +kernel : decode cX1_readFrom 6 = .ok (.aload_n 1, 1)) ?_
  refine r_iconst h (v := 0) (by decide +kernel : decode cX1_readFrom 7 = .ok (.iconst 0, 1)) ?_
  obtain ⟨P2, hSP2, H⟩ := H
  refine r_callV h (as := [vr b1, vi 0]) (S := []) (b := b) m_Law_26 hSP2 (by decide) (Nat.le_refl _) rfl hb rfl (Nat.le_of_ble_eq_true rfl) (by decide +kernel : decode cX1_readFrom 8 = .ok (.invokevirtual 26, 3)) ?_
  rintro _ _ M2 ⟨rfl, r1, rfl, hP⟩
  have H := H r1 M2 hP
  show K NN RRC _ _ [vi r1] _
  exact r_zret h rfl H.1 (by decide +kernel : decode cX1_readFrom 11 = .ok (.ireturn, 1)) rfl ⟨rfl, _, rfl, H.2⟩
theorem W_Law_readFrom (b : Nat) (hb : At shC NN b (.inl 0)) (b1 : Nat) (hb1 : At shC NN b1 (.inl 6)) (M : Mm) {P : Int → Mm → Prop} (H : ∀ M1 : Mm, M1 = (upr M b (up1 (M b) 3 0)) → ∃ P2 : Int → Mm → Prop, S_Law_readE 60 b b1 0 M1 P2 ∧ ∀ (r1 : Int) (M2 : Mm), P2 r1 M2 → (r1 = 0 ∨ r1 = 1) ∧ P r1 M2) : S_Law_readFrom b b1 M P := e_Law_readFrom b b1 M (fun _ h => w_Law_readFrom_0 h b hb b1 hb1 M H)
set_option maxHeartbeats 4000000 in
set_option maxRecDepth 100000 in
theorem w_Town_readLine_0 {P : Int → Mm → Prop} {K : Nat → Rr → Nat → List (Nat × AV) → List AV → Mm → Prop} (h : EK shC yX8_readLine cX8_readLine 2 (some .boolean) 62 NN NN (QI RRC P) K) (b : Nat) (hb : At shC NN b (.inl 7)) (b1 : Nat) (hb1 : At shC NN b1 (.inl 6)) (M : Mm)
    (H : ∃ k101 : Nat, M b1 6 = (k101 : Int) + 1 ∧ k101 < 27 ∧ ∃ P1 : Int → Mm → Prop, S_JEnum_ordinal k101 M P1 ∧ ∀ (r1 : Int) (M1 : Mm), P1 r1 M1 → (0 ≤ r1 ∧ r1 < 27) ∧ ((wS.getD r1.toNat 0) = 6 → (∃ P2 : Int → Mm → Prop, S_Town_readHouse b b1 M1 P2 ∧ ∀ (r2 : Int) (M2 : Mm), P2 r2 M2 → (r2 = 0 ∨ r2 = 1) ∧ P r2 M2)) ∧ ((wS.getD r1.toNat 0) = 7 → (∃ P3 : Int → Mm → Prop, S_Town_readShuns b b1 M1 P3 ∧ ∀ (r3 : Int) (M3 : Mm), P3 r3 M3 → (r3 = 0 ∨ r3 = 1) ∧ P r3 M3)) ∧ ((wS.getD r1.toNat 0) = 8 → (∃ P4 : Int → Mm → Prop, S_Town_takeOnce b b1 1 M1 P4 ∧ ∀ (r4 : Int) (M4 : Mm), P4 r4 M4 → (rng r4) ∧ (r4 = 0 → (P 0 M4)) ∧ (r4 ≠ 0 → (∃ P5 : Int → Mm → Prop, S_Town_readGap b b1 M4 P5 ∧ ∀ (r5 : Int) (M5 : Mm), P5 r5 M5 → (rng r5) ∧ (r5 = 0 → (P 0 M5)) ∧ (r5 ≠ 0 → (P 1 M5)))))) ∧ ((wS.getD r1.toNat 0) = 9 → (∃ P6 : Int → Mm → Prop, S_Town_takeOnce b b1 2 M1 P6 ∧ ∀ (r6 : Int) (M6 : Mm), P6 r6 M6 → (rng r6) ∧ (r6 = 0 → (P 0 M6)) ∧ (r6 ≠ 0 → (∃ P7 : Int → Mm → Prop, S_Town_readRains b b1 M6 P7 ∧ ∀ (r7 : Int) (M7 : Mm), P7 r7 M7 → (rng r7) ∧ (r7 = 0 → (P 0 M7)) ∧ (r7 ≠ 0 → (P 1 M7)))))) ∧ ((wS.getD r1.toNat 0) = 10 → (∃ P8 : Int → Mm → Prop, S_Town_takeOnce b b1 4 M1 P8 ∧ ∀ (r8 : Int) (M8 : Mm), P8 r8 M8 → (rng r8) ∧ (r8 = 0 → (P 0 M8)) ∧ (r8 ≠ 0 → (∃ P9 : Int → Mm → Prop, S_Town_readPrice b b1 M8 P9 ∧ ∀ (r9 : Int) (M9 : Mm), P9 r9 M9 → (rng r9) ∧ (r9 = 0 → (P 0 M9)) ∧ (r9 ≠ 0 → (P 1 M9)))))) ∧ ((wS.getD r1.toNat 0) = 11 → (∃ P10 : Int → Mm → Prop, S_Town_takeOnce b b1 8 M1 P10 ∧ ∀ (r10 : Int) (M10 : Mm), P10 r10 M10 → (rng r10) ∧ (r10 = 0 → (P 0 M10)) ∧ (r10 ≠ 0 → (∃ P11 : Int → Mm → Prop, S_Law_readFrom (b + 8) b1 M10 P11 ∧ ∀ (r11 : Int) (M11 : Mm), P11 r11 M11 → (rng r11) ∧ (r11 = 0 → (P 0 M11)) ∧ (r11 ≠ 0 → (P 1 M11)))))) ∧ ((wS.getD r1.toNat 0) = 12 → (∃ P12 : Int → Mm → Prop, S_Town_takeOnce b b1 16 M1 P12 ∧ ∀ (r12 : Int) (M12 : Mm), P12 r12 M12 → (rng r12) ∧ (r12 = 0 → (P 0 M12)) ∧ (r12 ≠ 0 → (∃ P13 : Int → Mm → Prop, S_Law_readFrom (b + 11) b1 M12 P13 ∧ ∀ (r13 : Int) (M13 : Mm), P13 r13 M13 → (rng r13) ∧ (r13 = 0 → (P 0 M13)) ∧ (r13 ≠ 0 → (P 1 M13)))))) ∧ ((wS.getD r1.toNat 0) ≠ 6 ∧ (wS.getD r1.toNat 0) ≠ 7 ∧ (wS.getD r1.toNat 0) ≠ 8 ∧ (wS.getD r1.toNat 0) ≠ 9 ∧ (wS.getD r1.toNat 0) ≠ 10 ∧ (wS.getD r1.toNat 0) ≠ 11 ∧ (wS.getD r1.toNat 0) ≠ 12 → (∃ P14 : Int → Mm → Prop, S_Tape_fail b1 1 M1 P14 ∧ ∀ (r14 : Int) (M14 : Mm), P14 r14 M14 → (r14 = 0 ∨ r14 = 1) ∧ P r14 M14))) :
    K NN RRC 0 [(0, vr b), (1, vr b1)] [] M := by
  refine r_getS h zF_28 rfl (inT3 105 rfl rfl) (by decide +kernel : decode cX8_readLine 0 = .ok (.getstatic 108, 3)) ?_
  refine r_aloadn h (q := 1) 1 rfl (by decide +kernel : decode cX8_readLine 3 = .ok (.aload_n 1, 1)) ?_
  obtain ⟨k101, htk101, hlk101, H⟩ := H
  refine r_getE h (r := k101) f_Town_113 hb1 htk101 (by decide +kernel : decode cX8_readLine 4 = .ok (.getfield 113, 3)) ?_
  obtain ⟨P1, hSP1, H⟩ := H
  refine r_callO h (as := []) (S := [ve 28]) (b := k101) m_Town_117 hSP1 (by decide) (Nat.le_refl _) rfl (oC_w hlk101) rfl (Nat.le_of_ble_eq_true rfl) (by decide +kernel : decode cX8_readLine 7 = .ok (.invokevirtual 117, 3)) ?_
  rintro _ _ M1 ⟨rfl, r1, rfl, hP⟩
  have H := H r1 M1 hP
  show K NN RRC _ _ [vi r1, ve 28] _
  obtain ⟨g1, H⟩ := H
  refine r_tI h tF_sw g1 (by decide) rfl (by decide +kernel : decode cX8_readLine 10 = .ok (.iaload, 1)) ?_
  obtain ⟨H1, H⟩ := H
  by_cases hk0 : (wS.getD r1.toNat 0) = 6
  · have H := H1 hk0
    refine r_tabIn h 52 (wS_rng _) (by rw [hk0]; decide) (by rw [hk0]; rfl) (by decide) (by decide +kernel : decode cX8_readLine 11 = .ok (.tableswitch 176 6 12 #[41, 47, 53, 76, 99, 122, 149], 41)) ?_
    refine r_aloadn h (q := 0) 0 rfl (by decide +kernel : decode cX8_readLine 52 = .ok (.aload_n 0, 1)) ?_
    refine r_aloadn h (q := 1) 1 rfl (by decide +kernel : decode cX8_readLine 53 = .ok (.aload_n 1, 1)) ?_
    obtain ⟨P2, hSP2, H⟩ := H
    refine r_callV h (as := [vr b1]) (S := []) (b := b) m_Town_123 hSP2 (by decide) (Nat.le_refl _) rfl hb rfl (Nat.le_of_ble_eq_true rfl) (by decide +kernel : decode cX8_readLine 54 = .ok (.invokevirtual 123, 3)) ?_
    rintro _ _ M2 ⟨rfl, r2, rfl, hP⟩
    have H := H r2 M2 hP
    show K NN RRC _ _ [vi r2] _
    exact r_zret h rfl H.1 (by decide +kernel : decode cX8_readLine 57 = .ok (.ireturn, 1)) rfl ⟨rfl, _, rfl, H.2⟩
  obtain ⟨H1, H⟩ := H
  by_cases hk1 : (wS.getD r1.toNat 0) = 7
  · have H := H1 hk1
    refine r_tabIn h 58 (wS_rng _) (by rw [hk1]; decide) (by rw [hk1]; rfl) (by decide) (by decide +kernel : decode cX8_readLine 11 = .ok (.tableswitch 176 6 12 #[41, 47, 53, 76, 99, 122, 149], 41)) ?_
    refine r_aloadn h (q := 0) 0 rfl (by decide +kernel : decode cX8_readLine 58 = .ok (.aload_n 0, 1)) ?_
    refine r_aloadn h (q := 1) 1 rfl (by decide +kernel : decode cX8_readLine 59 = .ok (.aload_n 1, 1)) ?_
    obtain ⟨P3, hSP3, H⟩ := H
    refine r_callV h (as := [vr b1]) (S := []) (b := b) m_Town_126 hSP3 (by decide) (Nat.le_refl _) rfl hb rfl (Nat.le_of_ble_eq_true rfl) (by decide +kernel : decode cX8_readLine 60 = .ok (.invokevirtual 126, 3)) ?_
    rintro _ _ M3 ⟨rfl, r3, rfl, hP⟩
    have H := H r3 M3 hP
    show K NN RRC _ _ [vi r3] _
    exact r_zret h rfl H.1 (by decide +kernel : decode cX8_readLine 63 = .ok (.ireturn, 1)) rfl ⟨rfl, _, rfl, H.2⟩
  obtain ⟨H1, H⟩ := H
  by_cases hk2 : (wS.getD r1.toNat 0) = 8
  · have H := H1 hk2
    refine r_tabIn h 64 (wS_rng _) (by rw [hk2]; decide) (by rw [hk2]; rfl) (by decide) (by decide +kernel : decode cX8_readLine 11 = .ok (.tableswitch 176 6 12 #[41, 47, 53, 76, 99, 122, 149], 41)) ?_
    refine r_aloadn h (q := 0) 0 rfl (by decide +kernel : decode cX8_readLine 64 = .ok (.aload_n 0, 1)) ?_
    refine r_aloadn h (q := 1) 1 rfl (by decide +kernel : decode cX8_readLine 65 = .ok (.aload_n 1, 1)) ?_
    refine r_iconst h (v := 1) (by decide +kernel : decode cX8_readLine 66 = .ok (.iconst 1, 1)) ?_
    obtain ⟨P4, hSP4, H⟩ := H
    refine r_callV h (as := [vr b1, vi 1]) (S := []) (b := b) m_Town_129 hSP4 (by decide) (Nat.le_refl _) rfl hb rfl (Nat.le_of_ble_eq_true rfl) (by decide +kernel : decode cX8_readLine 67 = .ok (.invokevirtual 129, 3)) ?_
    rintro _ _ M4 ⟨rfl, r4, rfl, hP⟩
    have H := H r4 M4 hP
    show K NN RRC _ _ [vi r4] _
    obtain ⟨g1, H⟩ := H
    obtain ⟨H1, H2⟩ := H
    refine r_if_eq h 85 g1 (by decide) (by decide +kernel : decode cX8_readLine 70 = .ok (.ifCond .eq 15, 3)) (fun hc => ?_) (fun hc => ?_)
    · have H := H1 hc
      refine r_iconst h (v := 0) (by decide +kernel : decode cX8_readLine 85 = .ok (.iconst 0, 1)) ?_
      exact r_zret h rfl (by decide) (by decide +kernel : decode cX8_readLine 86 = .ok (.ireturn, 1)) rfl ⟨rfl, _, rfl, H⟩
    · have H := H2 hc
      refine r_aloadn h (q := 0) 0 rfl (by decide +kernel : decode cX8_readLine 73 = .ok (.aload_n 0, 1)) ?_
      refine r_aloadn h (q := 1) 1 rfl (by decide +kernel : decode cX8_readLine 74 = .ok (.aload_n 1, 1)) ?_
      obtain ⟨P5, hSP5, H⟩ := H
      refine r_callV h (as := [vr b1]) (S := []) (b := b) m_Town_133 hSP5 (by decide) (Nat.le_refl _) rfl hb rfl (Nat.le_of_ble_eq_true rfl) (by decide +kernel : decode cX8_readLine 75 = .ok (.invokevirtual 133, 3)) ?_
      rintro _ _ M5 ⟨rfl, r5, rfl, hP⟩
      have H := H r5 M5 hP
      show K NN RRC _ _ [vi r5] _
      obtain ⟨g1, H⟩ := H
      obtain ⟨H1, H2⟩ := H
      refine r_if_eq h 85 g1 (by decide) (by decide +kernel : decode cX8_readLine 78 = .ok (.ifCond .eq 7, 3)) (fun hc => ?_) (fun hc => ?_)
      · have H := H1 hc
        refine r_iconst h (v := 0) (by decide +kernel : decode cX8_readLine 85 = .ok (.iconst 0, 1)) ?_
        exact r_zret h rfl (by decide) (by decide +kernel : decode cX8_readLine 86 = .ok (.ireturn, 1)) rfl ⟨rfl, _, rfl, H⟩
      · have H := H2 hc
        refine r_iconst h (v := 1) (by decide +kernel : decode cX8_readLine 81 = .ok (.iconst 1, 1)) ?_
        refine r_goto h 86 (by decide) (by decide +kernel : decode cX8_readLine 82 = .ok (.goto 4, 3)) ?_
        exact r_zret h rfl (by decide) (by decide +kernel : decode cX8_readLine 86 = .ok (.ireturn, 1)) rfl ⟨rfl, _, rfl, H⟩
  obtain ⟨H1, H⟩ := H
  by_cases hk3 : (wS.getD r1.toNat 0) = 9
  · have H := H1 hk3
    refine r_tabIn h 87 (wS_rng _) (by rw [hk3]; decide) (by rw [hk3]; rfl) (by decide) (by decide +kernel : decode cX8_readLine 11 = .ok (.tableswitch 176 6 12 #[41, 47, 53, 76, 99, 122, 149], 41)) ?_
    refine r_aloadn h (q := 0) 0 rfl (by decide +kernel : decode cX8_readLine 87 = .ok (.aload_n 0, 1)) ?_
    refine r_aloadn h (q := 1) 1 rfl (by decide +kernel : decode cX8_readLine 88 = .ok (.aload_n 1, 1)) ?_
    refine r_iconst h (v := 2) (by decide +kernel : decode cX8_readLine 89 = .ok (.iconst 2, 1)) ?_
    obtain ⟨P6, hSP6, H⟩ := H
    refine r_callV h (as := [vr b1, vi 2]) (S := []) (b := b) m_Town_129 hSP6 (by decide) (Nat.le_refl _) rfl hb rfl (Nat.le_of_ble_eq_true rfl) (by decide +kernel : decode cX8_readLine 90 = .ok (.invokevirtual 129, 3)) ?_
    rintro _ _ M6 ⟨rfl, r6, rfl, hP⟩
    have H := H r6 M6 hP
    show K NN RRC _ _ [vi r6] _
    obtain ⟨g1, H⟩ := H
    obtain ⟨H1, H2⟩ := H
    refine r_if_eq h 108 g1 (by decide) (by decide +kernel : decode cX8_readLine 93 = .ok (.ifCond .eq 15, 3)) (fun hc => ?_) (fun hc => ?_)
    · have H := H1 hc
      refine r_iconst h (v := 0) (by decide +kernel : decode cX8_readLine 108 = .ok (.iconst 0, 1)) ?_
      exact r_zret h rfl (by decide) (by decide +kernel : decode cX8_readLine 109 = .ok (.ireturn, 1)) rfl ⟨rfl, _, rfl, H⟩
    · have H := H2 hc
      refine r_aloadn h (q := 0) 0 rfl (by decide +kernel : decode cX8_readLine 96 = .ok (.aload_n 0, 1)) ?_
      refine r_aloadn h (q := 1) 1 rfl (by decide +kernel : decode cX8_readLine 97 = .ok (.aload_n 1, 1)) ?_
      obtain ⟨P7, hSP7, H⟩ := H
      refine r_callV h (as := [vr b1]) (S := []) (b := b) m_Town_136 hSP7 (by decide) (Nat.le_refl _) rfl hb rfl (Nat.le_of_ble_eq_true rfl) (by decide +kernel : decode cX8_readLine 98 = .ok (.invokevirtual 136, 3)) ?_
      rintro _ _ M7 ⟨rfl, r7, rfl, hP⟩
      have H := H r7 M7 hP
      show K NN RRC _ _ [vi r7] _
      obtain ⟨g1, H⟩ := H
      obtain ⟨H1, H2⟩ := H
      refine r_if_eq h 108 g1 (by decide) (by decide +kernel : decode cX8_readLine 101 = .ok (.ifCond .eq 7, 3)) (fun hc => ?_) (fun hc => ?_)
      · have H := H1 hc
        refine r_iconst h (v := 0) (by decide +kernel : decode cX8_readLine 108 = .ok (.iconst 0, 1)) ?_
        exact r_zret h rfl (by decide) (by decide +kernel : decode cX8_readLine 109 = .ok (.ireturn, 1)) rfl ⟨rfl, _, rfl, H⟩
      · have H := H2 hc
        refine r_iconst h (v := 1) (by decide +kernel : decode cX8_readLine 104 = .ok (.iconst 1, 1)) ?_
        refine r_goto h 109 (by decide) (by decide +kernel : decode cX8_readLine 105 = .ok (.goto 4, 3)) ?_
        exact r_zret h rfl (by decide) (by decide +kernel : decode cX8_readLine 109 = .ok (.ireturn, 1)) rfl ⟨rfl, _, rfl, H⟩
  obtain ⟨H1, H⟩ := H
  by_cases hk4 : (wS.getD r1.toNat 0) = 10
  · have H := H1 hk4
    refine r_tabIn h 110 (wS_rng _) (by rw [hk4]; decide) (by rw [hk4]; rfl) (by decide) (by decide +kernel : decode cX8_readLine 11 = .ok (.tableswitch 176 6 12 #[41, 47, 53, 76, 99, 122, 149], 41)) ?_
    refine r_aloadn h (q := 0) 0 rfl (by decide +kernel : decode cX8_readLine 110 = .ok (.aload_n 0, 1)) ?_
    refine r_aloadn h (q := 1) 1 rfl (by decide +kernel : decode cX8_readLine 111 = .ok (.aload_n 1, 1)) ?_
    refine r_iconst h (v := 4) (by decide +kernel : decode cX8_readLine 112 = .ok (.iconst 4, 1)) ?_
    obtain ⟨P8, hSP8, H⟩ := H
    refine r_callV h (as := [vr b1, vi 4]) (S := []) (b := b) m_Town_129 hSP8 (by decide) (Nat.le_refl _) rfl hb rfl (Nat.le_of_ble_eq_true rfl) (by decide +kernel : decode cX8_readLine 113 = .ok (.invokevirtual 129, 3)) ?_
    rintro _ _ M8 ⟨rfl, r8, rfl, hP⟩
    have H := H r8 M8 hP
    show K NN RRC _ _ [vi r8] _
    obtain ⟨g1, H⟩ := H
    obtain ⟨H1, H2⟩ := H
    refine r_if_eq h 131 g1 (by decide) (by decide +kernel : decode cX8_readLine 116 = .ok (.ifCond .eq 15, 3)) (fun hc => ?_) (fun hc => ?_)
    · have H := H1 hc
      refine r_iconst h (v := 0) (by decide +kernel : decode cX8_readLine 131 = .ok (.iconst 0, 1)) ?_
      exact r_zret h rfl (by decide) (by decide +kernel : decode cX8_readLine 132 = .ok (.ireturn, 1)) rfl ⟨rfl, _, rfl, H⟩
    · have H := H2 hc
      refine r_aloadn h (q := 0) 0 rfl (by decide +kernel : decode cX8_readLine 119 = .ok (.aload_n 0, 1)) ?_
      refine r_aloadn h (q := 1) 1 rfl (by decide +kernel : decode cX8_readLine 120 = .ok (.aload_n 1, 1)) ?_
      obtain ⟨P9, hSP9, H⟩ := H
      refine r_callV h (as := [vr b1]) (S := []) (b := b) m_Town_139 hSP9 (by decide) (Nat.le_refl _) rfl hb rfl (Nat.le_of_ble_eq_true rfl) (by decide +kernel : decode cX8_readLine 121 = .ok (.invokevirtual 139, 3)) ?_
      rintro _ _ M9 ⟨rfl, r9, rfl, hP⟩
      have H := H r9 M9 hP
      show K NN RRC _ _ [vi r9] _
      obtain ⟨g1, H⟩ := H
      obtain ⟨H1, H2⟩ := H
      refine r_if_eq h 131 g1 (by decide) (by decide +kernel : decode cX8_readLine 124 = .ok (.ifCond .eq 7, 3)) (fun hc => ?_) (fun hc => ?_)
      · have H := H1 hc
        refine r_iconst h (v := 0) (by decide +kernel : decode cX8_readLine 131 = .ok (.iconst 0, 1)) ?_
        exact r_zret h rfl (by decide) (by decide +kernel : decode cX8_readLine 132 = .ok (.ireturn, 1)) rfl ⟨rfl, _, rfl, H⟩
      · have H := H2 hc
        refine r_iconst h (v := 1) (by decide +kernel : decode cX8_readLine 127 = .ok (.iconst 1, 1)) ?_
        refine r_goto h 132 (by decide) (by decide +kernel : decode cX8_readLine 128 = .ok (.goto 4, 3)) ?_
        exact r_zret h rfl (by decide) (by decide +kernel : decode cX8_readLine 132 = .ok (.ireturn, 1)) rfl ⟨rfl, _, rfl, H⟩
  obtain ⟨H1, H⟩ := H
  by_cases hk5 : (wS.getD r1.toNat 0) = 11
  · have H := H1 hk5
    refine r_tabIn h 133 (wS_rng _) (by rw [hk5]; decide) (by rw [hk5]; rfl) (by decide) (by decide +kernel : decode cX8_readLine 11 = .ok (.tableswitch 176 6 12 #[41, 47, 53, 76, 99, 122, 149], 41)) ?_
    refine r_aloadn h (q := 0) 0 rfl (by decide +kernel : decode cX8_readLine 133 = .ok (.aload_n 0, 1)) ?_
    refine r_aloadn h (q := 1) 1 rfl (by decide +kernel : decode cX8_readLine 134 = .ok (.aload_n 1, 1)) ?_
    refine r_bipush h (v := 8) (by decide) (by decide +kernel : decode cX8_readLine 135 = .ok (.bipush 8, 2)) ?_
    obtain ⟨P10, hSP10, H⟩ := H
    refine r_callV h (as := [vr b1, vi 8]) (S := []) (b := b) m_Town_129 hSP10 (by decide) (Nat.le_refl _) rfl hb rfl (Nat.le_of_ble_eq_true rfl) (by decide +kernel : decode cX8_readLine 137 = .ok (.invokevirtual 129, 3)) ?_
    rintro _ _ M10 ⟨rfl, r10, rfl, hP⟩
    have H := H r10 M10 hP
    show K NN RRC _ _ [vi r10] _
    obtain ⟨g1, H⟩ := H
    obtain ⟨H1, H2⟩ := H
    refine r_if_eq h 158 g1 (by decide) (by decide +kernel : decode cX8_readLine 140 = .ok (.ifCond .eq 18, 3)) (fun hc => ?_) (fun hc => ?_)
    · have H := H1 hc
      refine r_iconst h (v := 0) (by decide +kernel : decode cX8_readLine 158 = .ok (.iconst 0, 1)) ?_
      exact r_zret h rfl (by decide) (by decide +kernel : decode cX8_readLine 159 = .ok (.ireturn, 1)) rfl ⟨rfl, _, rfl, H⟩
    · have H := H2 hc
      refine r_aloadn h (q := 0) 0 rfl (by decide +kernel : decode cX8_readLine 143 = .ok (.aload_n 0, 1)) ?_
      refine r_getR h (r := (b + 8)) f_Town_39 hb (rr_7_7 hb) (by omega) (by decide +kernel : decode cX8_readLine 144 = .ok (.getfield 39, 3)) ?_
      refine r_aloadn h (q := 1) 1 rfl (by decide +kernel : decode cX8_readLine 147 = .ok (.aload_n 1, 1)) ?_
      obtain ⟨P11, hSP11, H⟩ := H
      refine r_callV h (as := [vr b1]) (S := []) (b := (b + 8)) m_Town_142 hSP11 (by decide) (Nat.le_refl _) rfl (at_7_7 hb) rfl (Nat.le_of_ble_eq_true rfl) (by decide +kernel : decode cX8_readLine 148 = .ok (.invokevirtual 142, 3)) ?_
      rintro _ _ M11 ⟨rfl, r11, rfl, hP⟩
      have H := H r11 M11 hP
      show K NN RRC _ _ [vi r11] _
      obtain ⟨g1, H⟩ := H
      obtain ⟨H1, H2⟩ := H
      refine r_if_eq h 158 g1 (by decide) (by decide +kernel : decode cX8_readLine 151 = .ok (.ifCond .eq 7, 3)) (fun hc => ?_) (fun hc => ?_)
      · have H := H1 hc
        refine r_iconst h (v := 0) (by decide +kernel : decode cX8_readLine 158 = .ok (.iconst 0, 1)) ?_
        exact r_zret h rfl (by decide) (by decide +kernel : decode cX8_readLine 159 = .ok (.ireturn, 1)) rfl ⟨rfl, _, rfl, H⟩
      · have H := H2 hc
        refine r_iconst h (v := 1) (by decide +kernel : decode cX8_readLine 154 = .ok (.iconst 1, 1)) ?_
        refine r_goto h 159 (by decide) (by decide +kernel : decode cX8_readLine 155 = .ok (.goto 4, 3)) ?_
        exact r_zret h rfl (by decide) (by decide +kernel : decode cX8_readLine 159 = .ok (.ireturn, 1)) rfl ⟨rfl, _, rfl, H⟩
  obtain ⟨H1, H⟩ := H
  by_cases hk6 : (wS.getD r1.toNat 0) = 12
  · have H := H1 hk6
    refine r_tabIn h 160 (wS_rng _) (by rw [hk6]; decide) (by rw [hk6]; rfl) (by decide) (by decide +kernel : decode cX8_readLine 11 = .ok (.tableswitch 176 6 12 #[41, 47, 53, 76, 99, 122, 149], 41)) ?_
    refine r_aloadn h (q := 0) 0 rfl (by decide +kernel : decode cX8_readLine 160 = .ok (.aload_n 0, 1)) ?_
    refine r_aloadn h (q := 1) 1 rfl (by decide +kernel : decode cX8_readLine 161 = .ok (.aload_n 1, 1)) ?_
    refine r_bipush h (v := 16) (by decide) (by decide +kernel : decode cX8_readLine 162 = .ok (.bipush 16, 2)) ?_
    obtain ⟨P12, hSP12, H⟩ := H
    refine r_callV h (as := [vr b1, vi 16]) (S := []) (b := b) m_Town_129 hSP12 (by decide) (Nat.le_refl _) rfl hb rfl (Nat.le_of_ble_eq_true rfl) (by decide +kernel : decode cX8_readLine 164 = .ok (.invokevirtual 129, 3)) ?_
    rintro _ _ M12 ⟨rfl, r12, rfl, hP⟩
    have H := H r12 M12 hP
    show K NN RRC _ _ [vi r12] _
    obtain ⟨g1, H⟩ := H
    obtain ⟨H1, H2⟩ := H
    refine r_if_eq h 185 g1 (by decide) (by decide +kernel : decode cX8_readLine 167 = .ok (.ifCond .eq 18, 3)) (fun hc => ?_) (fun hc => ?_)
    · have H := H1 hc
      refine r_iconst h (v := 0) (by decide +kernel : decode cX8_readLine 185 = .ok (.iconst 0, 1)) ?_
      exact r_zret h rfl (by decide) (by decide +kernel : decode cX8_readLine 186 = .ok (.ireturn, 1)) rfl ⟨rfl, _, rfl, H⟩
    · have H := H2 hc
      refine r_aloadn h (q := 0) 0 rfl (by decide +kernel : decode cX8_readLine 170 = .ok (.aload_n 0, 1)) ?_
      refine r_getR h (r := (b + 11)) f_Town_43 hb (rr_7_8 hb) (by omega) (by decide +kernel : decode cX8_readLine 171 = .ok (.getfield 43, 3)) ?_
      refine r_aloadn h (q := 1) 1 rfl (by decide +kernel : decode cX8_readLine 174 = .ok (.aload_n 1, 1)) ?_
      obtain ⟨P13, hSP13, H⟩ := H
      refine r_callV h (as := [vr b1]) (S := []) (b := (b + 11)) m_Town_142 hSP13 (by decide) (Nat.le_refl _) rfl (at_7_8 hb) rfl (Nat.le_of_ble_eq_true rfl) (by decide +kernel : decode cX8_readLine 175 = .ok (.invokevirtual 142, 3)) ?_
      rintro _ _ M13 ⟨rfl, r13, rfl, hP⟩
      have H := H r13 M13 hP
      show K NN RRC _ _ [vi r13] _
      obtain ⟨g1, H⟩ := H
      obtain ⟨H1, H2⟩ := H
      refine r_if_eq h 185 g1 (by decide) (by decide +kernel : decode cX8_readLine 178 = .ok (.ifCond .eq 7, 3)) (fun hc => ?_) (fun hc => ?_)
      · have H := H1 hc
        refine r_iconst h (v := 0) (by decide +kernel : decode cX8_readLine 185 = .ok (.iconst 0, 1)) ?_
        exact r_zret h rfl (by decide) (by decide +kernel : decode cX8_readLine 186 = .ok (.ireturn, 1)) rfl ⟨rfl, _, rfl, H⟩
      · have H := H2 hc
        refine r_iconst h (v := 1) (by decide +kernel : decode cX8_readLine 181 = .ok (.iconst 1, 1)) ?_
        refine r_goto h 186 (by decide) (by decide +kernel : decode cX8_readLine 182 = .ok (.goto 4, 3)) ?_
        exact r_zret h rfl (by decide) (by decide +kernel : decode cX8_readLine 186 = .ok (.ireturn, 1)) rfl ⟨rfl, _, rfl, H⟩
  have H := H ⟨hk0, hk1, hk2, hk3, hk4, hk5, hk6⟩
  refine r_tabOut h 187 (wS_rng _) (tout_6_12 hk0 hk1 hk2 hk3 hk4 hk5 hk6) (by decide) (by decide +kernel : decode cX8_readLine 11 = .ok (.tableswitch 176 6 12 #[41, 47, 53, 76, 99, 122, 149], 41)) ?_
  refine r_aloadn h (q := 1) 1 rfl (by decide +kernel : decode cX8_readLine 187 = .ok (.aload_n 1, 1)) ?_
  refine r_iconst h (v := 1) (by decide +kernel : decode cX8_readLine 188 = .ok (.iconst 1, 1)) ?_
  obtain ⟨P14, hSP14, H⟩ := H
  refine r_callV h (as := [vi 1]) (S := []) (b := b1) m_Town_145 hSP14 (by decide) (Nat.le_refl _) rfl hb1 rfl (Nat.le_of_ble_eq_true rfl) (by decide +kernel : decode cX8_readLine 189 = .ok (.invokevirtual 145, 3)) ?_
  rintro _ _ M14 ⟨rfl, r14, rfl, hP⟩
  have H := H r14 M14 hP
  show K NN RRC _ _ [vi r14] _
  exact r_zret h rfl H.1 (by decide +kernel : decode cX8_readLine 192 = .ok (.ireturn, 1)) rfl ⟨rfl, _, rfl, H.2⟩
theorem W_Town_readLine (b : Nat) (hb : At shC NN b (.inl 7)) (b1 : Nat) (hb1 : At shC NN b1 (.inl 6)) (M : Mm) {P : Int → Mm → Prop} (H : ∃ k101 : Nat, M b1 6 = (k101 : Int) + 1 ∧ k101 < 27 ∧ ∃ P1 : Int → Mm → Prop, S_JEnum_ordinal k101 M P1 ∧ ∀ (r1 : Int) (M1 : Mm), P1 r1 M1 → (0 ≤ r1 ∧ r1 < 27) ∧ ((wS.getD r1.toNat 0) = 6 → (∃ P2 : Int → Mm → Prop, S_Town_readHouse b b1 M1 P2 ∧ ∀ (r2 : Int) (M2 : Mm), P2 r2 M2 → (r2 = 0 ∨ r2 = 1) ∧ P r2 M2)) ∧ ((wS.getD r1.toNat 0) = 7 → (∃ P3 : Int → Mm → Prop, S_Town_readShuns b b1 M1 P3 ∧ ∀ (r3 : Int) (M3 : Mm), P3 r3 M3 → (r3 = 0 ∨ r3 = 1) ∧ P r3 M3)) ∧ ((wS.getD r1.toNat 0) = 8 → (∃ P4 : Int → Mm → Prop, S_Town_takeOnce b b1 1 M1 P4 ∧ ∀ (r4 : Int) (M4 : Mm), P4 r4 M4 → (rng r4) ∧ (r4 = 0 → (P 0 M4)) ∧ (r4 ≠ 0 → (∃ P5 : Int → Mm → Prop, S_Town_readGap b b1 M4 P5 ∧ ∀ (r5 : Int) (M5 : Mm), P5 r5 M5 → (rng r5) ∧ (r5 = 0 → (P 0 M5)) ∧ (r5 ≠ 0 → (P 1 M5)))))) ∧ ((wS.getD r1.toNat 0) = 9 → (∃ P6 : Int → Mm → Prop, S_Town_takeOnce b b1 2 M1 P6 ∧ ∀ (r6 : Int) (M6 : Mm), P6 r6 M6 → (rng r6) ∧ (r6 = 0 → (P 0 M6)) ∧ (r6 ≠ 0 → (∃ P7 : Int → Mm → Prop, S_Town_readRains b b1 M6 P7 ∧ ∀ (r7 : Int) (M7 : Mm), P7 r7 M7 → (rng r7) ∧ (r7 = 0 → (P 0 M7)) ∧ (r7 ≠ 0 → (P 1 M7)))))) ∧ ((wS.getD r1.toNat 0) = 10 → (∃ P8 : Int → Mm → Prop, S_Town_takeOnce b b1 4 M1 P8 ∧ ∀ (r8 : Int) (M8 : Mm), P8 r8 M8 → (rng r8) ∧ (r8 = 0 → (P 0 M8)) ∧ (r8 ≠ 0 → (∃ P9 : Int → Mm → Prop, S_Town_readPrice b b1 M8 P9 ∧ ∀ (r9 : Int) (M9 : Mm), P9 r9 M9 → (rng r9) ∧ (r9 = 0 → (P 0 M9)) ∧ (r9 ≠ 0 → (P 1 M9)))))) ∧ ((wS.getD r1.toNat 0) = 11 → (∃ P10 : Int → Mm → Prop, S_Town_takeOnce b b1 8 M1 P10 ∧ ∀ (r10 : Int) (M10 : Mm), P10 r10 M10 → (rng r10) ∧ (r10 = 0 → (P 0 M10)) ∧ (r10 ≠ 0 → (∃ P11 : Int → Mm → Prop, S_Law_readFrom (b + 8) b1 M10 P11 ∧ ∀ (r11 : Int) (M11 : Mm), P11 r11 M11 → (rng r11) ∧ (r11 = 0 → (P 0 M11)) ∧ (r11 ≠ 0 → (P 1 M11)))))) ∧ ((wS.getD r1.toNat 0) = 12 → (∃ P12 : Int → Mm → Prop, S_Town_takeOnce b b1 16 M1 P12 ∧ ∀ (r12 : Int) (M12 : Mm), P12 r12 M12 → (rng r12) ∧ (r12 = 0 → (P 0 M12)) ∧ (r12 ≠ 0 → (∃ P13 : Int → Mm → Prop, S_Law_readFrom (b + 11) b1 M12 P13 ∧ ∀ (r13 : Int) (M13 : Mm), P13 r13 M13 → (rng r13) ∧ (r13 = 0 → (P 0 M13)) ∧ (r13 ≠ 0 → (P 1 M13)))))) ∧ ((wS.getD r1.toNat 0) ≠ 6 ∧ (wS.getD r1.toNat 0) ≠ 7 ∧ (wS.getD r1.toNat 0) ≠ 8 ∧ (wS.getD r1.toNat 0) ≠ 9 ∧ (wS.getD r1.toNat 0) ≠ 10 ∧ (wS.getD r1.toNat 0) ≠ 11 ∧ (wS.getD r1.toNat 0) ≠ 12 → (∃ P14 : Int → Mm → Prop, S_Tape_fail b1 1 M1 P14 ∧ ∀ (r14 : Int) (M14 : Mm), P14 r14 M14 → (r14 = 0 ∨ r14 = 1) ∧ P r14 M14))) : S_Town_readLine b b1 M P := e_Town_readLine b b1 M (fun _ h => w_Town_readLine_0 h b hb b1 hb1 M H)
set_option maxHeartbeats 4000000 in
set_option maxRecDepth 100000 in
theorem w_Town_readFrom_0 {P : Int → Mm → Prop} {K : Nat → Rr → Nat → List (Nat × AV) → List AV → Mm → Prop} (h : EK shC yX8_readFrom cX8_readFrom 3 (some .boolean) 63 NN NN (QI RRC P) K) (b : Nat) (hb : At shC NN b (.inl 7)) (b1 : Nat) (hb1 : At shC NN b1 (.inl 6)) (M : Mm)
    (H : ∃ P1 : Mm → Prop, S_Town_forgetAll b M P1 ∧ ∀ M1 : Mm, P1 M1 → K NN RRC 6 [(0, vr b), (1, vr b1), (2, vi 0)] [] M1) :
    K NN RRC 0 [(0, vr b), (1, vr b1)] [] M := by
  refine r_aloadn h (q := 0) 0 rfl (by decide +kernel : decode cX8_readFrom 0 = .ok (.aload_n 0, 1)) ?_
  obtain ⟨P1, hSP1, H⟩ := H
  refine r_callV h (as := []) (S := []) (b := b) m_Town_46 hSP1 (by decide) (Nat.le_refl _) rfl hb rfl (Nat.le_of_ble_eq_true rfl) (by decide +kernel : decode cX8_readFrom 1 = .ok (.invokevirtual 46, 3)) ?_
  rintro _ _ M1 ⟨rfl, rfl, hP⟩
  have H := H M1 hP
  show K NN RRC _ _ [] _
  refine r_iconst h (v := 0) (by decide +kernel : decode cX8_readFrom 4 = .ok (.iconst 0, 1)) ?_
  refine r_istoren h (q := 2) (L' := [(2, vi 0), (0, vr b), (1, vr b1)]) (by decide) rfl (by decide +kernel : decode cX8_readFrom 5 = .ok (.istore_n 2, 1)) ?_
  refine r_drop h [1, 2, 0] rfl ?_
  exact H
set_option maxHeartbeats 4000000 in
set_option maxRecDepth 100000 in
theorem w_Town_readFrom_6 {P : Int → Mm → Prop} {K : Nat → Rr → Nat → List (Nat × AV) → List AV → Mm → Prop} (h : EK shC yX8_readFrom cX8_readFrom 3 (some .boolean) 63 NN NN (QI RRC P) K) (b : Nat) (hb : At shC NN b (.inl 7)) (b1 : Nat) (hb1 : At shC NN b1 (.inl 6)) (x2 : Int) (M : Mm)
    (H : (rng x2) ∧ (1000 ≤ x2 → (P 1 M)) ∧ (¬ (1000 ≤ x2) → ((rng (M b1 5)) ∧ ((M b1 5) = 0 → (P 1 M)) ∧ ((M b1 5) ≠ 0 → (∃ P1 : Int → Mm → Prop, S_Town_readLine b b1 M P1 ∧ ∀ (r1 : Int) (M1 : Mm), P1 r1 M1 → (rng r1) ∧ (r1 = 0 → (P 0 M1)) ∧ (r1 ≠ 0 → (∃ P2 : Int → Mm → Prop, S_Tape_takeSign b1 59 M1 P2 ∧ ∀ (r2 : Int) (M2 : Mm), P2 r2 M2 → (rng r2) ∧ (r2 ≠ 0 → (K NN RRC 6 [(0, vr b), (1, vr b1), (2, vi (x2 + 1))] [] M2)) ∧ (r2 = 0 → (P 0 M2))))))))) :
    K NN RRC 6 [(0, vr b), (1, vr b1), (2, vi x2)] [] M := by
  refine r_iloadn h (q := 2) 2 rfl (by decide +kernel : decode cX8_readFrom 6 = .ok (.iload_n 2, 1)) ?_
  refine r_sipush h (v := 1000) (by decide) (by decide +kernel : decode cX8_readFrom 7 = .ok (.sipush 1000, 3)) ?_
  obtain ⟨g1, H⟩ := H
  obtain ⟨H1, H2⟩ := H
  refine r_icmp_ge h 45 g1 (by decide) (by decide) (by decide +kernel : decode cX8_readFrom 10 = .ok (.if_icmp .ge 35, 3)) (fun hc => ?_) (fun hc => ?_)
  · have H := H1 hc
    refine r_iconst h (v := 1) (by decide +kernel : decode cX8_readFrom 45 = .ok (.iconst 1, 1)) ?_
    exact r_zret h rfl (by decide) (by decide +kernel : decode cX8_readFrom 46 = .ok (.ireturn, 1)) rfl ⟨rfl, _, rfl, H⟩
  · have H := H2 hc
    refine r_aloadn h (q := 1) 1 rfl (by decide +kernel : decode cX8_readFrom 13 = .ok (.aload_n 1, 1)) ?_
    refine r_getI h f_Town_97 hb1 (by decide +kernel : decode cX8_readFrom 14 = .ok (.getfield 97, 3)) ?_
    obtain ⟨g1, H⟩ := H
    obtain ⟨H1, H2⟩ := H
    refine r_if_eq h 45 g1 (by decide) (by decide +kernel : decode cX8_readFrom 17 = .ok (.ifCond .eq 28, 3)) (fun hc => ?_) (fun hc => ?_)
    · have H := H1 hc
      refine r_iconst h (v := 1) (by decide +kernel : decode cX8_readFrom 45 = .ok (.iconst 1, 1)) ?_
      exact r_zret h rfl (by decide) (by decide +kernel : decode cX8_readFrom 46 = .ok (.ireturn, 1)) rfl ⟨rfl, _, rfl, H⟩
    · have H := H2 hc
      refine r_aloadn h (q := 0) 0 rfl (by decide +kernel : decode cX8_readFrom 20 = .ok (.aload_n 0, 1)) ?_
      refine r_aloadn h (q := 1) 1 rfl (by decide +kernel : decode cX8_readFrom 21 = .ok (.aload_n 1, 1)) ?_
      obtain ⟨P1, hSP1, H⟩ := H
      refine r_callV h (as := [vr b1]) (S := []) (b := b) m_Town_101 hSP1 (by decide) (Nat.le_refl _) rfl hb rfl (Nat.le_of_ble_eq_true rfl) (by decide +kernel : decode cX8_readFrom 22 = .ok (.invokevirtual 101, 3)) ?_
      rintro _ _ M1 ⟨rfl, r1, rfl, hP⟩
      have H := H r1 M1 hP
      show K NN RRC _ _ [vi r1] _
      obtain ⟨g1, H⟩ := H
      obtain ⟨H1, H2⟩ := H
      refine r_if_eq h 37 g1 (by decide) (by decide +kernel : decode cX8_readFrom 25 = .ok (.ifCond .eq 12, 3)) (fun hc => ?_) (fun hc => ?_)
      · have H := H1 hc
        refine r_iconst h (v := 0) (by decide +kernel : decode cX8_readFrom 37 = .ok (.iconst 0, 1)) ?_
        exact r_zret h rfl (by decide) (by decide +kernel : decode cX8_readFrom 38 = .ok (.ireturn, 1)) rfl ⟨rfl, _, rfl, H⟩
      · have H := H2 hc
        refine r_aloadn h (q := 1) 1 rfl (by decide +kernel : decode cX8_readFrom 28 = .ok (.aload_n 1, 1)) ?_
        refine r_bipush h (v := 59) (by decide) (by decide +kernel : decode cX8_readFrom 29 = .ok (.bipush 59, 2)) ?_
        obtain ⟨P2, hSP2, H⟩ := H
        refine r_callV h (as := [vi 59]) (S := []) (b := b1) m_Town_105 hSP2 (by decide) (Nat.le_refl _) rfl hb1 rfl (Nat.le_of_ble_eq_true rfl) (by decide +kernel : decode cX8_readFrom 31 = .ok (.invokevirtual 105, 3)) ?_
        rintro _ _ M2 ⟨rfl, r2, rfl, hP⟩
        have H := H r2 M2 hP
        show K NN RRC _ _ [vi r2] _
        obtain ⟨g1, H⟩ := H
        obtain ⟨H1, H2⟩ := H
        refine r_if_ne h 39 g1 (by decide) (by decide +kernel : decode cX8_readFrom 34 = .ok (.ifCond .ne 5, 3)) (fun hc => ?_) (fun hc => ?_)
        · have H := H1 hc
          refine r_iinc h (i := 2) (v := 1) (L' := [(2, vi (x2 + 1)), (0, vr b), (1, vr b1)]) 2 rfl (by decide) rfl (by decide +kernel : decode cX8_readFrom 39 = .ok (.iinc 2 1, 3)) ?_
          refine r_goto h 6 (by decide) (by decide +kernel : decode cX8_readFrom 42 = .ok (.goto (-36), 3)) ?_
          refine r_drop h [1, 2, 0] rfl ?_
          exact H
        · have H := H2 hc
          refine r_iconst h (v := 0) (by decide +kernel : decode cX8_readFrom 37 = .ok (.iconst 0, 1)) ?_
          exact r_zret h rfl (by decide) (by decide +kernel : decode cX8_readFrom 38 = .ok (.ireturn, 1)) rfl ⟨rfl, _, rfl, H⟩
