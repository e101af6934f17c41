set_option maxHeartbeats 4000000 in
set_option maxRecDepth 100000 in
theorem w_Mod_thrown_0 {P : Int → Mm → Prop} {K : Nat → Rr → Nat → List (Nat × AV) → List AV → Mm → Prop} (h : EK shM yX12_thrown cX12_thrown 1 (some .int) 1 NM NM (QI RRM P) K)  (M : Mm)
    (H : P (M 1 0) M) :
    K NM RRM 0 [(0, vr 1)] [] M := by
  refine r_aloadn h (q := 0) 0 rfl (by decide +kernel : decode cX12_thrown 0 = .ok (.aload_n 0, 1)) ?_
  refine r_getI h f_Mod_147 at1M (by decide +kernel : decode cX12_thrown 1 = .ok (.getfield 147, 3)) ?_
  exact r_iret h rfl (by decide +kernel : decode cX12_thrown 4 = .ok (.ireturn, 1)) rfl ⟨rfl, _, rfl, H⟩
theorem W_Mod_thrown  (M : Mm) {P : Int → Mm → Prop} (H : P (M 1 0) M) : S_Mod_thrown  M P := e_Mod_thrown  M (fun _ h => w_Mod_thrown_0 h  M H)
set_option maxHeartbeats 4000000 in
set_option maxRecDepth 100000 in
theorem w_Mod_within_0 {P : Int → Mm → Prop} {K : Nat → Rr → Nat → List (Nat × AV) → List AV → Mm → Prop} (h : EK shM yX12_within cX12_within 3 (some .boolean) 1 NM NM (QI RRM P) K) (x0 : Int) (x1 : Int) (x2 : Int) (M : Mm)
    (H : (rng x0) ∧ (rng x1) ∧ (x0 < x1 → (P 0 M)) ∧ (¬ (x0 < x1) → ((rng x0) ∧ (rng x2) ∧ (x2 < x0 → (P 0 M)) ∧ (¬ (x2 < x0) → (P 1 M))))) :
    K NM RRM 0 [(0, vi x0), (1, vi x1), (2, vi x2)] [] M := by
  refine r_iloadn h (q := 0) 0 rfl (by decide +kernel : decode cX12_within 0 = .ok (.iload_n 0, 1)) ?_
  refine r_iloadn h (q := 1) 1 rfl (by decide +kernel : decode cX12_within 1 = .ok (.iload_n 1, 1)) ?_
  obtain ⟨g1, g2, H⟩ := H
  obtain ⟨H1, H2⟩ := H
  refine r_icmp_lt h 14 g1 g2 (by decide) (by decide +kernel : decode cX12_within 2 = .ok (.if_icmp .lt 12, 3)) (fun hc => ?_) (fun hc => ?_)
  · have H := H1 hc
    refine r_iconst h (v := 0) (by decide +kernel : decode cX12_within 14 = .ok (.iconst 0, 1)) ?_
    exact r_zret h rfl (by decide) (by decide +kernel : decode cX12_within 15 = .ok (.ireturn, 1)) rfl ⟨rfl, _, rfl, H⟩
  · have H := H2 hc
    refine r_iloadn h (q := 0) 0 rfl (by decide +kernel : decode cX12_within 5 = .ok (.iload_n 0, 1)) ?_
    refine r_iloadn h (q := 2) 2 rfl (by decide +kernel : decode cX12_within 6 = .ok (.iload_n 2, 1)) ?_
    obtain ⟨g1, g2, H⟩ := H
    obtain ⟨H1, H2⟩ := H
    refine r_icmp_gt h 14 g1 g2 (by decide) (by decide +kernel : decode cX12_within 7 = .ok (.if_icmp .gt 7, 3)) (fun hc => ?_) (fun hc => ?_)
    · have H := H1 hc
      refine r_iconst h (v := 0) (by decide +kernel : decode cX12_within 14 = .ok (.iconst 0, 1)) ?_
      exact r_zret h rfl (by decide) (by decide +kernel : decode cX12_within 15 = .ok (.ireturn, 1)) rfl ⟨rfl, _, rfl, H⟩
    · have H := H2 hc
      refine r_iconst h (v := 1) (by decide +kernel : decode cX12_within 10 = .ok (.iconst 1, 1)) ?_
      refine r_goto h 15 (by decide) (by decide +kernel : decode cX12_within 11 = .ok (.goto 4, 3)) ?_
      exact r_zret h rfl (by decide) (by decide +kernel : decode cX12_within 15 = .ok (.ireturn, 1)) rfl ⟨rfl, _, rfl, H⟩
theorem W_Mod_within (x0 : Int) (x1 : Int) (x2 : Int) (M : Mm) {P : Int → Mm → Prop} (H : (rng x0) ∧ (rng x1) ∧ (x0 < x1 → (P 0 M)) ∧ (¬ (x0 < x1) → ((rng x0) ∧ (rng x2) ∧ (x2 < x0 → (P 0 M)) ∧ (¬ (x2 < x0) → (P 1 M))))) : S_Mod_within x0 x1 x2 M P := e_Mod_within x0 x1 x2 M (fun _ h => w_Mod_within_0 h x0 x1 x2 M H)
set_option maxHeartbeats 4000000 in
set_option maxRecDepth 100000 in
theorem w_Mod_between_0 {P : Int → Mm → Prop} {K : Nat → Rr → Nat → List (Nat × AV) → List AV → Mm → Prop} (h : EK shM yX12_between cX12_between 3 (some .int) 1 NM NM (QI RRM P) K) (x0 : Int) (x1 : Int) (x2 : Int) (M : Mm)
    (H : (rng x0) ∧ (rng x1) ∧ (x1 ≤ x0 → ((rng x0) ∧ (rng x2) ∧ (x0 ≤ x2 → (P x0 M)) ∧ (¬ (x0 ≤ x2) → (P x2 M)))) ∧ (¬ (x1 ≤ x0) → (P x1 M))) :
    K NM RRM 0 [(0, vi x0), (1, vi x1), (2, vi x2)] [] M := by
  refine r_iloadn h (q := 0) 0 rfl (by decide +kernel : decode cX12_between 0 = .ok (.iload_n 0, 1)) ?_
  refine r_iloadn h (q := 1) 1 rfl (by decide +kernel : decode cX12_between 1 = .ok (.iload_n 1, 1)) ?_
  obtain ⟨g1, g2, H⟩ := H
  obtain ⟨H1, H2⟩ := H
  refine r_icmp_ge h 9 g1 g2 (by decide) (by decide +kernel : decode cX12_between 2 = .ok (.if_icmp .ge 7, 3)) (fun hc => ?_) (fun hc => ?_)
  · have H := H1 hc
    refine r_iloadn h (q := 0) 0 rfl (by decide +kernel : decode cX12_between 9 = .ok (.iload_n 0, 1)) ?_
    refine r_iloadn h (q := 2) 2 rfl (by decide +kernel : decode cX12_between 10 = .ok (.iload_n 2, 1)) ?_
    obtain ⟨g1, g2, H⟩ := H
    obtain ⟨H1, H2⟩ := H
    refine r_icmp_le h 18 g1 g2 (by decide) (by decide +kernel : decode cX12_between 11 = .ok (.if_icmp .le 7, 3)) (fun hc => ?_) (fun hc => ?_)
    · have H := H1 hc
      refine r_iloadn h (q := 0) 0 rfl (by decide +kernel : decode cX12_between 18 = .ok (.iload_n 0, 1)) ?_
      exact r_iret h rfl (by decide +kernel : decode cX12_between 19 = .ok (.ireturn, 1)) rfl ⟨rfl, _, rfl, H⟩
    · have H := H2 hc
      refine r_iloadn h (q := 2) 2 rfl (by decide +kernel : decode cX12_between 14 = .ok (.iload_n 2, 1)) ?_
      refine r_goto h 19 (by decide) (by decide +kernel : decode cX12_between 15 = .ok (.goto 4, 3)) ?_
      exact r_iret h rfl (by decide +kernel : decode cX12_between 19 = .ok (.ireturn, 1)) rfl ⟨rfl, _, rfl, H⟩
  · have H := H2 hc
    refine r_iloadn h (q := 1) 1 rfl (by decide +kernel : decode cX12_between 5 = .ok (.iload_n 1, 1)) ?_
    refine r_goto h 19 (by decide) (by decide +kernel : decode cX12_between 6 = .ok (.goto 13, 3)) ?_
    exact r_iret h rfl (by decide +kernel : decode cX12_between 19 = .ok (.ireturn, 1)) rfl ⟨rfl, _, rfl, H⟩
theorem W_Mod_between (x0 : Int) (x1 : Int) (x2 : Int) (M : Mm) {P : Int → Mm → Prop} (H : (rng x0) ∧ (rng x1) ∧ (x1 ≤ x0 → ((rng x0) ∧ (rng x2) ∧ (x0 ≤ x2 → (P x0 M)) ∧ (¬ (x0 ≤ x2) → (P x2 M)))) ∧ (¬ (x1 ≤ x0) → (P x1 M))) : S_Mod_between x0 x1 x2 M P := e_Mod_between x0 x1 x2 M (fun _ h => w_Mod_between_0 h x0 x1 x2 M H)
set_option maxHeartbeats 4000000 in
set_option maxRecDepth 100000 in
theorem w_Mod_bits_0 {P : Int → Mm → Prop} {K : Nat → Rr → Nat → List (Nat × AV) → List AV → Mm → Prop} (h : EK shM yX12_bits cX12_bits 3 (some .int) 1 NM NM (QI RRM P) K) (x0 : Int) (M : Mm)
    (H : K NM RRM 4 [(0, vi x0), (1, vi 0), (2, vi 0)] [] M) :
    K NM RRM 0 [(0, vi x0)] [] M := by
  refine r_iconst h (v := 0) (by decide +kernel : decode cX12_bits 0 = .ok (.iconst 0, 1)) ?_
  refine r_istoren h (q := 1) (L' := [(1, vi 0), (0, vi x0)]) (by decide) rfl (by decide +kernel : decode cX12_bits 1 = .ok (.istore_n 1, 1)) ?_
  refine r_iconst h (v := 0) (by decide +kernel : decode cX12_bits 2 = .ok (.iconst 0, 1)) ?_
  refine r_istoren h (q := 2) (L' := [(2, vi 0), (1, vi 0), (0, vi x0)]) (by decide) rfl (by decide +kernel : decode cX12_bits 3 = .ok (.istore_n 2, 1)) ?_
  refine r_drop h [2, 1, 0] rfl ?_
  exact H
set_option maxHeartbeats 4000000 in
set_option maxRecDepth 100000 in
theorem w_Mod_bits_4 {P : Int → Mm → Prop} {K : Nat → Rr → Nat → List (Nat × AV) → List AV → Mm → Prop} (h : EK shM yX12_bits cX12_bits 3 (some .int) 1 NM NM (QI RRM P) K) (x0 : Int) (x1 : Int) (x2 : Int) (M : Mm)
    (H : (rng x2) ∧ (7 ≤ x2 → (P x1 M)) ∧ (¬ (7 ≤ x2) → (K NM RRM 4 [(0, vi x0), (1, vi (x1 + (andI (shrI x0 x2) 1))), (2, vi (x2 + 1))] [] M))) :
    K NM RRM 4 [(0, vi x0), (1, vi x1), (2, vi x2)] [] M := by
  refine r_iloadn h (q := 2) 2 rfl (by decide +kernel : decode cX12_bits 4 = .ok (.iload_n 2, 1)) ?_
  refine r_bipush h (v := 7) (by decide) (by decide +kernel : decode cX12_bits 5 = .ok (.bipush 7, 2)) ?_
  obtain ⟨g1, H⟩ := H
  obtain ⟨H1, H2⟩ := H
  refine r_icmp_ge h 24 g1 (by decide) (by decide) (by decide +kernel : decode cX12_bits 7 = .ok (.if_icmp .ge 17, 3)) (fun hc => ?_) (fun hc => ?_)
  · have H := H1 hc
    refine r_iloadn h (q := 1) 1 rfl (by decide +kernel : decode cX12_bits 24 = .ok (.iload_n 1, 1)) ?_
    exact r_iret h rfl (by decide +kernel : decode cX12_bits 25 = .ok (.ireturn, 1)) rfl ⟨rfl, _, rfl, H⟩
  · have H := H2 hc
    refine r_iloadn h (q := 1) 1 rfl (by decide +kernel : decode cX12_bits 10 = .ok (.iload_n 1, 1)) ?_
    refine r_iloadn h (q := 0) 0 rfl (by decide +kernel : decode cX12_bits 11 = .ok (.iload_n 0, 1)) ?_
    refine r_iloadn h (q := 2) 2 rfl (by decide +kernel : decode cX12_bits 12 = .ok (.iload_n 2, 1)) ?_
    refine r_ishr h (by decide +kernel : decode cX12_bits 13 = .ok (.ishr, 1)) ?_
    refine r_iconst h (v := 1) (by decide +kernel : decode cX12_bits 14 = .ok (.iconst 1, 1)) ?_
    refine r_iand h (by decide +kernel : decode cX12_bits 15 = .ok (.iand, 1)) ?_
    refine r_iadd h (by decide +kernel : decode cX12_bits 16 = .ok (.iadd, 1)) ?_
    refine r_istoren h (q := 1) (L' := [(1, vi (x1 + (andI (shrI x0 x2) 1))), (0, vi x0), (2, vi x2)]) (by decide) rfl (by decide +kernel : decode cX12_bits 17 = .ok (.istore_n 1, 1)) ?_
    refine r_iinc h (i := 2) (v := 1) (L' := [(2, vi (x2 + 1)), (1, vi (x1 + (andI (shrI x0 x2) 1))), (0, vi x0)]) 2 rfl (by decide) rfl (by decide +kernel : decode cX12_bits 18 = .ok (.iinc 2 1, 3)) ?_
    refine r_goto h 4 (by decide) (by decide +kernel : decode cX12_bits 21 = .ok (.goto (-17), 3)) ?_
    refine r_drop h [2, 1, 0] rfl ?_
    exact H
set_option maxHeartbeats 4000000 in
set_option maxRecDepth 100000 in
theorem w_Mod_feed_0 {P : Int → Mm → Prop} {K : Nat → Rr → Nat → List (Nat × AV) → List AV → Mm → Prop} (h : EK shM yX12_feed cX12_feed 11 (some .int) 1 NM NM (QI RRM P) K) (x1 : Int) (x3 : Int) (x5 : Int) (M : Mm)
    (H : ∀ M1 : Mm, M1 = (upr M 1 (up1 (M 1) 0 0)) → K NM RRM 8 [(0, vr 1), (1, vl x1), (3, vl x3), (5, vl x5), (7, vi 0)] [] M1) :
    K NM RRM 0 [(0, vr 1), (1, vl x1), (3, vl x3), (5, vl x5)] [] M := by
  refine r_aloadn h (q := 0) 0 rfl (by decide +kernel : decode cX12_feed 0 = .ok (.aload_n 0, 1)) ?_
  refine r_iconst h (v := 0) (by decide +kernel : decode cX12_feed 1 = .ok (.iconst 0, 1)) ?_
  refine r_putI h f_Mod_147 at1M rfl rfl (by decide +kernel : decode cX12_feed 2 = .ok (.putfield 147, 3)) ?_
  have H := H _ rfl
  revert H
  generalize (upr M 1 (up1 (M 1) 0 0)) = M1
  intro H
  refine r_iconst h (v := 0) (by decide +kernel : decode cX12_feed 5 = .ok (.iconst 0, 1)) ?_
  refine r_istore h (L' := [(7, vi 0), (0, vr 1), (1, vl x1), (3, vl x3), (5, vl x5)]) (by decide) rfl (by decide +kernel : decode cX12_feed 6 = .ok (.istore 7, 2)) ?_
  refine r_drop h [1, 2, 3, 4, 0] rfl ?_
  exact H
set_option maxHeartbeats 4000000 in
set_option maxRecDepth 100000 in
theorem w_Mod_feed_8 {P : Int → Mm → Prop} {K : Nat → Rr → Nat → List (Nat × AV) → List AV → Mm → Prop} (h : EK shM yX12_feed cX12_feed 11 (some .int) 1 NM NM (QI RRM P) K) (x1 : Int) (x3 : Int) (x5 : Int) (x7 : Int) (M : Mm)
    (H : (rng x7) ∧ (24 ≤ x7 → (P (M 1 1) M)) ∧ (¬ (24 ≤ x7) → ((rng x7) ∧ (8 ≤ x7 → ((rng x7) ∧ (16 ≤ x7 → (K NM RRM 39 [(0, vr 1), (1, vl x1), (3, vl x3), (5, vl x5), (7, vi x7)] [vl x5] M)) ∧ (¬ (16 ≤ x7) → (K NM RRM 39 [(0, vr 1), (1, vl x1), (3, vl x3), (5, vl x5), (7, vi x7)] [vl x3] M)))) ∧ (¬ (8 ≤ x7) → (K NM RRM 39 [(0, vr 1), (1, vl x1), (3, vl x3), (5, vl x5), (7, vi x7)] [vl x1] M))))) :
    K NM RRM 8 [(0, vr 1), (1, vl x1), (3, vl x3), (5, vl x5), (7, vi x7)] [] M := by
  refine r_iload h 4 rfl (by decide +kernel : decode cX12_feed 8 = .ok (.iload 7, 2)) ?_
  refine r_bipush h (v := 24) (by decide) (by decide +kernel : decode cX12_feed 10 = .ok (.bipush 24, 2)) ?_
  obtain ⟨g1, H⟩ := H
  obtain ⟨H1, H2⟩ := H
  refine r_icmp_ge h 120 g1 (by decide) (by decide) (by decide +kernel : decode cX12_feed 12 = .ok (.if_icmp .ge 108, 3)) (fun hc => ?_) (fun hc => ?_)
  · have H := H1 hc
    refine r_aloadn h (q := 0) 0 rfl (by decide +kernel : decode cX12_feed 120 = .ok (.aload_n 0, 1)) ?_
    refine r_getI h f_Mod_153 at1M (by decide +kernel : decode cX12_feed 121 = .ok (.getfield 153, 3)) ?_
    exact r_iret h rfl (by decide +kernel : decode cX12_feed 124 = .ok (.ireturn, 1)) rfl ⟨rfl, _, rfl, H⟩
  · have H := H2 hc
    refine r_iload h 4 rfl (by decide +kernel : decode cX12_feed 15 = .ok (.iload 7, 2)) ?_
    refine r_bipush h (v := 8) (by decide) (by decide +kernel : decode cX12_feed 17 = .ok (.bipush 8, 2)) ?_
    obtain ⟨g1, H⟩ := H
    obtain ⟨H1, H2⟩ := H
    refine r_icmp_ge h 26 g1 (by decide) (by decide) (by decide +kernel : decode cX12_feed 19 = .ok (.if_icmp .ge 7, 3)) (fun hc => ?_) (fun hc => ?_)
    · have H := H1 hc
      refine r_iload h 4 rfl (by decide +kernel : decode cX12_feed 26 = .ok (.iload 7, 2)) ?_
      refine r_bipush h (v := 16) (by decide) (by decide +kernel : decode cX12_feed 28 = .ok (.bipush 16, 2)) ?_
      obtain ⟨g1, H⟩ := H
      obtain ⟨H1, H2⟩ := H
      refine r_icmp_ge h 37 g1 (by decide) (by decide) (by decide +kernel : decode cX12_feed 30 = .ok (.if_icmp .ge 7, 3)) (fun hc => ?_) (fun hc => ?_)
      · have H := H1 hc
        refine r_lload h 3 rfl (by decide +kernel : decode cX12_feed 37 = .ok (.lload 5, 2)) ?_
        exact H
      · have H := H2 hc
        refine r_lloadn h (q := 3) 2 rfl (by decide +kernel : decode cX12_feed 33 = .ok (.lload_n 3, 1)) ?_
        refine r_goto h 39 (by decide) (by decide +kernel : decode cX12_feed 34 = .ok (.goto 5, 3)) ?_
        exact H
    · have H := H2 hc
      refine r_lloadn h (q := 1) 1 rfl (by decide +kernel : decode cX12_feed 22 = .ok (.lload_n 1, 1)) ?_
      refine r_goto h 39 (by decide) (by decide +kernel : decode cX12_feed 23 = .ok (.goto 16, 3)) ?_
      exact H
set_option maxHeartbeats 4000000 in
set_option maxRecDepth 100000 in
theorem w_Mod_feed_39 {P : Int → Mm → Prop} {K : Nat → Rr → Nat → List (Nat × AV) → List AV → Mm → Prop} (h : EK shM yX12_feed cX12_feed 11 (some .int) 1 NM NM (QI RRM P) K) (x1 : Int) (x3 : Int) (x5 : Int) (x7 : Int) (s0 : Int) (M : Mm)
    (H : (rng (M 1 1)) ∧ (1000 ≤ (M 1 1) → (K NM RRM 8 [(0, vr 1), (1, vl x1), (3, vl x3), (5, vl x5), (7, vi (x7 + 1))] [] M)) ∧ (¬ (1000 ≤ (M 1 1)) → ((rng (andL (ushrL s0 (56 - (8 * (andI x7 7)))) 255)) ∧ ((andL (ushrL s0 (56 - (8 * (andI x7 7)))) 255) = 10 → (K NM RRM 93 [(0, vr 1), (1, vl x1), (3, vl x3), (5, vl x5), (7, vi x7), (10, vi (andL (ushrL s0 (56 - (8 * (andI x7 7)))) 255))] [] M)) ∧ ((andL (ushrL s0 (56 - (8 * (andI x7 7)))) 255) ≠ 10 → ((rng (andL (ushrL s0 (56 - (8 * (andI x7 7)))) 255)) ∧ ((andL (ushrL s0 (56 - (8 * (andI x7 7)))) 255) < 32 → (K NM RRM 8 [(0, vr 1), (1, vl x1), (3, vl x3), (5, vl x5), (7, vi (x7 + 1))] [] M)) ∧ (¬ ((andL (ushrL s0 (56 - (8 * (andI x7 7)))) 255) < 32) → ((rng (andL (ushrL s0 (56 - (8 * (andI x7 7)))) 255)) ∧ (126 < (andL (ushrL s0 (56 - (8 * (andI x7 7)))) 255) → (K NM RRM 8 [(0, vr 1), (1, vl x1), (3, vl x3), (5, vl x5), (7, vi (x7 + 1))] [] M)) ∧ (¬ (126 < (andL (ushrL s0 (56 - (8 * (andI x7 7)))) 255)) → (K NM RRM 93 [(0, vr 1), (1, vl x1), (3, vl x3), (5, vl x5), (7, vi x7), (10, vi (andL (ushrL s0 (56 - (8 * (andI x7 7)))) 255))] [] M))))))))) :
    K NM RRM 39 [(0, vr 1), (1, vl x1), (3, vl x3), (5, vl x5), (7, vi x7)] [vl s0] M := by
  refine r_lstore h (L' := [(8, vl s0), (0, vr 1), (1, vl x1), (3, vl x3), (5, vl x5), (7, vi x7)]) (by decide) rfl (by decide +kernel : decode cX12_feed 39 = .ok (.lstore 8, 2)) ?_
  refine r_lload h 0 rfl (by decide +kernel : decode cX12_feed 41 = .ok (.lload 8, 2)) ?_
  refine r_bipush h (v := 56) (by decide) (by decide +kernel : decode cX12_feed 43 = .ok (.bipush 56, 2)) ?_
  refine r_bipush h (v := 8) (by decide) (by decide +kernel : decode cX12_feed 45 = .ok (.bipush 8, 2)) ?_
  refine r_iload h 5 rfl (by decide +kernel : decode cX12_feed 47 = .ok (.iload 7, 2)) ?_
  refine r_bipush h (v := 7) (by decide) (by decide +kernel : decode cX12_feed 49 = .ok (.bipush 7, 2)) ?_
  refine r_iand h (by decide +kernel : decode cX12_feed 51 = .ok (.iand, 1)) ?_
  refine r_imul h (by decide +kernel : decode cX12_feed 52 = .ok (.imul, 1)) ?_
  refine r_isub h (by decide +kernel : decode cX12_feed 53 = .ok (.isub, 1)) ?_
  refine r_lushr h (by decide +kernel : decode cX12_feed 54 = .ok (.lushr, 1)) ?_
  refine r_ldc2 h (v := 255) kc_Mod_151 (by decide +kernel : decode cX12_feed 55 = .ok (.ldc2_w 151, 3)) ?_
  refine r_land h (by decide +kernel : decode cX12_feed 58 = .ok (.land, 1)) ?_
  refine r_l2i h (by decide +kernel : decode cX12_feed 59 = .ok (.l2i, 1)) ?_
  refine r_istore h (L' := [(10, vi (andL (ushrL s0 (56 - (8 * (andI x7 7)))) 255)), (8, vl s0), (0, vr 1), (1, vl x1), (3, vl x3), (5, vl x5), (7, vi x7)]) (by decide) rfl (by decide +kernel : decode cX12_feed 60 = .ok (.istore 10, 2)) ?_
  refine r_aloadn h (q := 0) 2 rfl (by decide +kernel : decode cX12_feed 62 = .ok (.aload_n 0, 1)) ?_
  refine r_getI h f_Mod_153 at1M (by decide +kernel : decode cX12_feed 63 = .ok (.getfield 153, 3)) ?_
  refine r_sipush h (v := 1000) (by decide) (by decide +kernel : decode cX12_feed 66 = .ok (.sipush 1000, 3)) ?_
  obtain ⟨g1, H⟩ := H
  obtain ⟨H1, H2⟩ := H
  refine r_icmp_ge h 114 g1 (by decide) (by decide) (by decide +kernel : decode cX12_feed 69 = .ok (.if_icmp .ge 45, 3)) (fun hc => ?_) (fun hc => ?_)
  · have H := H1 hc
    refine r_iinc h (i := 7) (v := 1) (L' := [(7, vi (x7 + 1)), (10, vi (andL (ushrL s0 (56 - (8 * (andI x7 7)))) 255)), (8, vl s0), (0, vr 1), (1, vl x1), (3, vl x3), (5, vl x5)]) 6 rfl (by decide) rfl (by decide +kernel : decode cX12_feed 114 = .ok (.iinc 7 1, 3)) ?_
    refine r_goto h 8 (by decide) (by decide +kernel : decode cX12_feed 117 = .ok (.goto (-109), 3)) ?_
    refine r_drop h [3, 4, 5, 6, 0] rfl ?_
    exact H
  · have H := H2 hc
    refine r_iload h 0 rfl (by decide +kernel : decode cX12_feed 72 = .ok (.iload 10, 2)) ?_
    refine r_bipush h (v := 10) (by decide) (by decide +kernel : decode cX12_feed 74 = .ok (.bipush 10, 2)) ?_
    obtain ⟨g1, H⟩ := H
    obtain ⟨H1, H2⟩ := H
    refine r_icmp_eq h 93 g1 (by decide) (by decide) (by decide +kernel : decode cX12_feed 76 = .ok (.if_icmp .eq 17, 3)) (fun hc => ?_) (fun hc => ?_)
    · have H := H1 hc
      refine r_drop h [2, 3, 4, 5, 6, 0] rfl ?_
      exact H
    · have H := H2 hc
      refine r_iload h 0 rfl (by decide +kernel : decode cX12_feed 79 = .ok (.iload 10, 2)) ?_
      refine r_bipush h (v := 32) (by decide) (by decide +kernel : decode cX12_feed 81 = .ok (.bipush 32, 2)) ?_
      obtain ⟨g1, H⟩ := H
      obtain ⟨H1, H2⟩ := H
      refine r_icmp_lt h 114 g1 (by decide) (by decide) (by decide +kernel : decode cX12_feed 83 = .ok (.if_icmp .lt 31, 3)) (fun hc => ?_) (fun hc => ?_)
      · have H := H1 hc
        refine r_iinc h (i := 7) (v := 1) (L' := [(7, vi (x7 + 1)), (10, vi (andL (ushrL s0 (56 - (8 * (andI x7 7)))) 255)), (8, vl s0), (0, vr 1), (1, vl x1), (3, vl x3), (5, vl x5)]) 6 rfl (by decide) rfl (by decide +kernel : decode cX12_feed 114 = .ok (.iinc 7 1, 3)) ?_
        refine r_goto h 8 (by decide) (by decide +kernel : decode cX12_feed 117 = .ok (.goto (-109), 3)) ?_
        refine r_drop h [3, 4, 5, 6, 0] rfl ?_
        exact H
      · have H := H2 hc
        refine r_iload h 0 rfl (by decide +kernel : decode cX12_feed 86 = .ok (.iload 10, 2)) ?_
        refine r_bipush h (v := 126) (by decide) (by decide +kernel : decode cX12_feed 88 = .ok (.bipush 126, 2)) ?_
        obtain ⟨g1, H⟩ := H
        obtain ⟨H1, H2⟩ := H
        refine r_icmp_gt h 114 g1 (by decide) (by decide) (by decide +kernel : decode cX12_feed 90 = .ok (.if_icmp .gt 24, 3)) (fun hc => ?_) (fun hc => ?_)
        · have H := H1 hc
          refine r_iinc h (i := 7) (v := 1) (L' := [(7, vi (x7 + 1)), (10, vi (andL (ushrL s0 (56 - (8 * (andI x7 7)))) 255)), (8, vl s0), (0, vr 1), (1, vl x1), (3, vl x3), (5, vl x5)]) 6 rfl (by decide) rfl (by decide +kernel : decode cX12_feed 114 = .ok (.iinc 7 1, 3)) ?_
          refine r_goto h 8 (by decide) (by decide +kernel : decode cX12_feed 117 = .ok (.goto (-109), 3)) ?_
          refine r_drop h [3, 4, 5, 6, 0] rfl ?_
          exact H
        · have H := H2 hc
          refine r_drop h [2, 3, 4, 5, 6, 0] rfl ?_
          exact H
set_option maxHeartbeats 4000000 in
set_option maxRecDepth 100000 in
theorem w_Mod_feed_93 {P : Int → Mm → Prop} {K : Nat → Rr → Nat → List (Nat × AV) → List AV → Mm → Prop} (h : EK shM yX12_feed cX12_feed 11 (some .int) 1 NM NM (QI RRM P) K) (x1 : Int) (x3 : Int) (x5 : Int) (x7 : Int) (x10 : Int) (M : Mm)
    (H : (0 ≤ (M 1 1) ∧ (M 1 1) < 1000) ∧ ∀ M1 : Mm, M1 = (upr M 2 (up1 (M 2) (M 1 1).toNat x10)) → ∀ M2 : Mm, M2 = (upr M1 1 (up1 (M1 1) 1 ((M1 1 1) + 1))) → K NM RRM 8 [(0, vr 1), (1, vl x1), (3, vl x3), (5, vl x5), (7, vi (x7 + 1))] [] M2) :
    K NM RRM 93 [(0, vr 1), (1, vl x1), (3, vl x3), (5, vl x5), (7, vi x7), (10, vi x10)] [] M := by
  refine r_aloadn h (q := 0) 0 rfl (by decide +kernel : decode cX12_feed 93 = .ok (.aload_n 0, 1)) ?_
  refine r_getR h (r := 2) f_Mod_7 at1M rfl (by decide) (by decide +kernel : decode cX12_feed 94 = .ok (.getfield 7, 3)) ?_
  refine r_aloadn h (q := 0) 0 rfl (by decide +kernel : decode cX12_feed 97 = .ok (.aload_n 0, 1)) ?_
  refine r_getI h f_Mod_153 at1M (by decide +kernel : decode cX12_feed 98 = .ok (.getfield 153, 3)) ?_
  refine r_iload h 5 rfl (by decide +kernel : decode cX12_feed 101 = .ok (.iload 10, 2)) ?_
  obtain ⟨g1, H⟩ := H
  refine r_iast h (M 1 1).toNat rfl atM_2 g1 (by decide) (by decide +kernel : decode cX12_feed 103 = .ok (.iastore, 1)) ?_
  have H := H _ rfl
  revert H
  generalize (upr M 2 (up1 (M 2) (M 1 1).toNat x10)) = M1
  intro H
  refine r_aloadn h (q := 0) 0 rfl (by decide +kernel : decode cX12_feed 104 = .ok (.aload_n 0, 1)) ?_
  refine r_dup h rfl (by decide +kernel : decode cX12_feed 105 = .ok (.dup, 1)) ?_
  refine r_getI h f_Mod_153 at1M (by decide +kernel : decode cX12_feed 106 = .ok (.getfield 153, 3)) ?_
  refine r_iconst h (v := 1) (by decide +kernel : decode cX12_feed 109 = .ok (.iconst 1, 1)) ?_
  refine r_iadd h (by decide +kernel : decode cX12_feed 110 = .ok (.iadd, 1)) ?_
  refine r_putI h f_Mod_153 at1M rfl rfl (by decide +kernel : decode cX12_feed 111 = .ok (.putfield 153, 3)) ?_
  have H := H _ rfl
  revert H
  generalize (upr M1 1 (up1 (M1 1) 1 ((M1 1 1) + 1))) = M2
  intro H
  refine r_iinc h (i := 7) (v := 1) (L' := [(7, vi (x7 + 1)), (0, vr 1), (1, vl x1), (3, vl x3), (5, vl x5), (10, vi x10)]) 4 rfl (by decide) rfl (by decide +kernel : decode cX12_feed 114 = .ok (.iinc 7 1, 3)) ?_
  refine r_goto h 8 (by decide) (by decide +kernel : decode cX12_feed 117 = .ok (.goto (-109), 3)) ?_
  refine r_drop h [1, 2, 3, 4, 0] rfl ?_
  exact H
set_option maxHeartbeats 4000000 in
set_option maxRecDepth 100000 in
theorem w_Mod_signAt_0 {P : Int → Mm → Prop} {K : Nat → Rr → Nat → List (Nat × AV) → List AV → Mm → Prop} (h : EK shM yX12_signAt cX12_signAt 2 (some .int) 1 NM NM (QI RRM P) K) (x1 : Int) (M : Mm)
    (H : (rng x1) ∧ (rng (M 1 3)) ∧ ((M 1 3) ≤ x1 → (P 0 M)) ∧ (¬ ((M 1 3) ≤ x1) → ((0 ≤ x1 ∧ x1 < 1000) ∧ P (M 2 x1.toNat) M))) :
    K NM RRM 0 [(0, vr 1), (1, vi x1)] [] M := by
  refine r_iloadn h (q := 1) 1 rfl (by decide +kernel : decode cX12_signAt 0 = .ok (.iload_n 1, 1)) ?_
  refine r_aloadn h (q := 0) 0 rfl (by decide +kernel : decode cX12_signAt 1 = .ok (.aload_n 0, 1)) ?_
  refine r_getI h f_Mod_156 at1M (by decide +kernel : decode cX12_signAt 2 = .ok (.getfield 156, 3)) ?_
  obtain ⟨g1, g2, H⟩ := H
  obtain ⟨H1, H2⟩ := H
  refine r_icmp_ge h 17 g1 g2 (by decide) (by decide +kernel : decode cX12_signAt 5 = .ok (.if_icmp .ge 12, 3)) (fun hc => ?_) (fun hc => ?_)
  · have H := H1 hc
    refine r_iconst h (v := 0) (by decide +kernel : decode cX12_signAt 17 = .ok (.iconst 0, 1)) ?_
    exact r_iret h rfl (by decide +kernel : decode cX12_signAt 18 = .ok (.ireturn, 1)) rfl ⟨rfl, _, rfl, H⟩
  · have H := H2 hc
    refine r_aloadn h (q := 0) 0 rfl (by decide +kernel : decode cX12_signAt 8 = .ok (.aload_n 0, 1)) ?_
    refine r_getR h (r := 2) f_Mod_7 at1M rfl (by decide) (by decide +kernel : decode cX12_signAt 9 = .ok (.getfield 7, 3)) ?_
    refine r_iloadn h (q := 1) 1 rfl (by decide +kernel : decode cX12_signAt 12 = .ok (.iload_n 1, 1)) ?_
    obtain ⟨g1, H⟩ := H
    refine r_iald h x1.toNat rfl atM_2 g1 (by decide) (by decide +kernel : decode cX12_signAt 13 = .ok (.iaload, 1)) ?_
    refine r_goto h 18 (by decide) (by decide +kernel : decode cX12_signAt 14 = .ok (.goto 4, 3)) ?_
    exact r_iret h rfl (by decide +kernel : decode cX12_signAt 18 = .ok (.ireturn, 1)) rfl ⟨rfl, _, rfl, H⟩
theorem W_Mod_signAt (x1 : Int) (M : Mm) {P : Int → Mm → Prop} (H : (rng x1) ∧ (rng (M 1 3)) ∧ ((M 1 3) ≤ x1 → (P 0 M)) ∧ (¬ ((M 1 3) ≤ x1) → ((0 ≤ x1 ∧ x1 < 1000) ∧ P (M 2 x1.toNat) M))) : S_Mod_signAt x1 M P := e_Mod_signAt x1 M (fun _ h => w_Mod_signAt_0 h x1 M H)
set_option maxHeartbeats 4000000 in
set_option maxRecDepth 100000 in
theorem w_Mod_isWord_0 {P : Int → Mm → Prop} {K : Nat → Rr → Nat → List (Nat × AV) → List AV → Mm → Prop} (h : EK shM yX12_isWord cX12_isWord 3 (some .boolean) 1 NM NM (QI RRM P) K) (x1 : Int) (M : Mm)
    (H : (rng (M 1 6)) ∧ ((M 1 6) ≠ 1 → (P 0 M)) ∧ ((M 1 6) = 1 → ((rngL (M 1 7)) ∧ (rngL x1) ∧ ((cmpL (M 1 7) x1) ≠ 0 → (P 0 M)) ∧ ((cmpL (M 1 7) x1) = 0 → (P 1 M))))) :
    K NM RRM 0 [(0, vr 1), (1, vl x1)] [] M := by
  refine r_aloadn h (q := 0) 0 rfl (by decide +kernel : decode cX12_isWord 0 = .ok (.aload_n 0, 1)) ?_
  refine r_getI h f_Mod_172 at1M (by decide +kernel : decode cX12_isWord 1 = .ok (.getfield 172, 3)) ?_
  refine r_iconst h (v := 1) (by decide +kernel : decode cX12_isWord 4 = .ok (.iconst 1, 1)) ?_
  obtain ⟨g1, H⟩ := H
  obtain ⟨H1, H2⟩ := H
  refine r_icmp_ne h 21 g1 (by decide) (by decide) (by decide +kernel : decode cX12_isWord 5 = .ok (.if_icmp .ne 16, 3)) (fun hc => ?_) (fun hc => ?_)
  · have H := H1 hc
    refine r_iconst h (v := 0) (by decide +kernel : decode cX12_isWord 21 = .ok (.iconst 0, 1)) ?_
    exact r_zret h rfl (by decide) (by decide +kernel : decode cX12_isWord 22 = .ok (.ireturn, 1)) rfl ⟨rfl, _, rfl, H⟩
  · have H := H2 hc
    refine r_aloadn h (q := 0) 0 rfl (by decide +kernel : decode cX12_isWord 8 = .ok (.aload_n 0, 1)) ?_
    refine r_getL h f_Mod_165 at1M (by decide +kernel : decode cX12_isWord 9 = .ok (.getfield 165, 3)) ?_
    refine r_lloadn h (q := 1) 1 rfl (by decide +kernel : decode cX12_isWord 12 = .ok (.lload_n 1, 1)) ?_
    obtain ⟨g1, g2, H⟩ := H
    refine r_lcmp h g1 g2 (by decide +kernel : decode cX12_isWord 13 = .ok (.lcmp, 1)) ?_
    obtain ⟨H1, H2⟩ := H
    refine r_if_ne h 21 (rng_cmpL _ _) (by decide) (by decide +kernel : decode cX12_isWord 14 = .ok (.ifCond .ne 7, 3)) (fun hc => ?_) (fun hc => ?_)
    · have H := H1 hc
      refine r_iconst h (v := 0) (by decide +kernel : decode cX12_isWord 21 = .ok (.iconst 0, 1)) ?_
      exact r_zret h rfl (by decide) (by decide +kernel : decode cX12_isWord 22 = .ok (.ireturn, 1)) rfl ⟨rfl, _, rfl, H⟩
    · have H := H2 hc
      refine r_iconst h (v := 1) (by decide +kernel : decode cX12_isWord 17 = .ok (.iconst 1, 1)) ?_
      refine r_goto h 22 (by decide) (by decide +kernel : decode cX12_isWord 18 = .ok (.goto 4, 3)) ?_
      exact r_zret h rfl (by decide) (by decide +kernel : decode cX12_isWord 22 = .ok (.ireturn, 1)) rfl ⟨rfl, _, rfl, H⟩
theorem W_Mod_isWord (x1 : Int) (M : Mm) {P : Int → Mm → Prop} (H : (rng (M 1 6)) ∧ ((M 1 6) ≠ 1 → (P 0 M)) ∧ ((M 1 6) = 1 → ((rngL (M 1 7)) ∧ (rngL x1) ∧ ((cmpL (M 1 7) x1) ≠ 0 → (P 0 M)) ∧ ((cmpL (M 1 7) x1) = 0 → (P 1 M))))) : S_Mod_isWord x1 M P := e_Mod_isWord x1 M (fun _ h => w_Mod_isWord_0 h x1 M H)
set_option maxHeartbeats 4000000 in
set_option maxRecDepth 100000 in
theorem w_Mod_isSign_0 {P : Int → Mm → Prop} {K : Nat → Rr → Nat → List (Nat × AV) → List AV → Mm → Prop} (h : EK shM yX12_isSign cX12_isSign 2 (some .boolean) 1 NM NM (QI RRM P) K) (x1 : Int) (M : Mm)
    (H : (rng (M 1 6)) ∧ ((M 1 6) ≠ 3 → (P 0 M)) ∧ ((M 1 6) = 3 → ((0 ≤ (M 1 5) ∧ (M 1 5) < 1000) ∧ (rng (M 2 (M 1 5).toNat)) ∧ (rng x1) ∧ ((M 2 (M 1 5).toNat) ≠ x1 → (P 0 M)) ∧ ((M 2 (M 1 5).toNat) = x1 → (P 1 M))))) :
    K NM RRM 0 [(0, vr 1), (1, vi x1)] [] M := by
  refine r_aloadn h (q := 0) 0 rfl (by decide +kernel : decode cX12_isSign 0 = .ok (.aload_n 0, 1)) ?_
  refine r_getI h f_Mod_172 at1M (by decide +kernel : decode cX12_isSign 1 = .ok (.getfield 172, 3)) ?_
  refine r_iconst h (v := 3) (by decide +kernel : decode cX12_isSign 4 = .ok (.iconst 3, 1)) ?_
  obtain ⟨g1, H⟩ := H
  obtain ⟨H1, H2⟩ := H
  refine r_icmp_ne h 25 g1 (by decide) (by decide) (by decide +kernel : decode cX12_isSign 5 = .ok (.if_icmp .ne 20, 3)) (fun hc => ?_) (fun hc => ?_)
  · have H := H1 hc
    refine r_iconst h (v := 0) (by decide +kernel : decode cX12_isSign 25 = .ok (.iconst 0, 1)) ?_
    exact r_zret h rfl (by decide) (by decide +kernel : decode cX12_isSign 26 = .ok (.ireturn, 1)) rfl ⟨rfl, _, rfl, H⟩
  · have H := H2 hc
    refine r_aloadn h (q := 0) 0 rfl (by decide +kernel : decode cX12_isSign 8 = .ok (.aload_n 0, 1)) ?_
    refine r_getR h (r := 2) f_Mod_7 at1M rfl (by decide) (by decide +kernel : decode cX12_isSign 9 = .ok (.getfield 7, 3)) ?_
    refine r_aloadn h (q := 0) 0 rfl (by decide +kernel : decode cX12_isSign 12 = .ok (.aload_n 0, 1)) ?_
    refine r_getI h f_Mod_162 at1M (by decide +kernel : decode cX12_isSign 13 = .ok (.getfield 162, 3)) ?_
    obtain ⟨g1, H⟩ := H
    refine r_iald h (M 1 5).toNat rfl atM_2 g1 (by decide) (by decide +kernel : decode cX12_isSign 16 = .ok (.iaload, 1)) ?_
    refine r_iloadn h (q := 1) 1 rfl (by decide +kernel : decode cX12_isSign 17 = .ok (.iload_n 1, 1)) ?_
    obtain ⟨g1, g2, H⟩ := H
    obtain ⟨H1, H2⟩ := H
    refine r_icmp_ne h 25 g1 g2 (by decide) (by decide +kernel : decode cX12_isSign 18 = .ok (.if_icmp .ne 7, 3)) (fun hc => ?_) (fun hc => ?_)
    · have H := H1 hc
      refine r_iconst h (v := 0) (by decide +kernel : decode cX12_isSign 25 = .ok (.iconst 0, 1)) ?_
      exact r_zret h rfl (by decide) (by decide +kernel : decode cX12_isSign 26 = .ok (.ireturn, 1)) rfl ⟨rfl, _, rfl, H⟩
    · have H := H2 hc
      refine r_iconst h (v := 1) (by decide +kernel : decode cX12_isSign 21 = .ok (.iconst 1, 1)) ?_
      refine r_goto h 26 (by decide) (by decide +kernel : decode cX12_isSign 22 = .ok (.goto 4, 3)) ?_
      exact r_zret h rfl (by decide) (by decide +kernel : decode cX12_isSign 26 = .ok (.ireturn, 1)) rfl ⟨rfl, _, rfl, H⟩
theorem W_Mod_isSign (x1 : Int) (M : Mm) {P : Int → Mm → Prop} (H : (rng (M 1 6)) ∧ ((M 1 6) ≠ 3 → (P 0 M)) ∧ ((M 1 6) = 3 → ((0 ≤ (M 1 5) ∧ (M 1 5) < 1000) ∧ (rng (M 2 (M 1 5).toNat)) ∧ (rng x1) ∧ ((M 2 (M 1 5).toNat) ≠ x1 → (P 0 M)) ∧ ((M 2 (M 1 5).toNat) = x1 → (P 1 M))))) : S_Mod_isSign x1 M P := e_Mod_isSign x1 M (fun _ h => w_Mod_isSign_0 h x1 M H)
set_option maxHeartbeats 4000000 in
set_option maxRecDepth 100000 in
theorem w_Mod_fails_0 {P : Int → Mm → Prop} {K : Nat → Rr → Nat → List (Nat × AV) → List AV → Mm → Prop} (h : EK shM yX12_fails cX12_fails 2 (some .boolean) 1 NM NM (QI RRM P) K) (x1 : Int) (M : Mm)
    (H : ∀ M1 : Mm, M1 = (upr M 1 (up1 (M 1) 9 (x1 + (16 * (M 1 5))))) → P 0 M1) :
    K NM RRM 0 [(0, vr 1), (1, vi x1)] [] M := by
  refine r_aloadn h (q := 0) 0 rfl (by decide +kernel : decode cX12_fails 0 = .ok (.aload_n 0, 1)) ?_
  refine r_iloadn h (q := 1) 1 rfl (by decide +kernel : decode cX12_fails 1 = .ok (.iload_n 1, 1)) ?_
  refine r_bipush h (v := 16) (by decide) (by decide +kernel : decode cX12_fails 2 = .ok (.bipush 16, 2)) ?_
  refine r_aloadn h (q := 0) 0 rfl (by decide +kernel : decode cX12_fails 4 = .ok (.aload_n 0, 1)) ?_
  refine r_getI h f_Mod_162 at1M (by decide +kernel : decode cX12_fails 5 = .ok (.getfield 162, 3)) ?_
  refine r_imul h (by decide +kernel : decode cX12_fails 8 = .ok (.imul, 1)) ?_
  refine r_iadd h (by decide +kernel : decode cX12_fails 9 = .ok (.iadd, 1)) ?_
  refine r_putI h f_Mod_183 at1M rfl rfl (by decide +kernel : decode cX12_fails 10 = .ok (.putfield 183, 3)) ?_
  have H := H _ rfl
  revert H
  generalize (upr M 1 (up1 (M 1) 9 (x1 + (16 * (M 1 5))))) = M1
  intro H
  refine r_iconst h (v := 0) (by decide +kernel : decode cX12_fails 13 = .ok (.iconst 0, 1)) ?_
  exact r_zret h rfl (by decide) (by decide +kernel : decode cX12_fails 14 = .ok (.ireturn, 1)) rfl ⟨rfl, _, rfl, H⟩
theorem W_Mod_fails (x1 : Int) (M : Mm) {P : Int → Mm → Prop} (H : ∀ M1 : Mm, M1 = (upr M 1 (up1 (M 1) 9 (x1 + (16 * (M 1 5))))) → P 0 M1) : S_Mod_fails x1 M P := e_Mod_fails x1 M (fun _ h => w_Mod_fails_0 h x1 M H)
set_option maxHeartbeats 4000000 in
set_option maxRecDepth 100000 in
theorem w_Mod_puts_0 {P : Mm → Prop} {K : Nat → Rr → Nat → List (Nat × AV) → List AV → Mm → Prop} (h : EK shM yX12_puts cX12_puts 2 none 1 NM NM (QV RRM P) K) (x1 : Int) (M : Mm)
    (H : (0 ≤ (M 1 21) ∧ (M 1 21) < 2000) ∧ ∀ M1 : Mm, M1 = (upr M 13 (up1 (M 13) (M 1 21).toNat x1)) → ∀ M2 : Mm, M2 = (upr M1 1 (up1 (M1 1) 21 ((M1 1 21) + 1))) → P M2) :
    K NM RRM 0 [(0, vr 1), (1, vi x1)] [] M := by
  refine r_aloadn h (q := 0) 0 rfl (by decide +kernel : decode cX12_puts 0 = .ok (.aload_n 0, 1)) ?_
  refine r_getR h (r := 13) f_Mod_44 at1M rfl (by decide) (by decide +kernel : decode cX12_puts 1 = .ok (.getfield 44, 3)) ?_
  refine r_aloadn h (q := 0) 0 rfl (by decide +kernel : decode cX12_puts 4 = .ok (.aload_n 0, 1)) ?_
  refine r_getI h f_Mod_186 at1M (by decide +kernel : decode cX12_puts 5 = .ok (.getfield 186, 3)) ?_
  refine r_iloadn h (q := 1) 1 rfl (by decide +kernel : decode cX12_puts 8 = .ok (.iload_n 1, 1)) ?_
  obtain ⟨g1, H⟩ := H
  refine r_iast h (M 1 21).toNat rfl atM_13 g1 (by decide) (by decide +kernel : decode cX12_puts 9 = .ok (.iastore, 1)) ?_
  have H := H _ rfl
  revert H
  generalize (upr M 13 (up1 (M 13) (M 1 21).toNat x1)) = M1
  intro H
  refine r_aloadn h (q := 0) 0 rfl (by decide +kernel : decode cX12_puts 10 = .ok (.aload_n 0, 1)) ?_
  refine r_dup h rfl (by decide +kernel : decode cX12_puts 11 = .ok (.dup, 1)) ?_
  refine r_getI h f_Mod_186 at1M (by decide +kernel : decode cX12_puts 12 = .ok (.getfield 186, 3)) ?_
  refine r_iconst h (v := 1) (by decide +kernel : decode cX12_puts 15 = .ok (.iconst 1, 1)) ?_
  refine r_iadd h (by decide +kernel : decode cX12_puts 16 = .ok (.iadd, 1)) ?_
  refine r_putI h f_Mod_186 at1M rfl rfl (by decide +kernel : decode cX12_puts 17 = .ok (.putfield 186, 3)) ?_
  have H := H _ rfl
  revert H
  generalize (upr M1 1 (up1 (M1 1) 21 ((M1 1 21) + 1))) = M2
  intro H
  exact r_vret h rfl (by decide +kernel : decode cX12_puts 20 = .ok (.return_, 1)) rfl ⟨rfl, rfl, H⟩
theorem W_Mod_puts (x1 : Int) (M : Mm) {P : Mm → Prop} (H : (0 ≤ (M 1 21) ∧ (M 1 21) < 2000) ∧ ∀ M1 : Mm, M1 = (upr M 13 (up1 (M 13) (M 1 21).toNat x1)) → ∀ M2 : Mm, M2 = (upr M1 1 (up1 (M1 1) 21 ((M1 1 21) + 1))) → P M2) : S_Mod_puts x1 M P := e_Mod_puts x1 M (fun _ h => w_Mod_puts_0 h x1 M H)
set_option maxHeartbeats 4000000 in
set_option maxRecDepth 100000 in
theorem w_Mod_fact_0 {P : Int → Mm → Prop} {K : Nat → Rr → Nat → List (Nat × AV) → List AV → Mm → Prop} (h : EK shM yX12_fact cX12_fact 1 (some .int) 1 NM NM (QI RRM P) K)  (M : Mm)
    (H : (rng (M 1 6)) ∧ ((M 1 6) = 1 → ((rngL (M 1 7)) ∧ ((cmpL (M 1 7) 459383) ≠ 0 → ((rngL (M 1 7)) ∧ ((cmpL (M 1 7) 79828) ≠ 0 → ((rngL (M 1 7)) ∧ ((cmpL (M 1 7) 857670836) ≠ 0 → ((rng (M 1 22)) ∧ ((M 1 22) ≠ 0 → ((rngL (M 1 7)) ∧ ((cmpL (M 1 7) 1299899) ≠ 0 → ((rngL (M 1 7)) ∧ ((cmpL (M 1 7) 453774) ≠ 0 → (P 0 M)) ∧ ((cmpL (M 1 7) 453774) = 0 → (P 5 M)))) ∧ ((cmpL (M 1 7) 1299899) = 0 → (P 4 M)))) ∧ ((M 1 22) = 0 → (P 0 M)))) ∧ ((cmpL (M 1 7) 857670836) = 0 → (P 3 M)))) ∧ ((cmpL (M 1 7) 79828) = 0 → (P 2 M)))) ∧ ((cmpL (M 1 7) 459383) = 0 → (P 1 M)))) ∧ ((M 1 6) ≠ 1 → (P 0 M))) :
    K NM RRM 0 [(0, vr 1)] [] M := by
  refine r_aloadn h (q := 0) 0 rfl (by decide +kernel : decode cX12_fact 0 = .ok (.aload_n 0, 1)) ?_
  refine r_getI h f_Mod_172 at1M (by decide +kernel : decode cX12_fact 1 = .ok (.getfield 172, 3)) ?_
  refine r_iconst h (v := 1) (by decide +kernel : decode cX12_fact 4 = .ok (.iconst 1, 1)) ?_
  obtain ⟨g1, H⟩ := H
  obtain ⟨H1, H2⟩ := H
  refine r_icmp_eq h 10 g1 (by decide) (by decide) (by decide +kernel : decode cX12_fact 5 = .ok (.if_icmp .eq 5, 3)) (fun hc => ?_) (fun hc => ?_)
  · have H := H1 hc
    refine r_aloadn h (q := 0) 0 rfl (by decide +kernel : decode cX12_fact 10 = .ok (.aload_n 0, 1)) ?_
    refine r_getL h f_Mod_165 at1M (by decide +kernel : decode cX12_fact 11 = .ok (.getfield 165, 3)) ?_
    refine r_ldc2 h (v := 459383) kc_Mod_189 (by decide +kernel : decode cX12_fact 14 = .ok (.ldc2_w 189, 3)) ?_
    obtain ⟨g1, H⟩ := H
    refine r_lcmp h g1 (by decide) (by decide +kernel : decode cX12_fact 17 = .ok (.lcmp, 1)) ?_
    obtain ⟨H1, H2⟩ := H
    refine r_if_ne h 23 (rng_cmpL _ _) (by decide) (by decide +kernel : decode cX12_fact 18 = .ok (.ifCond .ne 5, 3)) (fun hc => ?_) (fun hc => ?_)
    · have H := H1 hc
      refine r_aloadn h (q := 0) 0 rfl (by decide +kernel : decode cX12_fact 23 = .ok (.aload_n 0, 1)) ?_
      refine r_getL h f_Mod_165 at1M (by decide +kernel : decode cX12_fact 24 = .ok (.getfield 165, 3)) ?_
      refine r_ldc2 h (v := 79828) kc_Mod_191 (by decide +kernel : decode cX12_fact 27 = .ok (.ldc2_w 191, 3)) ?_
      obtain ⟨g1, H⟩ := H
      refine r_lcmp h g1 (by decide) (by decide +kernel : decode cX12_fact 30 = .ok (.lcmp, 1)) ?_
      obtain ⟨H1, H2⟩ := H
      refine r_if_ne h 36 (rng_cmpL _ _) (by decide) (by decide +kernel : decode cX12_fact 31 = .ok (.ifCond .ne 5, 3)) (fun hc => ?_) (fun hc => ?_)
      · have H := H1 hc
        refine r_aloadn h (q := 0) 0 rfl (by decide +kernel : decode cX12_fact 36 = .ok (.aload_n 0, 1)) ?_
        refine r_getL h f_Mod_165 at1M (by decide +kernel : decode cX12_fact 37 = .ok (.getfield 165, 3)) ?_
        refine r_ldc2 h (v := 857670836) kc_Mod_193 (by decide +kernel : decode cX12_fact 40 = .ok (.ldc2_w 193, 3)) ?_
        obtain ⟨g1, H⟩ := H
        refine r_lcmp h g1 (by decide) (by decide +kernel : decode cX12_fact 43 = .ok (.lcmp, 1)) ?_
        obtain ⟨H1, H2⟩ := H
        refine r_if_ne h 49 (rng_cmpL _ _) (by decide) (by decide +kernel : decode cX12_fact 44 = .ok (.ifCond .ne 5, 3)) (fun hc => ?_) (fun hc => ?_)
        · have H := H1 hc
          refine r_aloadn h (q := 0) 0 rfl (by decide +kernel : decode cX12_fact 49 = .ok (.aload_n 0, 1)) ?_
          refine r_getI h f_Mod_195 at1M (by decide +kernel : decode cX12_fact 50 = .ok (.getfield 195, 3)) ?_
          obtain ⟨g1, H⟩ := H
          obtain ⟨H1, H2⟩ := H
          refine r_if_ne h 58 g1 (by decide) (by decide +kernel : decode cX12_fact 53 = .ok (.ifCond .ne 5, 3)) (fun hc => ?_) (fun hc => ?_)
          · have H := H1 hc
            refine r_aloadn h (q := 0) 0 rfl (by decide +kernel : decode cX12_fact 58 = .ok (.aload_n 0, 1)) ?_
            refine r_getL h f_Mod_165 at1M (by decide +kernel : decode cX12_fact 59 = .ok (.getfield 165, 3)) ?_
            refine r_ldc2 h (v := 1299899) kc_Mod_198 (by decide +kernel : decode cX12_fact 62 = .ok (.ldc2_w 198, 3)) ?_
            obtain ⟨g1, H⟩ := H
            refine r_lcmp h g1 (by decide) (by decide +kernel : decode cX12_fact 65 = .ok (.lcmp, 1)) ?_
            obtain ⟨H1, H2⟩ := H
            refine r_if_ne h 73 (rng_cmpL _ _) (by decide) (by decide +kernel : decode cX12_fact 66 = .ok (.ifCond .ne 7, 3)) (fun hc => ?_) (fun hc => ?_)
            · have H := H1 hc
              refine r_aloadn h (q := 0) 0 rfl (by decide +kernel : decode cX12_fact 73 = .ok (.aload_n 0, 1)) ?_
              refine r_getL h f_Mod_165 at1M (by decide +kernel : decode cX12_fact 74 = .ok (.getfield 165, 3)) ?_
              refine r_ldc2 h (v := 453774) kc_Mod_200 (by decide +kernel : decode cX12_fact 77 = .ok (.ldc2_w 200, 3)) ?_
              obtain ⟨g1, H⟩ := H
              refine r_lcmp h g1 (by decide) (by decide +kernel : decode cX12_fact 80 = .ok (.lcmp, 1)) ?_
              obtain ⟨H1, H2⟩ := H
              refine r_if_ne h 88 (rng_cmpL _ _) (by decide) (by decide +kernel : decode cX12_fact 81 = .ok (.ifCond .ne 7, 3)) (fun hc => ?_) (fun hc => ?_)
              · have H := H1 hc
                refine r_iconst h (v := 0) (by decide +kernel : decode cX12_fact 88 = .ok (.iconst 0, 1)) ?_
                exact r_iret h rfl (by decide +kernel : decode cX12_fact 89 = .ok (.ireturn, 1)) rfl ⟨rfl, _, rfl, H⟩
              · have H := H2 hc
                refine r_iconst h (v := 5) (by decide +kernel : decode cX12_fact 84 = .ok (.iconst 5, 1)) ?_
                refine r_goto h 89 (by decide) (by decide +kernel : decode cX12_fact 85 = .ok (.goto 4, 3)) ?_
                exact r_iret h rfl (by decide +kernel : decode cX12_fact 89 = .ok (.ireturn, 1)) rfl ⟨rfl, _, rfl, H⟩
            · have H := H2 hc
              refine r_iconst h (v := 4) (by decide +kernel : decode cX12_fact 69 = .ok (.iconst 4, 1)) ?_
              refine r_goto h 89 (by decide) (by decide +kernel : decode cX12_fact 70 = .ok (.goto 19, 3)) ?_
              exact r_iret h rfl (by decide +kernel : decode cX12_fact 89 = .ok (.ireturn, 1)) rfl ⟨rfl, _, rfl, H⟩
          · have H := H2 hc
            refine r_iconst h (v := 0) (by decide +kernel : decode cX12_fact 56 = .ok (.iconst 0, 1)) ?_
            exact r_iret h rfl (by decide +kernel : decode cX12_fact 57 = .ok (.ireturn, 1)) rfl ⟨rfl, _, rfl, H⟩
        · have H := H2 hc
          refine r_iconst h (v := 3) (by decide +kernel : decode cX12_fact 47 = .ok (.iconst 3, 1)) ?_
          exact r_iret h rfl (by decide +kernel : decode cX12_fact 48 = .ok (.ireturn, 1)) rfl ⟨rfl, _, rfl, H⟩
      · have H := H2 hc
        refine r_iconst h (v := 2) (by decide +kernel : decode cX12_fact 34 = .ok (.iconst 2, 1)) ?_
        exact r_iret h rfl (by decide +kernel : decode cX12_fact 35 = .ok (.ireturn, 1)) rfl ⟨rfl, _, rfl, H⟩
    · have H := H2 hc
      refine r_iconst h (v := 1) (by decide +kernel : decode cX12_fact 21 = .ok (.iconst 1, 1)) ?_
      exact r_iret h rfl (by decide +kernel : decode cX12_fact 22 = .ok (.ireturn, 1)) rfl ⟨rfl, _, rfl, H⟩
  · have H := H2 hc
    refine r_iconst h (v := 0) (by decide +kernel : decode cX12_fact 8 = .ok (.iconst 0, 1)) ?_
    exact r_iret h rfl (by decide +kernel : decode cX12_fact 9 = .ok (.ireturn, 1)) rfl ⟨rfl, _, rfl, H⟩
theorem W_Mod_fact  (M : Mm) {P : Int → Mm → Prop} (H : (rng (M 1 6)) ∧ ((M 1 6) = 1 → ((rngL (M 1 7)) ∧ ((cmpL (M 1 7) 459383) ≠ 0 → ((rngL (M 1 7)) ∧ ((cmpL (M 1 7) 79828) ≠ 0 → ((rngL (M 1 7)) ∧ ((cmpL (M 1 7) 857670836) ≠ 0 → ((rng (M 1 22)) ∧ ((M 1 22) ≠ 0 → ((rngL (M 1 7)) ∧ ((cmpL (M 1 7) 1299899) ≠ 0 → ((rngL (M 1 7)) ∧ ((cmpL (M 1 7) 453774) ≠ 0 → (P 0 M)) ∧ ((cmpL (M 1 7) 453774) = 0 → (P 5 M)))) ∧ ((cmpL (M 1 7) 1299899) = 0 → (P 4 M)))) ∧ ((M 1 22) = 0 → (P 0 M)))) ∧ ((cmpL (M 1 7) 857670836) = 0 → (P 3 M)))) ∧ ((cmpL (M 1 7) 79828) = 0 → (P 2 M)))) ∧ ((cmpL (M 1 7) 459383) = 0 → (P 1 M)))) ∧ ((M 1 6) ≠ 1 → (P 0 M))) : S_Mod_fact  M P := e_Mod_fact  M (fun _ h => w_Mod_fact_0 h  M H)
set_option maxHeartbeats 4000000 in
set_option maxRecDepth 100000 in
theorem w_Mod_opens_0 {P : Mm → Prop} {K : Nat → Rr → Nat → List (Nat × AV) → List AV → Mm → Prop} (h : EK shM yX12_opens cX12_opens 2 none 1 NM NM (QV RRM P) K) (x1 : Int) (M : Mm)
    (H : (0 ≤ x1 ∧ x1 < 7) ∧ ∀ M1 : Mm, M1 = (upr M 17 (up1 (M 17) x1.toNat 0)) → (0 ≤ x1 ∧ x1 < 7) ∧ ∀ M2 : Mm, M2 = (upr M1 19 (up1 (M1 19) x1.toNat 0)) → (0 ≤ x1 ∧ x1 < 7) ∧ ∀ M3 : Mm, M3 = (upr M2 20 (up1 (M2 20) x1.toNat 0)) → (0 ≤ x1 ∧ x1 < 7) ∧ ∀ M4 : Mm, M4 = (upr M3 21 (up1 (M3 21) x1.toNat 20)) → (0 ≤ x1 ∧ x1 < 7) ∧ ∀ M5 : Mm, M5 = (upr M4 23 (up1 (M4 23) x1.toNat 0)) → P M5) :
    K NM RRM 0 [(0, vr 1), (1, vi x1)] [] M := by
  refine r_aloadn h (q := 0) 0 rfl (by decide +kernel : decode cX12_opens 0 = .ok (.aload_n 0, 1)) ?_
  refine r_getR h (r := 17) f_Mod_57 at1M rfl (by decide) (by decide +kernel : decode cX12_opens 1 = .ok (.getfield 57, 3)) ?_
  refine r_iloadn h (q := 1) 1 rfl (by decide +kernel : decode cX12_opens 4 = .ok (.iload_n 1, 1)) ?_
  refine r_iconst h (v := 0) (by decide +kernel : decode cX12_opens 5 = .ok (.iconst 0, 1)) ?_
  obtain ⟨g1, H⟩ := H
  refine r_iast h x1.toNat rfl atM_17 g1 (by decide) (by decide +kernel : decode cX12_opens 6 = .ok (.iastore, 1)) ?_
  have H := H _ rfl
  revert H
  generalize (upr M 17 (up1 (M 17) x1.toNat 0)) = M1
  intro H
  refine r_aloadn h (q := 0) 0 rfl (by decide +kernel : decode cX12_opens 7 = .ok (.aload_n 0, 1)) ?_
  refine r_getR h (r := 19) f_Mod_63 at1M rfl (by decide) (by decide +kernel : decode cX12_opens 8 = .ok (.getfield 63, 3)) ?_
  refine r_iloadn h (q := 1) 1 rfl (by decide +kernel : decode cX12_opens 11 = .ok (.iload_n 1, 1)) ?_
  refine r_iconst h (v := 0) (by decide +kernel : decode cX12_opens 12 = .ok (.iconst 0, 1)) ?_
  obtain ⟨g1, H⟩ := H
  refine r_iast h x1.toNat rfl atM_19 g1 (by decide) (by decide +kernel : decode cX12_opens 13 = .ok (.iastore, 1)) ?_
  have H := H _ rfl
  revert H
  generalize (upr M1 19 (up1 (M1 19) x1.toNat 0)) = M2
  intro H
  refine r_aloadn h (q := 0) 0 rfl (by decide +kernel : decode cX12_opens 14 = .ok (.aload_n 0, 1)) ?_
  refine r_getR h (r := 20) f_Mod_66 at1M rfl (by decide) (by decide +kernel : decode cX12_opens 15 = .ok (.getfield 66, 3)) ?_
  refine r_iloadn h (q := 1) 1 rfl (by decide +kernel : decode cX12_opens 18 = .ok (.iload_n 1, 1)) ?_
  refine r_iconst h (v := 0) (by decide +kernel : decode cX12_opens 19 = .ok (.iconst 0, 1)) ?_
  obtain ⟨g1, H⟩ := H
  refine r_iast h x1.toNat rfl atM_20 g1 (by decide) (by decide +kernel : decode cX12_opens 20 = .ok (.iastore, 1)) ?_
  have H := H _ rfl
  revert H
  generalize (upr M2 20 (up1 (M2 20) x1.toNat 0)) = M3
  intro H
  refine r_aloadn h (q := 0) 0 rfl (by decide +kernel : decode cX12_opens 21 = .ok (.aload_n 0, 1)) ?_
  refine r_getR h (r := 21) f_Mod_69 at1M rfl (by decide) (by decide +kernel : decode cX12_opens 22 = .ok (.getfield 69, 3)) ?_
  refine r_iloadn h (q := 1) 1 rfl (by decide +kernel : decode cX12_opens 25 = .ok (.iload_n 1, 1)) ?_
  refine r_bipush h (v := 20) (by decide) (by decide +kernel : decode cX12_opens 26 = .ok (.bipush 20, 2)) ?_
  obtain ⟨g1, H⟩ := H
  refine r_iast h x1.toNat rfl atM_21 g1 (by decide) (by decide +kernel : decode cX12_opens 28 = .ok (.iastore, 1)) ?_
  have H := H _ rfl
  revert H
  generalize (upr M3 21 (up1 (M3 21) x1.toNat 20)) = M4
  intro H
  refine r_aloadn h (q := 0) 0 rfl (by decide +kernel : decode cX12_opens 29 = .ok (.aload_n 0, 1)) ?_
  refine r_getR h (r := 23) f_Mod_75 at1M rfl (by decide) (by decide +kernel : decode cX12_opens 30 = .ok (.getfield 75, 3)) ?_
  refine r_iloadn h (q := 1) 1 rfl (by decide +kernel : decode cX12_opens 33 = .ok (.iload_n 1, 1)) ?_
  refine r_iconst h (v := 0) (by decide +kernel : decode cX12_opens 34 = .ok (.iconst 0, 1)) ?_
  obtain ⟨g1, H⟩ := H
  refine r_iast h x1.toNat rfl atM_23 g1 (by decide) (by decide +kernel : decode cX12_opens 35 = .ok (.iastore, 1)) ?_
  have H := H _ rfl
  revert H
  generalize (upr M4 23 (up1 (M4 23) x1.toNat 0)) = M5
  intro H
  exact r_vret h rfl (by decide +kernel : decode cX12_opens 36 = .ok (.return_, 1)) rfl ⟨rfl, rfl, H⟩
theorem W_Mod_opens (x1 : Int) (M : Mm) {P : Mm → Prop} (H : (0 ≤ x1 ∧ x1 < 7) ∧ ∀ M1 : Mm, M1 = (upr M 17 (up1 (M 17) x1.toNat 0)) → (0 ≤ x1 ∧ x1 < 7) ∧ ∀ M2 : Mm, M2 = (upr M1 19 (up1 (M1 19) x1.toNat 0)) → (0 ≤ x1 ∧ x1 < 7) ∧ ∀ M3 : Mm, M3 = (upr M2 20 (up1 (M2 20) x1.toNat 0)) → (0 ≤ x1 ∧ x1 < 7) ∧ ∀ M4 : Mm, M4 = (upr M3 21 (up1 (M3 21) x1.toNat 20)) → (0 ≤ x1 ∧ x1 < 7) ∧ ∀ M5 : Mm, M5 = (upr M4 23 (up1 (M4 23) x1.toNat 0)) → P M5) : S_Mod_opens x1 M P := e_Mod_opens x1 M (fun _ h => w_Mod_opens_0 h x1 M H)
set_option maxHeartbeats 4000000 in
set_option maxRecDepth 100000 in
theorem w_Mod_sums_0 {P : Mm → Prop} {K : Nat → Rr → Nat → List (Nat × AV) → List AV → Mm → Prop} (h : EK shM yX12_sums cX12_sums 2 none 1 NM NM (QV RRM P) K) (x1 : Int) (M : Mm)
    (H : (0 ≤ x1 ∧ x1 < 7) ∧ (rng (M 21 x1.toNat)) ∧ ((M 21 x1.toNat) ≠ 21 → ((0 ≤ x1 ∧ x1 < 7) ∧ (0 ≤ x1 ∧ x1 < 7) ∧ (0 ≤ x1 ∧ x1 < 7) ∧ ∀ M1 : Mm, M1 = (upr M 20 (up1 (M 20) x1.toNat (addW (M 20 x1.toNat) (M 22 x1.toNat)))) → (0 ≤ x1 ∧ x1 < 7) ∧ ∀ M2 : Mm, M2 = (upr M1 23 (up1 (M1 23) x1.toNat 0)) → P M2)) ∧ ((M 21 x1.toNat) = 21 → ((0 ≤ x1 ∧ x1 < 7) ∧ (0 ≤ x1 ∧ x1 < 7) ∧ (0 ≤ x1 ∧ x1 < 7) ∧ ∀ M3 : Mm, M3 = (upr M 20 (up1 (M 20) x1.toNat (subW (M 20 x1.toNat) (M 22 x1.toNat)))) → (0 ≤ x1 ∧ x1 < 7) ∧ ∀ M4 : Mm, M4 = (upr M3 23 (up1 (M3 23) x1.toNat 0)) → P M4))) :
    K NM RRM 0 [(0, vr 1), (1, vi x1)] [] M := by
  refine r_aloadn h (q := 0) 0 rfl (by decide +kernel : decode cX12_sums 0 = .ok (.aload_n 0, 1)) ?_
  refine r_getR h (r := 20) f_Mod_66 at1M rfl (by decide) (by decide +kernel : decode cX12_sums 1 = .ok (.getfield 66, 3)) ?_
  refine r_iloadn h (q := 1) 1 rfl (by decide +kernel : decode cX12_sums 4 = .ok (.iload_n 1, 1)) ?_
  refine r_aloadn h (q := 0) 0 rfl (by decide +kernel : decode cX12_sums 5 = .ok (.aload_n 0, 1)) ?_
  refine r_getR h (r := 21) f_Mod_69 at1M rfl (by decide) (by decide +kernel : decode cX12_sums 6 = .ok (.getfield 69, 3)) ?_
  refine r_iloadn h (q := 1) 1 rfl (by decide +kernel : decode cX12_sums 9 = .ok (.iload_n 1, 1)) ?_
  obtain ⟨g1, H⟩ := H
  refine r_iald h x1.toNat rfl atM_21 g1 (by decide) (by decide +kernel : decode cX12_sums 10 = .ok (.iaload, 1)) ?_
  refine r_bipush h (v := 21) (by decide) (by decide +kernel : decode cX12_sums 11 = .ok (.bipush 21, 2)) ?_
  obtain ⟨g1, H⟩ := H
  obtain ⟨H1, H2⟩ := H
  refine r_icmp_ne h 32 g1 (by decide) (by decide) (by decide +kernel : decode cX12_sums 13 = .ok (.if_icmp .ne 19, 3)) (fun hc => ?_) (fun hc => ?_)
  · have H := H1 hc
    refine r_aloadn h (q := 0) 0 rfl (by decide +kernel : decode cX12_sums 32 = .ok (.aload_n 0, 1)) ?_
    refine r_getR h (r := 20) f_Mod_66 at1M rfl (by decide) (by decide +kernel : decode cX12_sums 33 = .ok (.getfield 66, 3)) ?_
    refine r_iloadn h (q := 1) 1 rfl (by decide +kernel : decode cX12_sums 36 = .ok (.iload_n 1, 1)) ?_
    obtain ⟨g1, H⟩ := H
    refine r_iald h x1.toNat rfl atM_20 g1 (by decide) (by decide +kernel : decode cX12_sums 37 = .ok (.iaload, 1)) ?_
    refine r_aloadn h (q := 0) 0 rfl (by decide +kernel : decode cX12_sums 38 = .ok (.aload_n 0, 1)) ?_
    refine r_getR h (r := 22) f_Mod_72 at1M rfl (by decide) (by decide +kernel : decode cX12_sums 39 = .ok (.getfield 72, 3)) ?_
    refine r_iloadn h (q := 1) 1 rfl (by decide +kernel : decode cX12_sums 42 = .ok (.iload_n 1, 1)) ?_
    obtain ⟨g1, H⟩ := H
    refine r_iald h x1.toNat rfl atM_22 g1 (by decide) (by decide +kernel : decode cX12_sums 43 = .ok (.iaload, 1)) ?_
    refine r_iaddW h (by decide +kernel : decode cX12_sums 44 = .ok (.iadd, 1)) ?_
    obtain ⟨g1, H⟩ := H
    refine r_iast h x1.toNat rfl atM_20 g1 (by decide) (by decide +kernel : decode cX12_sums 45 = .ok (.iastore, 1)) ?_
    have H := H _ rfl
    revert H
    generalize (upr M 20 (up1 (M 20) x1.toNat (addW (M 20 x1.toNat) (M 22 x1.toNat)))) = M1
    intro H
    refine r_aloadn h (q := 0) 0 rfl (by decide +kernel : decode cX12_sums 46 = .ok (.aload_n 0, 1)) ?_
    refine r_getR h (r := 23) f_Mod_75 at1M rfl (by decide) (by decide +kernel : decode cX12_sums 47 = .ok (.getfield 75, 3)) ?_
    refine r_iloadn h (q := 1) 1 rfl (by decide +kernel : decode cX12_sums 50 = .ok (.iload_n 1, 1)) ?_
    refine r_iconst h (v := 0) (by decide +kernel : decode cX12_sums 51 = .ok (.iconst 0, 1)) ?_
    obtain ⟨g1, H⟩ := H
    refine r_iast h x1.toNat rfl atM_23 g1 (by decide) (by decide +kernel : decode cX12_sums 52 = .ok (.iastore, 1)) ?_
    have H := H _ rfl
    revert H
    generalize (upr M1 23 (up1 (M1 23) x1.toNat 0)) = M2
    intro H
    exact r_vret h rfl (by decide +kernel : decode cX12_sums 53 = .ok (.return_, 1)) rfl ⟨rfl, rfl, H⟩
  · have H := H2 hc
    refine r_aloadn h (q := 0) 0 rfl (by decide +kernel : decode cX12_sums 16 = .ok (.aload_n 0, 1)) ?_
    refine r_getR h (r := 20) f_Mod_66 at1M rfl (by decide) (by decide +kernel : decode cX12_sums 17 = .ok (.getfield 66, 3)) ?_
    refine r_iloadn h (q := 1) 1 rfl (by decide +kernel : decode cX12_sums 20 = .ok (.iload_n 1, 1)) ?_
    obtain ⟨g1, H⟩ := H
    refine r_iald h x1.toNat rfl atM_20 g1 (by decide) (by decide +kernel : decode cX12_sums 21 = .ok (.iaload, 1)) ?_
    refine r_aloadn h (q := 0) 0 rfl (by decide +kernel : decode cX12_sums 22 = .ok (.aload_n 0, 1)) ?_
    refine r_getR h (r := 22) f_Mod_72 at1M rfl (by decide) (by decide +kernel : decode cX12_sums 23 = .ok (.getfield 72, 3)) ?_
    refine r_iloadn h (q := 1) 1 rfl (by decide +kernel : decode cX12_sums 26 = .ok (.iload_n 1, 1)) ?_
    obtain ⟨g1, H⟩ := H
    refine r_iald h x1.toNat rfl atM_22 g1 (by decide) (by decide +kernel : decode cX12_sums 27 = .ok (.iaload, 1)) ?_
    refine r_isubW h (by decide +kernel : decode cX12_sums 28 = .ok (.isub, 1)) ?_
    refine r_goto h 45 (by decide) (by decide +kernel : decode cX12_sums 29 = .ok (.goto 16, 3)) ?_
    obtain ⟨g1, H⟩ := H
    refine r_iast h x1.toNat rfl atM_20 g1 (by decide) (by decide +kernel : decode cX12_sums 45 = .ok (.iastore, 1)) ?_
    have H := H _ rfl
    revert H
    generalize (upr M 20 (up1 (M 20) x1.toNat (subW (M 20 x1.toNat) (M 22 x1.toNat)))) = M3
    intro H
    refine r_aloadn h (q := 0) 0 rfl (by decide +kernel : decode cX12_sums 46 = .ok (.aload_n 0, 1)) ?_
    refine r_getR h (r := 23) f_Mod_75 at1M rfl (by decide) (by decide +kernel : decode cX12_sums 47 = .ok (.getfield 75, 3)) ?_
    refine r_iloadn h (q := 1) 1 rfl (by decide +kernel : decode cX12_sums 50 = .ok (.iload_n 1, 1)) ?_
    refine r_iconst h (v := 0) (by decide +kernel : decode cX12_sums 51 = .ok (.iconst 0, 1)) ?_
    obtain ⟨g1, H⟩ := H
    refine r_iast h x1.toNat rfl atM_23 g1 (by decide) (by decide +kernel : decode cX12_sums 52 = .ok (.iastore, 1)) ?_
    have H := H _ rfl
    revert H
    generalize (upr M3 23 (up1 (M3 23) x1.toNat 0)) = M4
    intro H
    exact r_vret h rfl (by decide +kernel : decode cX12_sums 53 = .ok (.return_, 1)) rfl ⟨rfl, rfl, H⟩
theorem W_Mod_sums (x1 : Int) (M : Mm) {P : Mm → Prop} (H : (0 ≤ x1 ∧ x1 < 7) ∧ (rng (M 21 x1.toNat)) ∧ ((M 21 x1.toNat) ≠ 21 → ((0 ≤ x1 ∧ x1 < 7) ∧ (0 ≤ x1 ∧ x1 < 7) ∧ (0 ≤ x1 ∧ x1 < 7) ∧ ∀ M1 : Mm, M1 = (upr M 20 (up1 (M 20) x1.toNat (addW (M 20 x1.toNat) (M 22 x1.toNat)))) → (0 ≤ x1 ∧ x1 < 7) ∧ ∀ M2 : Mm, M2 = (upr M1 23 (up1 (M1 23) x1.toNat 0)) → P M2)) ∧ ((M 21 x1.toNat) = 21 → ((0 ≤ x1 ∧ x1 < 7) ∧ (0 ≤ x1 ∧ x1 < 7) ∧ (0 ≤ x1 ∧ x1 < 7) ∧ ∀ M3 : Mm, M3 = (upr M 20 (up1 (M 20) x1.toNat (subW (M 20 x1.toNat) (M 22 x1.toNat)))) → (0 ≤ x1 ∧ x1 < 7) ∧ ∀ M4 : Mm, M4 = (upr M3 23 (up1 (M3 23) x1.toNat 0)) → P M4))) : S_Mod_sums x1 M P := e_Mod_sums x1 M (fun _ h => w_Mod_sums_0 h x1 M H)
set_option maxHeartbeats 4000000 in
set_option maxRecDepth 100000 in
theorem w_Mod_isKept_0 {P : Int → Mm → Prop} {K : Nat → Rr → Nat → List (Nat × AV) → List AV → Mm → Prop} (h : EK shM yX12_isKept cX12_isKept 1 (some .boolean) 1 NM NM (QI RRM P) K)  (M : Mm)
    (H : (rng (M 1 6)) ∧ ((M 1 6) = 1 → ((rngL (M 1 7)) ∧ ((cmpL (M 1 7) 4562600) = 0 → (P 1 M)) ∧ ((cmpL (M 1 7) 4562600) ≠ 0 → ((rngL (M 1 7)) ∧ ((cmpL (M 1 7) 10792937) = 0 → (P 1 M)) ∧ ((cmpL (M 1 7) 10792937) ≠ 0 → ((rngL (M 1 7)) ∧ ((cmpL (M 1 7) 16922) = 0 → (P 1 M)) ∧ ((cmpL (M 1 7) 16922) ≠ 0 → ((rngL (M 1 7)) ∧ ((cmpL (M 1 7) 6950) = 0 → (P 1 M)) ∧ ((cmpL (M 1 7) 6950) ≠ 0 → ((rngL (M 1 7)) ∧ ((cmpL (M 1 7) 10270549) = 0 → (P 1 M)) ∧ ((cmpL (M 1 7) 10270549) ≠ 0 → ((rngL (M 1 7)) ∧ ((cmpL (M 1 7) 5146) = 0 → (P 1 M)) ∧ ((cmpL (M 1 7) 5146) ≠ 0 → ((rngL (M 1 7)) ∧ ((cmpL (M 1 7) 9592579) = 0 → (P 1 M)) ∧ ((cmpL (M 1 7) 9592579) ≠ 0 → ((rngL (M 1 7)) ∧ ((cmpL (M 1 7) 8863997) = 0 → (P 1 M)) ∧ ((cmpL (M 1 7) 8863997) ≠ 0 → ((rngL (M 1 7)) ∧ ((cmpL (M 1 7) 6460053337) = 0 → (P 1 M)) ∧ ((cmpL (M 1 7) 6460053337) ≠ 0 → ((rngL (M 1 7)) ∧ ((cmpL (M 1 7) 239336362) = 0 → (P 1 M)) ∧ ((cmpL (M 1 7) 239336362) ≠ 0 → ((rngL (M 1 7)) ∧ ((cmpL (M 1 7) 12251) = 0 → (P 1 M)) ∧ ((cmpL (M 1 7) 12251) ≠ 0 → ((rngL (M 1 7)) ∧ ((cmpL (M 1 7) 365260) = 0 → (P 1 M)) ∧ ((cmpL (M 1 7) 365260) ≠ 0 → ((rngL (M 1 7)) ∧ ((cmpL (M 1 7) 13703) = 0 → (P 1 M)) ∧ ((cmpL (M 1 7) 13703) ≠ 0 → ((rngL (M 1 7)) ∧ ((cmpL (M 1 7) 377958) = 0 → (P 1 M)) ∧ ((cmpL (M 1 7) 377958) ≠ 0 → ((rngL (M 1 7)) ∧ ((cmpL (M 1 7) 8740238) = 0 → (P 1 M)) ∧ ((cmpL (M 1 7) 8740238) ≠ 0 → ((rngL (M 1 7)) ∧ ((cmpL (M 1 7) 10502561) = 0 → (P 1 M)) ∧ ((cmpL (M 1 7) 10502561) ≠ 0 → ((rngL (M 1 7)) ∧ ((cmpL (M 1 7) 10256074) = 0 → (P 1 M)) ∧ ((cmpL (M 1 7) 10256074) ≠ 0 → ((rngL (M 1 7)) ∧ ((cmpL (M 1 7) 2234) = 0 → (P 1 M)) ∧ ((cmpL (M 1 7) 2234) ≠ 0 → ((rngL (M 1 7)) ∧ ((cmpL (M 1 7) 10631) = 0 → (P 1 M)) ∧ ((cmpL (M 1 7) 10631) ≠ 0 → ((rngL (M 1 7)) ∧ ((cmpL (M 1 7) 1111) = 0 → (P 1 M)) ∧ ((cmpL (M 1 7) 1111) ≠ 0 → ((rngL (M 1 7)) ∧ ((cmpL (M 1 7) 423) ≠ 0 → (P 0 M)) ∧ ((cmpL (M 1 7) 423) = 0 → (P 1 M)))))))))))))))))))))))))))))))))))))))))))) ∧ ((M 1 6) ≠ 1 → (P 1 M))) :
    K NM RRM 0 [(0, vr 1)] [] M := by
  refine r_aloadn h (q := 0) 0 rfl (by decide +kernel : decode cX12_isKept 0 = .ok (.aload_n 0, 1)) ?_
  refine r_getI h f_Mod_172 at1M (by decide +kernel : decode cX12_isKept 1 = .ok (.getfield 172, 3)) ?_
  refine r_iconst h (v := 1) (by decide +kernel : decode cX12_isKept 4 = .ok (.iconst 1, 1)) ?_
  obtain ⟨g1, H⟩ := H
  obtain ⟨H1, H2⟩ := H
  refine r_icmp_eq h 10 g1 (by decide) (by decide) (by decide +kernel : decode cX12_isKept 5 = .ok (.if_icmp .eq 5, 3)) (fun hc => ?_) (fun hc => ?_)
  · have H := H1 hc
    refine r_aloadn h (q := 0) 0 rfl (by decide +kernel : decode cX12_isKept 10 = .ok (.aload_n 0, 1)) ?_
    refine r_getL h f_Mod_165 at1M (by decide +kernel : decode cX12_isKept 11 = .ok (.getfield 165, 3)) ?_
    refine r_ldc2 h (v := 4562600) kc_Mod_239 (by decide +kernel : decode cX12_isKept 14 = .ok (.ldc2_w 239, 3)) ?_
    obtain ⟨g1, H⟩ := H
    refine r_lcmp h g1 (by decide) (by decide +kernel : decode cX12_isKept 17 = .ok (.lcmp, 1)) ?_
    obtain ⟨H1, H2⟩ := H
    refine r_if_eq h 241 (rng_cmpL _ _) (by decide) (by decide +kernel : decode cX12_isKept 18 = .ok (.ifCond .eq 223, 3)) (fun hc => ?_) (fun hc => ?_)
    · have H := H1 hc
      refine r_iconst h (v := 1) (by decide +kernel : decode cX12_isKept 241 = .ok (.iconst 1, 1)) ?_
      refine r_goto h 246 (by decide) (by decide +kernel : decode cX12_isKept 242 = .ok (.goto 4, 3)) ?_
      exact r_zret h rfl (by decide) (by decide +kernel : decode cX12_isKept 246 = .ok (.ireturn, 1)) rfl ⟨rfl, _, rfl, H⟩
    · have H := H2 hc
      refine r_aloadn h (q := 0) 0 rfl (by decide +kernel : decode cX12_isKept 21 = .ok (.aload_n 0, 1)) ?_
      refine r_getL h f_Mod_165 at1M (by decide +kernel : decode cX12_isKept 22 = .ok (.getfield 165, 3)) ?_
      refine r_ldc2 h (v := 10792937) kc_Mod_241 (by decide +kernel : decode cX12_isKept 25 = .ok (.ldc2_w 241, 3)) ?_
      obtain ⟨g1, H⟩ := H
      refine r_lcmp h g1 (by decide) (by decide +kernel : decode cX12_isKept 28 = .ok (.lcmp, 1)) ?_
      obtain ⟨H1, H2⟩ := H
      refine r_if_eq h 241 (rng_cmpL _ _) (by decide) (by decide +kernel : decode cX12_isKept 29 = .ok (.ifCond .eq 212, 3)) (fun hc => ?_) (fun hc => ?_)
      · have H := H1 hc
        refine r_iconst h (v := 1) (by decide +kernel : decode cX12_isKept 241 = .ok (.iconst 1, 1)) ?_
        refine r_goto h 246 (by decide) (by decide +kernel : decode cX12_isKept 242 = .ok (.goto 4, 3)) ?_
        exact r_zret h rfl (by decide) (by decide +kernel : decode cX12_isKept 246 = .ok (.ireturn, 1)) rfl ⟨rfl, _, rfl, H⟩
      · have H := H2 hc
        refine r_aloadn h (q := 0) 0 rfl (by decide +kernel : decode cX12_isKept 32 = .ok (.aload_n 0, 1)) ?_
        refine r_getL h f_Mod_165 at1M (by decide +kernel : decode cX12_isKept 33 = .ok (.getfield 165, 3)) ?_
        refine r_ldc2 h (v := 16922) kc_Mod_243 (by decide +kernel : decode cX12_isKept 36 = .ok (.ldc2_w 243, 3)) ?_
        obtain ⟨g1, H⟩ := H
        refine r_lcmp h g1 (by decide) (by decide +kernel : decode cX12_isKept 39 = .ok (.lcmp, 1)) ?_
        obtain ⟨H1, H2⟩ := H
        refine r_if_eq h 241 (rng_cmpL _ _) (by decide) (by decide +kernel : decode cX12_isKept 40 = .ok (.ifCond .eq 201, 3)) (fun hc => ?_) (fun hc => ?_)
        · have H := H1 hc
          refine r_iconst h (v := 1) (by decide +kernel : decode cX12_isKept 241 = .ok (.iconst 1, 1)) ?_
          refine r_goto h 246 (by decide) (by decide +kernel : decode cX12_isKept 242 = .ok (.goto 4, 3)) ?_
          exact r_zret h rfl (by decide) (by decide +kernel : decode cX12_isKept 246 = .ok (.ireturn, 1)) rfl ⟨rfl, _, rfl, H⟩
        · have H := H2 hc
          refine r_aloadn h (q := 0) 0 rfl (by decide +kernel : decode cX12_isKept 43 = .ok (.aload_n 0, 1)) ?_
          refine r_getL h f_Mod_165 at1M (by decide +kernel : decode cX12_isKept 44 = .ok (.getfield 165, 3)) ?_
          refine r_ldc2 h (v := 6950) kc_Mod_245 (by decide +kernel : decode cX12_isKept 47 = .ok (.ldc2_w 245, 3)) ?_
          obtain ⟨g1, H⟩ := H
          refine r_lcmp h g1 (by decide) (by decide +kernel : decode cX12_isKept 50 = .ok (.lcmp, 1)) ?_
          obtain ⟨H1, H2⟩ := H
          refine r_if_eq h 241 (rng_cmpL _ _) (by decide) (by decide +kernel : decode cX12_isKept 51 = .ok (.ifCond .eq 190, 3)) (fun hc => ?_) (fun hc => ?_)
          · have H := H1 hc
            refine r_iconst h (v := 1) (by decide +kernel : decode cX12_isKept 241 = .ok (.iconst 1, 1)) ?_
            refine r_goto h 246 (by decide) (by decide +kernel : decode cX12_isKept 242 = .ok (.goto 4, 3)) ?_
            exact r_zret h rfl (by decide) (by decide +kernel : decode cX12_isKept 246 = .ok (.ireturn, 1)) rfl ⟨rfl, _, rfl, H⟩
          · have H := H2 hc
            refine r_aloadn h (q := 0) 0 rfl (by decide +kernel : decode cX12_isKept 54 = .ok (.aload_n 0, 1)) ?_
            refine r_getL h f_Mod_165 at1M (by decide +kernel : decode cX12_isKept 55 = .ok (.getfield 165, 3)) ?_
            refine r_ldc2 h (v := 10270549) kc_Mod_247 (by decide +kernel : decode cX12_isKept 58 = .ok (.ldc2_w 247, 3)) ?_
            obtain ⟨g1, H⟩ := H
            refine r_lcmp h g1 (by decide) (by decide +kernel : decode cX12_isKept 61 = .ok (.lcmp, 1)) ?_
            obtain ⟨H1, H2⟩ := H
            refine r_if_eq h 241 (rng_cmpL _ _) (by decide) (by decide +kernel : decode cX12_isKept 62 = .ok (.ifCond .eq 179, 3)) (fun hc => ?_) (fun hc => ?_)
            · have H := H1 hc
              refine r_iconst h (v := 1) (by decide +kernel : decode cX12_isKept 241 = .ok (.iconst 1, 1)) ?_
              refine r_goto h 246 (by decide) (by decide +kernel : decode cX12_isKept 242 = .ok (.goto 4, 3)) ?_
              exact r_zret h rfl (by decide) (by decide +kernel : decode cX12_isKept 246 = .ok (.ireturn, 1)) rfl ⟨rfl, _, rfl, H⟩
            · have H := H2 hc
              refine r_aloadn h (q := 0) 0 rfl (by decide +kernel : decode cX12_isKept 65 = .ok (.aload_n 0, 1)) ?_
              refine r_getL h f_Mod_165 at1M (by decide +kernel : decode cX12_isKept 66 = .ok (.getfield 165, 3)) ?_
              refine r_ldc2 h (v := 5146) kc_Mod_249 (by decide +kernel : decode cX12_isKept 69 = .ok (.ldc2_w 249, 3)) ?_
              obtain ⟨g1, H⟩ := H
              refine r_lcmp h g1 (by decide) (by decide +kernel : decode cX12_isKept 72 = .ok (.lcmp, 1)) ?_
              obtain ⟨H1, H2⟩ := H
              refine r_if_eq h 241 (rng_cmpL _ _) (by decide) (by decide +kernel : decode cX12_isKept 73 = .ok (.ifCond .eq 168, 3)) (fun hc => ?_) (fun hc => ?_)
              · have H := H1 hc
                refine r_iconst h (v := 1) (by decide +kernel : decode cX12_isKept 241 = .ok (.iconst 1, 1)) ?_
                refine r_goto h 246 (by decide) (by decide +kernel : decode cX12_isKept 242 = .ok (.goto 4, 3)) ?_
                exact r_zret h rfl (by decide) (by decide +kernel : decode cX12_isKept 246 = .ok (.ireturn, 1)) rfl ⟨rfl, _, rfl, H⟩
              · have H := H2 hc
                refine r_aloadn h (q := 0) 0 rfl (by decide +kernel : decode cX12_isKept 76 = .ok (.aload_n 0, 1)) ?_
                refine r_getL h f_Mod_165 at1M (by decide +kernel : decode cX12_isKept 77 = .ok (.getfield 165, 3)) ?_
                refine r_ldc2 h (v := 9592579) kc_Mod_251 (by decide +kernel : decode cX12_isKept 80 = .ok (.ldc2_w 251, 3)) ?_
                obtain ⟨g1, H⟩ := H
                refine r_lcmp h g1 (by decide) (by decide +kernel : decode cX12_isKept 83 = .ok (.lcmp, 1)) ?_
                obtain ⟨H1, H2⟩ := H
                refine r_if_eq h 241 (rng_cmpL _ _) (by decide) (by decide +kernel : decode cX12_isKept 84 = .ok (.ifCond .eq 157, 3)) (fun hc => ?_) (fun hc => ?_)
                · have H := H1 hc
                  refine r_iconst h (v := 1) (by decide +kernel : decode cX12_isKept 241 = .ok (.iconst 1, 1)) ?_
                  refine r_goto h 246 (by decide) (by decide +kernel : decode cX12_isKept 242 = .ok (.goto 4, 3)) ?_
                  exact r_zret h rfl (by decide) (by decide +kernel : decode cX12_isKept 246 = .ok (.ireturn, 1)) rfl ⟨rfl, _, rfl, H⟩
                · have H := H2 hc
                  refine r_aloadn h (q := 0) 0 rfl (by decide +kernel : decode cX12_isKept 87 = .ok (.aload_n 0, 1)) ?_
                  refine r_getL h f_Mod_165 at1M (by decide +kernel : decode cX12_isKept 88 = .ok (.getfield 165, 3)) ?_
                  refine r_ldc2 h (v := 8863997) kc_Mod_253 (by decide +kernel : decode cX12_isKept 91 = .ok (.ldc2_w 253, 3)) ?_
                  obtain ⟨g1, H⟩ := H
                  refine r_lcmp h g1 (by decide) (by decide +kernel : decode cX12_isKept 94 = .ok (.lcmp, 1)) ?_
                  obtain ⟨H1, H2⟩ := H
                  refine r_if_eq h 241 (rng_cmpL _ _) (by decide) (by decide +kernel : decode cX12_isKept 95 = .ok (.ifCond .eq 146, 3)) (fun hc => ?_) (fun hc => ?_)
                  · have H := H1 hc
                    refine r_iconst h (v := 1) (by decide +kernel : decode cX12_isKept 241 = .ok (.iconst 1, 1)) ?_
                    refine r_goto h 246 (by decide) (by decide +kernel : decode cX12_isKept 242 = .ok (.goto 4, 3)) ?_
                    exact r_zret h rfl (by decide) (by decide +kernel : decode cX12_isKept 246 = .ok (.ireturn, 1)) rfl ⟨rfl, _, rfl, H⟩
                  · have H := H2 hc
                    refine r_aloadn h (q := 0) 0 rfl (by decide +kernel : decode cX12_isKept 98 = .ok (.aload_n 0, 1)) ?_
                    refine r_getL h f_Mod_165 at1M (by decide +kernel : decode cX12_isKept 99 = .ok (.getfield 165, 3)) ?_
                    refine r_ldc2 h (v := 6460053337) kc_Mod_255 (by decide +kernel : decode cX12_isKept 102 = .ok (.ldc2_w 255, 3)) ?_
                    obtain ⟨g1, H⟩ := H
                    refine r_lcmp h g1 (by decide) (by decide +kernel : decode cX12_isKept 105 = .ok (.lcmp, 1)) ?_
                    obtain ⟨H1, H2⟩ := H
                    refine r_if_eq h 241 (rng_cmpL _ _) (by decide) (by decide +kernel : decode cX12_isKept 106 = .ok (.ifCond .eq 135, 3)) (fun hc => ?_) (fun hc => ?_)
                    · have H := H1 hc
                      refine r_iconst h (v := 1) (by decide +kernel : decode cX12_isKept 241 = .ok (.iconst 1, 1)) ?_
                      refine r_goto h 246 (by decide) (by decide +kernel : decode cX12_isKept 242 = .ok (.goto 4, 3)) ?_
                      exact r_zret h rfl (by decide) (by decide +kernel : decode cX12_isKept 246 = .ok (.ireturn, 1)) rfl ⟨rfl, _, rfl, H⟩
                    · have H := H2 hc
                      refine r_aloadn h (q := 0) 0 rfl (by decide +kernel : decode cX12_isKept 109 = .ok (.aload_n 0, 1)) ?_
                      refine r_getL h f_Mod_165 at1M (by decide +kernel : decode cX12_isKept 110 = .ok (.getfield 165, 3)) ?_
                      refine r_ldc2 h (v := 239336362) kc_Mod_257 (by decide +kernel : decode cX12_isKept 113 = .ok (.ldc2_w 257, 3)) ?_
                      obtain ⟨g1, H⟩ := H
                      refine r_lcmp h g1 (by decide) (by decide +kernel : decode cX12_isKept 116 = .ok (.lcmp, 1)) ?_
                      obtain ⟨H1, H2⟩ := H
                      refine r_if_eq h 241 (rng_cmpL _ _) (by decide) (by decide +kernel : decode cX12_isKept 117 = .ok (.ifCond .eq 124, 3)) (fun hc => ?_) (fun hc => ?_)
                      · have H := H1 hc
                        refine r_iconst h (v := 1) (by decide +kernel : decode cX12_isKept 241 = .ok (.iconst 1, 1)) ?_
                        refine r_goto h 246 (by decide) (by decide +kernel : decode cX12_isKept 242 = .ok (.goto 4, 3)) ?_
                        exact r_zret h rfl (by decide) (by decide +kernel : decode cX12_isKept 246 = .ok (.ireturn, 1)) rfl ⟨rfl, _, rfl, H⟩
                      · have H := H2 hc
                        refine r_aloadn h (q := 0) 0 rfl (by decide +kernel : decode cX12_isKept 120 = .ok (.aload_n 0, 1)) ?_
                        refine r_getL h f_Mod_165 at1M (by decide +kernel : decode cX12_isKept 121 = .ok (.getfield 165, 3)) ?_
                        refine r_ldc2 h (v := 12251) kc_Mod_259 (by decide +kernel : decode cX12_isKept 124 = .ok (.ldc2_w 259, 3)) ?_
                        obtain ⟨g1, H⟩ := H
                        refine r_lcmp h g1 (by decide) (by decide +kernel : decode cX12_isKept 127 = .ok (.lcmp, 1)) ?_
                        obtain ⟨H1, H2⟩ := H
                        refine r_if_eq h 241 (rng_cmpL _ _) (by decide) (by decide +kernel : decode cX12_isKept 128 = .ok (.ifCond .eq 113, 3)) (fun hc => ?_) (fun hc => ?_)
                        · have H := H1 hc
                          refine r_iconst h (v := 1) (by decide +kernel : decode cX12_isKept 241 = .ok (.iconst 1, 1)) ?_
                          refine r_goto h 246 (by decide) (by decide +kernel : decode cX12_isKept 242 = .ok (.goto 4, 3)) ?_
                          exact r_zret h rfl (by decide) (by decide +kernel : decode cX12_isKept 246 = .ok (.ireturn, 1)) rfl ⟨rfl, _, rfl, H⟩
                        · have H := H2 hc
                          refine r_aloadn h (q := 0) 0 rfl (by decide +kernel : decode cX12_isKept 131 = .ok (.aload_n 0, 1)) ?_
                          refine r_getL h f_Mod_165 at1M (by decide +kernel : decode cX12_isKept 132 = .ok (.getfield 165, 3)) ?_
                          refine r_ldc2 h (v := 365260) kc_Mod_261 (by decide +kernel : decode cX12_isKept 135 = .ok (.ldc2_w 261, 3)) ?_
                          obtain ⟨g1, H⟩ := H
                          refine r_lcmp h g1 (by decide) (by decide +kernel : decode cX12_isKept 138 = .ok (.lcmp, 1)) ?_
                          obtain ⟨H1, H2⟩ := H
                          refine r_if_eq h 241 (rng_cmpL _ _) (by decide) (by decide +kernel : decode cX12_isKept 139 = .ok (.ifCond .eq 102, 3)) (fun hc => ?_) (fun hc => ?_)
                          · have H := H1 hc
                            refine r_iconst h (v := 1) (by decide +kernel : decode cX12_isKept 241 = .ok (.iconst 1, 1)) ?_
                            refine r_goto h 246 (by decide) (by decide +kernel : decode cX12_isKept 242 = .ok (.goto 4, 3)) ?_
                            exact r_zret h rfl (by decide) (by decide +kernel : decode cX12_isKept 246 = .ok (.ireturn, 1)) rfl ⟨rfl, _, rfl, H⟩
                          · have H := H2 hc
                            refine r_aloadn h (q := 0) 0 rfl (by decide +kernel : decode cX12_isKept 142 = .ok (.aload_n 0, 1)) ?_
                            refine r_getL h f_Mod_165 at1M (by decide +kernel : decode cX12_isKept 143 = .ok (.getfield 165, 3)) ?_
                            refine r_ldc2 h (v := 13703) kc_Mod_263 (by decide +kernel : decode cX12_isKept 146 = .ok (.ldc2_w 263, 3)) ?_
                            obtain ⟨g1, H⟩ := H
                            refine r_lcmp h g1 (by decide) (by decide +kernel : decode cX12_isKept 149 = .ok (.lcmp, 1)) ?_
                            obtain ⟨H1, H2⟩ := H
                            refine r_if_eq h 241 (rng_cmpL _ _) (by decide) (by decide +kernel : decode cX12_isKept 150 = .ok (.ifCond .eq 91, 3)) (fun hc => ?_) (fun hc => ?_)
                            · have H := H1 hc
                              refine r_iconst h (v := 1) (by decide +kernel : decode cX12_isKept 241 = .ok (.iconst 1, 1)) ?_
                              refine r_goto h 246 (by decide) (by decide +kernel : decode cX12_isKept 242 = .ok (.goto 4, 3)) ?_
                              exact r_zret h rfl (by decide) (by decide +kernel : decode cX12_isKept 246 = .ok (.ireturn, 1)) rfl ⟨rfl, _, rfl, H⟩
                            · have H := H2 hc
                              refine r_aloadn h (q := 0) 0 rfl (by decide +kernel : decode cX12_isKept 153 = .ok (.aload_n 0, 1)) ?_
                              refine r_getL h f_Mod_165 at1M (by decide +kernel : decode cX12_isKept 154 = .ok (.getfield 165, 3)) ?_
                              refine r_ldc2 h (v := 377958) kc_Mod_265 (by decide +kernel : decode cX12_isKept 157 = .ok (.ldc2_w 265, 3)) ?_
                              obtain ⟨g1, H⟩ := H
                              refine r_lcmp h g1 (by decide) (by decide +kernel : decode cX12_isKept 160 = .ok (.lcmp, 1)) ?_
                              obtain ⟨H1, H2⟩ := H
                              refine r_if_eq h 241 (rng_cmpL _ _) (by decide) (by decide +kernel : decode cX12_isKept 161 = .ok (.ifCond .eq 80, 3)) (fun hc => ?_) (fun hc => ?_)
                              · have H := H1 hc
                                refine r_iconst h (v := 1) (by decide +kernel : decode cX12_isKept 241 = .ok (.iconst 1, 1)) ?_
                                refine r_goto h 246 (by decide) (by decide +kernel : decode cX12_isKept 242 = .ok (.goto 4, 3)) ?_
                                exact r_zret h rfl (by decide) (by decide +kernel : decode cX12_isKept 246 = .ok (.ireturn, 1)) rfl ⟨rfl, _, rfl, H⟩
                              · have H := H2 hc
                                refine r_aloadn h (q := 0) 0 rfl (by decide +kernel : decode cX12_isKept 164 = .ok (.aload_n 0, 1)) ?_
                                refine r_getL h f_Mod_165 at1M (by decide +kernel : decode cX12_isKept 165 = .ok (.getfield 165, 3)) ?_
                                refine r_ldc2 h (v := 8740238) kc_Mod_267 (by decide +kernel : decode cX12_isKept 168 = .ok (.ldc2_w 267, 3)) ?_
                                obtain ⟨g1, H⟩ := H
                                refine r_lcmp h g1 (by decide) (by decide +kernel : decode cX12_isKept 171 = .ok (.lcmp, 1)) ?_
                                obtain ⟨H1, H2⟩ := H
                                refine r_if_eq h 241 (rng_cmpL _ _) (by decide) (by decide +kernel : decode cX12_isKept 172 = .ok (.ifCond .eq 69, 3)) (fun hc => ?_) (fun hc => ?_)
                                · have H := H1 hc
                                  refine r_iconst h (v := 1) (by decide +kernel : decode cX12_isKept 241 = .ok (.iconst 1, 1)) ?_
                                  refine r_goto h 246 (by decide) (by decide +kernel : decode cX12_isKept 242 = .ok (.goto 4, 3)) ?_
                                  exact r_zret h rfl (by decide) (by decide +kernel : decode cX12_isKept 246 = .ok (.ireturn, 1)) rfl ⟨rfl, _, rfl, H⟩
                                · have H := H2 hc
                                  refine r_aloadn h (q := 0) 0 rfl (by decide +kernel : decode cX12_isKept 175 = .ok (.aload_n 0, 1)) ?_
                                  refine r_getL h f_Mod_165 at1M (by decide +kernel : decode cX12_isKept 176 = .ok (.getfield 165, 3)) ?_
                                  refine r_ldc2 h (v := 10502561) kc_Mod_269 (by decide +kernel : decode cX12_isKept 179 = .ok (.ldc2_w 269, 3)) ?_
                                  obtain ⟨g1, H⟩ := H
                                  refine r_lcmp h g1 (by decide) (by decide +kernel : decode cX12_isKept 182 = .ok (.lcmp, 1)) ?_
                                  obtain ⟨H1, H2⟩ := H
                                  refine r_if_eq h 241 (rng_cmpL _ _) (by decide) (by decide +kernel : decode cX12_isKept 183 = .ok (.ifCond .eq 58, 3)) (fun hc => ?_) (fun hc => ?_)
                                  · have H := H1 hc
                                    refine r_iconst h (v := 1) (by decide +kernel : decode cX12_isKept 241 = .ok (.iconst 1, 1)) ?_
                                    refine r_goto h 246 (by decide) (by decide +kernel : decode cX12_isKept 242 = .ok (.goto 4, 3)) ?_
                                    exact r_zret h rfl (by decide) (by decide +kernel : decode cX12_isKept 246 = .ok (.ireturn, 1)) rfl ⟨rfl, _, rfl, H⟩
                                  · have H := H2 hc
                                    refine r_aloadn h (q := 0) 0 rfl (by decide +kernel : decode cX12_isKept 186 = .ok (.aload_n 0, 1)) ?_
                                    refine r_getL h f_Mod_165 at1M (by decide +kernel : decode cX12_isKept 187 = .ok (.getfield 165, 3)) ?_
                                    refine r_ldc2 h (v := 10256074) kc_Mod_271 (by decide +kernel : decode cX12_isKept 190 = .ok (.ldc2_w 271, 3)) ?_
                                    obtain ⟨g1, H⟩ := H
                                    refine r_lcmp h g1 (by decide) (by decide +kernel : decode cX12_isKept 193 = .ok (.lcmp, 1)) ?_
                                    obtain ⟨H1, H2⟩ := H
                                    refine r_if_eq h 241 (rng_cmpL _ _) (by decide) (by decide +kernel : decode cX12_isKept 194 = .ok (.ifCond .eq 47, 3)) (fun hc => ?_) (fun hc => ?_)
                                    · have H := H1 hc
                                      refine r_iconst h (v := 1) (by decide +kernel : decode cX12_isKept 241 = .ok (.iconst 1, 1)) ?_
                                      refine r_goto h 246 (by decide) (by decide +kernel : decode cX12_isKept 242 = .ok (.goto 4, 3)) ?_
                                      exact r_zret h rfl (by decide) (by decide +kernel : decode cX12_isKept 246 = .ok (.ireturn, 1)) rfl ⟨rfl, _, rfl, H⟩
                                    · have H := H2 hc
                                      refine r_aloadn h (q := 0) 0 rfl (by decide +kernel : decode cX12_isKept 197 = .ok (.aload_n 0, 1)) ?_
                                      refine r_getL h f_Mod_165 at1M (by decide +kernel : decode cX12_isKept 198 = .ok (.getfield 165, 3)) ?_
                                      refine r_ldc2 h (v := 2234) kc_Mod_273 (by decide +kernel : decode cX12_isKept 201 = .ok (.ldc2_w 273, 3)) ?_
                                      obtain ⟨g1, H⟩ := H
                                      refine r_lcmp h g1 (by decide) (by decide +kernel : decode cX12_isKept 204 = .ok (.lcmp, 1)) ?_
                                      obtain ⟨H1, H2⟩ := H
                                      refine r_if_eq h 241 (rng_cmpL _ _) (by decide) (by decide +kernel : decode cX12_isKept 205 = .ok (.ifCond .eq 36, 3)) (fun hc => ?_) (fun hc => ?_)
                                      · have H := H1 hc
                                        refine r_iconst h (v := 1) (by decide +kernel : decode cX12_isKept 241 = .ok (.iconst 1, 1)) ?_
                                        refine r_goto h 246 (by decide) (by decide +kernel : decode cX12_isKept 242 = .ok (.goto 4, 3)) ?_
                                        exact r_zret h rfl (by decide) (by decide +kernel : decode cX12_isKept 246 = .ok (.ireturn, 1)) rfl ⟨rfl, _, rfl, H⟩
                                      · have H := H2 hc
                                        refine r_aloadn h (q := 0) 0 rfl (by decide +kernel : decode cX12_isKept 208 = .ok (.aload_n 0, 1)) ?_
                                        refine r_getL h f_Mod_165 at1M (by decide +kernel : decode cX12_isKept 209 = .ok (.getfield 165, 3)) ?_
                                        refine r_ldc2 h (v := 10631) kc_Mod_206 (by decide +kernel : decode cX12_isKept 212 = .ok (.ldc2_w 206, 3)) ?_
                                        obtain ⟨g1, H⟩ := H
                                        refine r_lcmp h g1 (by decide) (by decide +kernel : decode cX12_isKept 215 = .ok (.lcmp, 1)) ?_
                                        obtain ⟨H1, H2⟩ := H
                                        refine r_if_eq h 241 (rng_cmpL _ _) (by decide) (by decide +kernel : decode cX12_isKept 216 = .ok (.ifCond .eq 25, 3)) (fun hc => ?_) (fun hc => ?_)
                                        · have H := H1 hc
                                          refine r_iconst h (v := 1) (by decide +kernel : decode cX12_isKept 241 = .ok (.iconst 1, 1)) ?_
                                          refine r_goto h 246 (by decide) (by decide +kernel : decode cX12_isKept 242 = .ok (.goto 4, 3)) ?_
                                          exact r_zret h rfl (by decide) (by decide +kernel : decode cX12_isKept 246 = .ok (.ireturn, 1)) rfl ⟨rfl, _, rfl, H⟩
                                        · have H := H2 hc
                                          refine r_aloadn h (q := 0) 0 rfl (by decide +kernel : decode cX12_isKept 219 = .ok (.aload_n 0, 1)) ?_
                                          refine r_getL h f_Mod_165 at1M (by decide +kernel : decode cX12_isKept 220 = .ok (.getfield 165, 3)) ?_
                                          refine r_ldc2 h (v := 1111) kc_Mod_226 (by decide +kernel : decode cX12_isKept 223 = .ok (.ldc2_w 226, 3)) ?_
                                          obtain ⟨g1, H⟩ := H
                                          refine r_lcmp h g1 (by decide) (by decide +kernel : decode cX12_isKept 226 = .ok (.lcmp, 1)) ?_
                                          obtain ⟨H1, H2⟩ := H
                                          refine r_if_eq h 241 (rng_cmpL _ _) (by decide) (by decide +kernel : decode cX12_isKept 227 = .ok (.ifCond .eq 14, 3)) (fun hc => ?_) (fun hc => ?_)
                                          · have H := H1 hc
                                            refine r_iconst h (v := 1) (by decide +kernel : decode cX12_isKept 241 = .ok (.iconst 1, 1)) ?_
                                            refine r_goto h 246 (by decide) (by decide +kernel : decode cX12_isKept 242 = .ok (.goto 4, 3)) ?_
                                            exact r_zret h rfl (by decide) (by decide +kernel : decode cX12_isKept 246 = .ok (.ireturn, 1)) rfl ⟨rfl, _, rfl, H⟩
                                          · have H := H2 hc
                                            refine r_aloadn h (q := 0) 0 rfl (by decide +kernel : decode cX12_isKept 230 = .ok (.aload_n 0, 1)) ?_
                                            refine r_getL h f_Mod_165 at1M (by decide +kernel : decode cX12_isKept 231 = .ok (.getfield 165, 3)) ?_
                                            refine r_ldc2 h (v := 423) kc_Mod_228 (by decide +kernel : decode cX12_isKept 234 = .ok (.ldc2_w 228, 3)) ?_
                                            obtain ⟨g1, H⟩ := H
                                            refine r_lcmp h g1 (by decide) (by decide +kernel : decode cX12_isKept 237 = .ok (.lcmp, 1)) ?_
                                            obtain ⟨H1, H2⟩ := H
                                            refine r_if_ne h 245 (rng_cmpL _ _) (by decide) (by decide +kernel : decode cX12_isKept 238 = .ok (.ifCond .ne 7, 3)) (fun hc => ?_) (fun hc => ?_)
                                            · have H := H1 hc
                                              refine r_iconst h (v := 0) (by decide +kernel : decode cX12_isKept 245 = .ok (.iconst 0, 1)) ?_
                                              exact r_zret h rfl (by decide) (by decide +kernel : decode cX12_isKept 246 = .ok (.ireturn, 1)) rfl ⟨rfl, _, rfl, H⟩
                                            · have H := H2 hc
                                              refine r_iconst h (v := 1) (by decide +kernel : decode cX12_isKept 241 = .ok (.iconst 1, 1)) ?_
                                              refine r_goto h 246 (by decide) (by decide +kernel : decode cX12_isKept 242 = .ok (.goto 4, 3)) ?_
                                              exact r_zret h rfl (by decide) (by decide +kernel : decode cX12_isKept 246 = .ok (.ireturn, 1)) rfl ⟨rfl, _, rfl, H⟩
  · have H := H2 hc
    refine r_iconst h (v := 1) (by decide +kernel : decode cX12_isKept 8 = .ok (.iconst 1, 1)) ?_
    exact r_zret h rfl (by decide) (by decide +kernel : decode cX12_isKept 9 = .ok (.ireturn, 1)) rfl ⟨rfl, _, rfl, H⟩
theorem W_Mod_isKept  (M : Mm) {P : Int → Mm → Prop} (H : (rng (M 1 6)) ∧ ((M 1 6) = 1 → ((rngL (M 1 7)) ∧ ((cmpL (M 1 7) 4562600) = 0 → (P 1 M)) ∧ ((cmpL (M 1 7) 4562600) ≠ 0 → ((rngL (M 1 7)) ∧ ((cmpL (M 1 7) 10792937) = 0 → (P 1 M)) ∧ ((cmpL (M 1 7) 10792937) ≠ 0 → ((rngL (M 1 7)) ∧ ((cmpL (M 1 7) 16922) = 0 → (P 1 M)) ∧ ((cmpL (M 1 7) 16922) ≠ 0 → ((rngL (M 1 7)) ∧ ((cmpL (M 1 7) 6950) = 0 → (P 1 M)) ∧ ((cmpL (M 1 7) 6950) ≠ 0 → ((rngL (M 1 7)) ∧ ((cmpL (M 1 7) 10270549) = 0 → (P 1 M)) ∧ ((cmpL (M 1 7) 10270549) ≠ 0 → ((rngL (M 1 7)) ∧ ((cmpL (M 1 7) 5146) = 0 → (P 1 M)) ∧ ((cmpL (M 1 7) 5146) ≠ 0 → ((rngL (M 1 7)) ∧ ((cmpL (M 1 7) 9592579) = 0 → (P 1 M)) ∧ ((cmpL (M 1 7) 9592579) ≠ 0 → ((rngL (M 1 7)) ∧ ((cmpL (M 1 7) 8863997) = 0 → (P 1 M)) ∧ ((cmpL (M 1 7) 8863997) ≠ 0 → ((rngL (M 1 7)) ∧ ((cmpL (M 1 7) 6460053337) = 0 → (P 1 M)) ∧ ((cmpL (M 1 7) 6460053337) ≠ 0 → ((rngL (M 1 7)) ∧ ((cmpL (M 1 7) 239336362) = 0 → (P 1 M)) ∧ ((cmpL (M 1 7) 239336362) ≠ 0 → ((rngL (M 1 7)) ∧ ((cmpL (M 1 7) 12251) = 0 → (P 1 M)) ∧ ((cmpL (M 1 7) 12251) ≠ 0 → ((rngL (M 1 7)) ∧ ((cmpL (M 1 7) 365260) = 0 → (P 1 M)) ∧ ((cmpL (M 1 7) 365260) ≠ 0 → ((rngL (M 1 7)) ∧ ((cmpL (M 1 7) 13703) = 0 → (P 1 M)) ∧ ((cmpL (M 1 7) 13703) ≠ 0 → ((rngL (M 1 7)) ∧ ((cmpL (M 1 7) 377958) = 0 → (P 1 M)) ∧ ((cmpL (M 1 7) 377958) ≠ 0 → ((rngL (M 1 7)) ∧ ((cmpL (M 1 7) 8740238) = 0 → (P 1 M)) ∧ ((cmpL (M 1 7) 8740238) ≠ 0 → ((rngL (M 1 7)) ∧ ((cmpL (M 1 7) 10502561) = 0 → (P 1 M)) ∧ ((cmpL (M 1 7) 10502561) ≠ 0 → ((rngL (M 1 7)) ∧ ((cmpL (M 1 7) 10256074) = 0 → (P 1 M)) ∧ ((cmpL (M 1 7) 10256074) ≠ 0 → ((rngL (M 1 7)) ∧ ((cmpL (M 1 7) 2234) = 0 → (P 1 M)) ∧ ((cmpL (M 1 7) 2234) ≠ 0 → ((rngL (M 1 7)) ∧ ((cmpL (M 1 7) 10631) = 0 → (P 1 M)) ∧ ((cmpL (M 1 7) 10631) ≠ 0 → ((rngL (M 1 7)) ∧ ((cmpL (M 1 7) 1111) = 0 → (P 1 M)) ∧ ((cmpL (M 1 7) 1111) ≠ 0 → ((rngL (M 1 7)) ∧ ((cmpL (M 1 7) 423) ≠ 0 → (P 0 M)) ∧ ((cmpL (M 1 7) 423) = 0 → (P 1 M)))))))))))))))))))))))))))))))))))))))))))) ∧ ((M 1 6) ≠ 1 → (P 1 M))) : S_Mod_isKept  M P := e_Mod_isKept  M (fun _ h => w_Mod_isKept_0 h  M H)
set_option maxHeartbeats 4000000 in
set_option maxRecDepth 100000 in
theorem w_Mod_houseNamed_0 {P : Int → Mm → Prop} {K : Nat → Rr → Nat → List (Nat × AV) → List AV → Mm → Prop} (h : EK shM yX12_houseNamed cX12_houseNamed 3 (some .int) 1 NM NM (QI RRM P) K) (x1 : Int) (M : Mm)
    (H : K NM RRM 2 [(0, vr 1), (1, vi x1), (2, vi 0)] [] M) :
    K NM RRM 0 [(0, vr 1), (1, vi x1)] [] M := by
  refine r_iconst h (v := 0) (by decide +kernel : decode cX12_houseNamed 0 = .ok (.iconst 0, 1)) ?_
  refine r_istoren h (q := 2) (L' := [(2, vi 0), (0, vr 1), (1, vi x1)]) (by decide) rfl (by decide +kernel : decode cX12_houseNamed 1 = .ok (.istore_n 2, 1)) ?_
  refine r_drop h [1, 2, 0] rfl ?_
  exact H
set_option maxHeartbeats 4000000 in
set_option maxRecDepth 100000 in
theorem w_Mod_houseNamed_2 {P : Int → Mm → Prop} {K : Nat → Rr → Nat → List (Nat × AV) → List AV → Mm → Prop} (h : EK shM yX12_houseNamed cX12_houseNamed 3 (some .int) 1 NM NM (QI RRM P) K) (x1 : Int) (x2 : Int) (M : Mm)
    (H : (0 ≤ ((4 * x1) + 0) ∧ ((4 * x1) + 0) < 8) ∧ (rng x2) ∧ (rng (M 3 ((4 * x1) + 0).toNat)) ∧ ((M 3 ((4 * x1) + 0).toNat) ≤ x2 → (P (-1) M)) ∧ (¬ ((M 3 ((4 * x1) + 0).toNat) ≤ x2) → ((0 ≤ ((7 * x1) + x2) ∧ ((7 * x1) + x2) < 14) ∧ (rngL (M 4 ((7 * x1) + x2).toNat)) ∧ (rngL (M 1 7)) ∧ ((cmpL (M 4 ((7 * x1) + x2).toNat) (M 1 7)) ≠ 0 → (K NM RRM 2 [(0, vr 1), (1, vi x1), (2, vi (x2 + 1))] [] M)) ∧ ((cmpL (M 4 ((7 * x1) + x2).toNat) (M 1 7)) = 0 → (P x2 M))))) :
    K NM RRM 2 [(0, vr 1), (1, vi x1), (2, vi x2)] [] M := by
  refine r_iloadn h (q := 2) 2 rfl (by decide +kernel : decode cX12_houseNamed 2 = .ok (.iload_n 2, 1)) ?_
  refine r_aloadn h (q := 0) 0 rfl (by decide +kernel : decode cX12_houseNamed 3 = .ok (.aload_n 0, 1)) ?_
  refine r_getR h (r := 3) f_Mod_13 at1M rfl (by decide) (by decide +kernel : decode cX12_houseNamed 4 = .ok (.getfield 13, 3)) ?_
  refine r_iconst h (v := 4) (by decide +kernel : decode cX12_houseNamed 7 = .ok (.iconst 4, 1)) ?_
  refine r_iloadn h (q := 1) 1 rfl (by decide +kernel : decode cX12_houseNamed 8 = .ok (.iload_n 1, 1)) ?_
  refine r_imul h (by decide +kernel : decode cX12_houseNamed 9 = .ok (.imul, 1)) ?_
  refine r_iconst h (v := 0) (by decide +kernel : decode cX12_houseNamed 10 = .ok (.iconst 0, 1)) ?_
  refine r_iadd h (by decide +kernel : decode cX12_houseNamed 11 = .ok (.iadd, 1)) ?_
  obtain ⟨g1, H⟩ := H
  refine r_iald h ((4 * x1) + 0).toNat rfl atM_3 g1 (by decide) (by decide +kernel : decode cX12_houseNamed 12 = .ok (.iaload, 1)) ?_
  obtain ⟨g1, g2, H⟩ := H
  obtain ⟨H1, H2⟩ := H
  refine r_icmp_ge h 43 g1 g2 (by decide) (by decide +kernel : decode cX12_houseNamed 13 = .ok (.if_icmp .ge 30, 3)) (fun hc => ?_) (fun hc => ?_)
  · have H := H1 hc
    refine r_iconst h (v := (-1)) (by decide +kernel : decode cX12_houseNamed 43 = .ok (.iconst (-1), 1)) ?_
    exact r_iret h rfl (by decide +kernel : decode cX12_houseNamed 44 = .ok (.ireturn, 1)) rfl ⟨rfl, _, rfl, H⟩
  · have H := H2 hc
    refine r_aloadn h (q := 0) 0 rfl (by decide +kernel : decode cX12_houseNamed 16 = .ok (.aload_n 0, 1)) ?_
    refine r_getR h (r := 4) f_Mod_16 at1M rfl (by decide) (by decide +kernel : decode cX12_houseNamed 17 = .ok (.getfield 16, 3)) ?_
    refine r_bipush h (v := 7) (by decide) (by decide +kernel : decode cX12_houseNamed 20 = .ok (.bipush 7, 2)) ?_
    refine r_iloadn h (q := 1) 1 rfl (by decide +kernel : decode cX12_houseNamed 22 = .ok (.iload_n 1, 1)) ?_
    refine r_imul h (by decide +kernel : decode cX12_houseNamed 23 = .ok (.imul, 1)) ?_
    refine r_iloadn h (q := 2) 2 rfl (by decide +kernel : decode cX12_houseNamed 24 = .ok (.iload_n 2, 1)) ?_
    refine r_iadd h (by decide +kernel : decode cX12_houseNamed 25 = .ok (.iadd, 1)) ?_
    obtain ⟨g1, H⟩ := H
    refine r_lald h ((7 * x1) + x2).toNat rfl atM_4 g1 (by decide) (by decide +kernel : decode cX12_houseNamed 26 = .ok (.laload, 1)) ?_
    refine r_aloadn h (q := 0) 0 rfl (by decide +kernel : decode cX12_houseNamed 27 = .ok (.aload_n 0, 1)) ?_
    refine r_getL h f_Mod_165 at1M (by decide +kernel : decode cX12_houseNamed 28 = .ok (.getfield 165, 3)) ?_
    obtain ⟨g1, g2, H⟩ := H
    refine r_lcmp h g1 g2 (by decide +kernel : decode cX12_houseNamed 31 = .ok (.lcmp, 1)) ?_
    obtain ⟨H1, H2⟩ := H
    refine r_if_ne h 37 (rng_cmpL _ _) (by decide) (by decide +kernel : decode cX12_houseNamed 32 = .ok (.ifCond .ne 5, 3)) (fun hc => ?_) (fun hc => ?_)
    · have H := H1 hc
      refine r_iinc h (i := 2) (v := 1) (L' := [(2, vi (x2 + 1)), (0, vr 1), (1, vi x1)]) 2 rfl (by decide) rfl (by decide +kernel : decode cX12_houseNamed 37 = .ok (.iinc 2 1, 3)) ?_
      refine r_goto h 2 (by decide) (by decide +kernel : decode cX12_houseNamed 40 = .ok (.goto (-38), 3)) ?_
      refine r_drop h [1, 2, 0] rfl ?_
      exact H
    · have H := H2 hc
      refine r_iloadn h (q := 2) 2 rfl (by decide +kernel : decode cX12_houseNamed 35 = .ok (.iload_n 2, 1)) ?_
      exact r_iret h rfl (by decide +kernel : decode cX12_houseNamed 36 = .ok (.ireturn, 1)) rfl ⟨rfl, _, rfl, H⟩
set_option maxHeartbeats 4000000 in
set_option maxRecDepth 100000 in
theorem w_Mod_isTwice_0 {P : Int → Mm → Prop} {K : Nat → Rr → Nat → List (Nat × AV) → List AV → Mm → Prop} (h : EK shM yX12_isTwice cX12_isTwice 2 (some .boolean) 1 NM NM (QI RRM P) K) (x1 : Int) (M : Mm)
    (H : ((andI (shrI (M 1 23) x1) 1) ≠ 1 → (∀ M1 : Mm, M1 = (upr M 1 (up1 (M 1) 23 (orI (M 1 23) (shlI 1 x1)))) → P 0 M1)) ∧ ((andI (shrI (M 1 23) x1) 1) = 1 → (P 1 M))) :
    K NM RRM 0 [(0, vr 1), (1, vi x1)] [] M := by
  refine r_aloadn h (q := 0) 0 rfl (by decide +kernel : decode cX12_isTwice 0 = .ok (.aload_n 0, 1)) ?_
  refine r_getI h f_Mod_293 at1M (by decide +kernel : decode cX12_isTwice 1 = .ok (.getfield 293, 3)) ?_
  refine r_iloadn h (q := 1) 1 rfl (by decide +kernel : decode cX12_isTwice 4 = .ok (.iload_n 1, 1)) ?_
  refine r_ishr h (by decide +kernel : decode cX12_isTwice 5 = .ok (.ishr, 1)) ?_
  refine r_iconst h (v := 1) (by decide +kernel : decode cX12_isTwice 6 = .ok (.iconst 1, 1)) ?_
  refine r_iand h (by decide +kernel : decode cX12_isTwice 7 = .ok (.iand, 1)) ?_
  refine r_iconst h (v := 1) (by decide +kernel : decode cX12_isTwice 8 = .ok (.iconst 1, 1)) ?_
  obtain ⟨H1, H2⟩ := H
  refine r_icmp_ne h 14 (rng_toInt _) (by decide) (by decide) (by decide +kernel : decode cX12_isTwice 9 = .ok (.if_icmp .ne 5, 3)) (fun hc => ?_) (fun hc => ?_)
  · have H := H1 hc
    refine r_aloadn h (q := 0) 0 rfl (by decide +kernel : decode cX12_isTwice 14 = .ok (.aload_n 0, 1)) ?_
    refine r_dup h rfl (by decide +kernel : decode cX12_isTwice 15 = .ok (.dup, 1)) ?_
    refine r_getI h f_Mod_293 at1M (by decide +kernel : decode cX12_isTwice 16 = .ok (.getfield 293, 3)) ?_
    refine r_iconst h (v := 1) (by decide +kernel : decode cX12_isTwice 19 = .ok (.iconst 1, 1)) ?_
    refine r_iloadn h (q := 1) 1 rfl (by decide +kernel : decode cX12_isTwice 20 = .ok (.iload_n 1, 1)) ?_
    refine r_ishl h (by decide +kernel : decode cX12_isTwice 21 = .ok (.ishl, 1)) ?_
    refine r_ior h (by decide +kernel : decode cX12_isTwice 22 = .ok (.ior, 1)) ?_
    refine r_putI h f_Mod_293 at1M rfl rfl (by decide +kernel : decode cX12_isTwice 23 = .ok (.putfield 293, 3)) ?_
    have H := H _ rfl
    revert H
    generalize (upr M 1 (up1 (M 1) 23 (orI (M 1 23) (shlI 1 x1)))) = M1
    intro H
    refine r_iconst h (v := 0) (by decide +kernel : decode cX12_isTwice 26 = .ok (.iconst 0, 1)) ?_
    exact r_zret h rfl (by decide) (by decide +kernel : decode cX12_isTwice 27 = .ok (.ireturn, 1)) rfl ⟨rfl, _, rfl, H⟩
  · have H := H2 hc
    refine r_iconst h (v := 1) (by decide +kernel : decode cX12_isTwice 12 = .ok (.iconst 1, 1)) ?_
    exact r_zret h rfl (by decide) (by decide +kernel : decode cX12_isTwice 13 = .ok (.ireturn, 1)) rfl ⟨rfl, _, rfl, H⟩
theorem W_Mod_isTwice (x1 : Int) (M : Mm) {P : Int → Mm → Prop} (H : ((andI (shrI (M 1 23) x1) 1) ≠ 1 → (∀ M1 : Mm, M1 = (upr M 1 (up1 (M 1) 23 (orI (M 1 23) (shlI 1 x1)))) → P 0 M1)) ∧ ((andI (shrI (M 1 23) x1) 1) = 1 → (P 1 M))) : S_Mod_isTwice x1 M P := e_Mod_isTwice x1 M (fun _ h => w_Mod_isTwice_0 h x1 M H)
set_option maxHeartbeats 4000000 in
set_option maxRecDepth 100000 in
theorem w_Mod_shifts_0 {P : Mm → Prop} {K : Nat → Rr → Nat → List (Nat × AV) → List AV → Mm → Prop} (h : EK shM yX12_shifts cX12_shifts 3 none 1 NM NM (QV RRM P) K) (b0 l0 : Nat) (hb0 : At shM NM b0 (.inr (0, l0))) (hl0 : l0 < 2147483648) (x1 : Int) (M : Mm)
    (H : K NM RRM 2 [(0, vr b0), (1, vi x1), (2, vi 0)] [] M) :
    K NM RRM 0 [(0, vr b0), (1, vi x1)] [] M := by
  refine r_iconst h (v := 0) (by decide +kernel : decode cX12_shifts 0 = .ok (.iconst 0, 1)) ?_
  refine r_istoren h (q := 2) (L' := [(2, vi 0), (0, vr b0), (1, vi x1)]) (by decide) rfl (by decide +kernel : decode cX12_shifts 1 = .ok (.istore_n 2, 1)) ?_
  refine r_drop h [1, 2, 0] rfl ?_
  exact H
set_option maxHeartbeats 4000000 in
set_option maxRecDepth 100000 in
theorem w_Mod_shifts_2 {P : Mm → Prop} {K : Nat → Rr → Nat → List (Nat × AV) → List AV → Mm → Prop} (h : EK shM yX12_shifts cX12_shifts 3 none 1 NM NM (QV RRM P) K) (b0 l0 : Nat) (hb0 : At shM NM b0 (.inr (0, l0))) (hl0 : l0 < 2147483648) (x1 : Int) (x2 : Int) (M : Mm)
    (H : (rng x2) ∧ (rng x1) ∧ (x1 ≤ x2 → (P M)) ∧ (¬ (x1 ≤ x2) → ((0 ≤ (x1 + x2) ∧ (x1 + x2) < l0) ∧ (0 ≤ x2 ∧ x2 < l0) ∧ ∀ M1 : Mm, M1 = (upr M b0 (up1 (M b0) x2.toNat (M b0 (x1 + x2).toNat))) → K NM RRM 2 [(0, vr b0), (1, vi x1), (2, vi (x2 + 1))] [] M1))) :
    K NM RRM 2 [(0, vr b0), (1, vi x1), (2, vi x2)] [] M := by
  refine r_iloadn h (q := 2) 2 rfl (by decide +kernel : decode cX12_shifts 2 = .ok (.iload_n 2, 1)) ?_
  refine r_iloadn h (q := 1) 1 rfl (by decide +kernel : decode cX12_shifts 3 = .ok (.iload_n 1, 1)) ?_
  obtain ⟨g1, g2, H⟩ := H
  obtain ⟨H1, H2⟩ := H
  refine r_icmp_ge h 21 g1 g2 (by decide) (by decide +kernel : decode cX12_shifts 4 = .ok (.if_icmp .ge 17, 3)) (fun hc => ?_) (fun hc => ?_)
  · have H := H1 hc
    exact r_vret h rfl (by decide +kernel : decode cX12_shifts 21 = .ok (.return_, 1)) rfl ⟨rfl, rfl, H⟩
  · have H := H2 hc
    refine r_aloadn h (q := 0) 0 rfl (by decide +kernel : decode cX12_shifts 7 = .ok (.aload_n 0, 1)) ?_
    refine r_iloadn h (q := 2) 2 rfl (by decide +kernel : decode cX12_shifts 8 = .ok (.iload_n 2, 1)) ?_
    refine r_aloadn h (q := 0) 0 rfl (by decide +kernel : decode cX12_shifts 9 = .ok (.aload_n 0, 1)) ?_
    refine r_iloadn h (q := 1) 1 rfl (by decide +kernel : decode cX12_shifts 10 = .ok (.iload_n 1, 1)) ?_
    refine r_iloadn h (q := 2) 2 rfl (by decide +kernel : decode cX12_shifts 11 = .ok (.iload_n 2, 1)) ?_
    refine r_iadd h (by decide +kernel : decode cX12_shifts 12 = .ok (.iadd, 1)) ?_
    obtain ⟨g1, H⟩ := H
    refine r_iald h (x1 + x2).toNat rfl hb0 g1 hl0 (by decide +kernel : decode cX12_shifts 13 = .ok (.iaload, 1)) ?_
    obtain ⟨g1, H⟩ := H
    refine r_iast h x2.toNat rfl hb0 g1 hl0 (by decide +kernel : decode cX12_shifts 14 = .ok (.iastore, 1)) ?_
    have H := H _ rfl
    revert H
    generalize (upr M b0 (up1 (M b0) x2.toNat (M b0 (x1 + x2).toNat))) = M1
    intro H
    refine r_iinc h (i := 2) (v := 1) (L' := [(2, vi (x2 + 1)), (0, vr b0), (1, vi x1)]) 2 rfl (by decide) rfl (by decide +kernel : decode cX12_shifts 15 = .ok (.iinc 2 1, 3)) ?_
    refine r_goto h 2 (by decide) (by decide +kernel : decode cX12_shifts 18 = .ok (.goto (-16), 3)) ?_
    refine r_drop h [1, 2, 0] rfl ?_
    exact H
set_option maxHeartbeats 4000000 in
set_option maxRecDepth 100000 in
theorem w_Mod_copies_0 {P : Mm → Prop} {K : Nat → Rr → Nat → List (Nat × AV) → List AV → Mm → Prop} (h : EK shM yX12_copies cX12_copies 5 none 1 NM NM (QV RRM P) K) (b0 l0 : Nat) (hb0 : At shM NM b0 (.inr (0, l0))) (hl0 : l0 < 2147483648) (x1 : Int) (b2 l2 : Nat) (hb2 : At shM NM b2 (.inr (0, l2))) (hl2 : l2 < 2147483648) (x3 : Int) (M : Mm)
    (H : K NM RRM 3 [(0, vr b0), (1, vi x1), (2, vr b2), (3, vi x3), (4, vi 0)] [] M) :
    K NM RRM 0 [(0, vr b0), (1, vi x1), (2, vr b2), (3, vi x3)] [] M := by
  refine r_iconst h (v := 0) (by decide +kernel : decode cX12_copies 0 = .ok (.iconst 0, 1)) ?_
  refine r_istore h (L' := [(4, vi 0), (0, vr b0), (1, vi x1), (2, vr b2), (3, vi x3)]) (by decide) rfl (by decide +kernel : decode cX12_copies 1 = .ok (.istore 4, 2)) ?_
  refine r_drop h [1, 2, 3, 4, 0] rfl ?_
  exact H
set_option maxHeartbeats 4000000 in
set_option maxRecDepth 100000 in
theorem w_Mod_copies_3 {P : Mm → Prop} {K : Nat → Rr → Nat → List (Nat × AV) → List AV → Mm → Prop} (h : EK shM yX12_copies cX12_copies 5 none 1 NM NM (QV RRM P) K) (b0 l0 : Nat) (hb0 : At shM NM b0 (.inr (0, l0))) (hl0 : l0 < 2147483648) (b2 l2 : Nat) (hb2 : At shM NM b2 (.inr (0, l2))) (hl2 : l2 < 2147483648) (x1 : Int) (x3 : Int) (x4 : Int) (M : Mm)
    (H : (rng x4) ∧ (33 ≤ x4 → (P M)) ∧ (¬ (33 ≤ x4) → ((0 ≤ (x1 + x4) ∧ (x1 + x4) < l0) ∧ (0 ≤ (x3 + x4) ∧ (x3 + x4) < l2) ∧ ∀ M1 : Mm, M1 = (upr M b2 (up1 (M b2) (x3 + x4).toNat (M b0 (x1 + x4).toNat))) → K NM RRM 3 [(0, vr b0), (1, vi x1), (2, vr b2), (3, vi x3), (4, vi (x4 + 1))] [] M1))) :
    K NM RRM 3 [(0, vr b0), (1, vi x1), (2, vr b2), (3, vi x3), (4, vi x4)] [] M := by
  refine r_iload h 4 rfl (by decide +kernel : decode cX12_copies 3 = .ok (.iload 4, 2)) ?_
  refine r_bipush h (v := 33) (by decide) (by decide +kernel : decode cX12_copies 5 = .ok (.bipush 33, 2)) ?_
  obtain ⟨g1, H⟩ := H
  obtain ⟨H1, H2⟩ := H
  refine r_icmp_ge h 28 g1 (by decide) (by decide) (by decide +kernel : decode cX12_copies 7 = .ok (.if_icmp .ge 21, 3)) (fun hc => ?_) (fun hc => ?_)
  · have H := H1 hc
    exact r_vret h rfl (by decide +kernel : decode cX12_copies 28 = .ok (.return_, 1)) rfl ⟨rfl, rfl, H⟩
  · have H := H2 hc
    refine r_aloadn h (q := 2) 2 rfl (by decide +kernel : decode cX12_copies 10 = .ok (.aload_n 2, 1)) ?_
    refine r_iloadn h (q := 3) 3 rfl (by decide +kernel : decode cX12_copies 11 = .ok (.iload_n 3, 1)) ?_
    refine r_iload h 4 rfl (by decide +kernel : decode cX12_copies 12 = .ok (.iload 4, 2)) ?_
    refine r_iadd h (by decide +kernel : decode cX12_copies 14 = .ok (.iadd, 1)) ?_
    refine r_aloadn h (q := 0) 0 rfl (by decide +kernel : decode cX12_copies 15 = .ok (.aload_n 0, 1)) ?_
    refine r_iloadn h (q := 1) 1 rfl (by decide +kernel : decode cX12_copies 16 = .ok (.iload_n 1, 1)) ?_
    refine r_iload h 4 rfl (by decide +kernel : decode cX12_copies 17 = .ok (.iload 4, 2)) ?_
    refine r_iadd h (by decide +kernel : decode cX12_copies 19 = .ok (.iadd, 1)) ?_
    obtain ⟨g1, H⟩ := H
    refine r_iald h (x1 + x4).toNat rfl hb0 g1 hl0 (by decide +kernel : decode cX12_copies 20 = .ok (.iaload, 1)) ?_
    obtain ⟨g1, H⟩ := H
    refine r_iast h (x3 + x4).toNat rfl hb2 g1 hl2 (by decide +kernel : decode cX12_copies 21 = .ok (.iastore, 1)) ?_
    have H := H _ rfl
    revert H
    generalize (upr M b2 (up1 (M b2) (x3 + x4).toNat (M b0 (x1 + x4).toNat))) = M1
    intro H
    refine r_iinc h (i := 4) (v := 1) (L' := [(4, vi (x4 + 1)), (0, vr b0), (1, vi x1), (2, vr b2), (3, vi x3)]) 4 rfl (by decide) rfl (by decide +kernel : decode cX12_copies 22 = .ok (.iinc 4 1, 3)) ?_
    refine r_goto h 3 (by decide) (by decide +kernel : decode cX12_copies 25 = .ok (.goto (-22), 3)) ?_
    refine r_drop h [1, 2, 3, 4, 0] rfl ?_
    exact H
set_option maxHeartbeats 4000000 in
set_option maxRecDepth 100000 in
theorem w_Mod_laysLines_0 {P : Mm → Prop} {K : Nat → Rr → Nat → List (Nat × AV) → List AV → Mm → Prop} (h : EK shM yX12_laysLines cX12_laysLines 4 none 1 NM NM (QV RRM P) K) (x1 : Int) (x2 : Int) (M : Mm)
    (H : (0 ≤ x1 ∧ x1 < 6) ∧ (0 ≤ x2 ∧ x2 < 6) ∧ ∀ M1 : Mm, M1 = (upr M 26 (up1 (M 26) x2.toNat (M 26 x1.toNat))) → K NM RRM 14 [(0, vr 1), (1, vi x1), (2, vi x2), (3, vi 0)] [] M1) :
    K NM RRM 0 [(0, vr 1), (1, vi x1), (2, vi x2)] [] M := by
  refine r_aloadn h (q := 0) 0 rfl (by decide +kernel : decode cX12_laysLines 0 = .ok (.aload_n 0, 1)) ?_
  refine r_getR h (r := 26) f_Mod_84 at1M rfl (by decide) (by decide +kernel : decode cX12_laysLines 1 = .ok (.getfield 84, 3)) ?_
  refine r_iloadn h (q := 2) 2 rfl (by decide +kernel : decode cX12_laysLines 4 = .ok (.iload_n 2, 1)) ?_
  refine r_aloadn h (q := 0) 0 rfl (by decide +kernel : decode cX12_laysLines 5 = .ok (.aload_n 0, 1)) ?_
  refine r_getR h (r := 26) f_Mod_84 at1M rfl (by decide) (by decide +kernel : decode cX12_laysLines 6 = .ok (.getfield 84, 3)) ?_
  refine r_iloadn h (q := 1) 1 rfl (by decide +kernel : decode cX12_laysLines 9 = .ok (.iload_n 1, 1)) ?_
  obtain ⟨g1, H⟩ := H
  refine r_iald h x1.toNat rfl atM_26 g1 (by decide) (by decide +kernel : decode cX12_laysLines 10 = .ok (.iaload, 1)) ?_
  obtain ⟨g1, H⟩ := H
  refine r_iast h x2.toNat rfl atM_26 g1 (by decide) (by decide +kernel : decode cX12_laysLines 11 = .ok (.iastore, 1)) ?_
  have H := H _ rfl
  revert H
  generalize (upr M 26 (up1 (M 26) x2.toNat (M 26 x1.toNat))) = M1
  intro H
  refine r_iconst h (v := 0) (by decide +kernel : decode cX12_laysLines 12 = .ok (.iconst 0, 1)) ?_
  refine r_istoren h (q := 3) (L' := [(3, vi 0), (0, vr 1), (1, vi x1), (2, vi x2)]) (by decide) rfl (by decide +kernel : decode cX12_laysLines 13 = .ok (.istore_n 3, 1)) ?_
  refine r_drop h [1, 2, 3, 0] rfl ?_
  exact H
set_option maxHeartbeats 4000000 in
set_option maxRecDepth 100000 in
theorem w_Mod_laysLines_14 {P : Mm → Prop} {K : Nat → Rr → Nat → List (Nat × AV) → List AV → Mm → Prop} (h : EK shM yX12_laysLines cX12_laysLines 4 none 1 NM NM (QV RRM P) K) (x1 : Int) (x2 : Int) (x3 : Int) (M : Mm)
    (H : (rng x3) ∧ (40 ≤ x3 → (P M)) ∧ (¬ (40 ≤ x3) → ((0 ≤ ((40 * x1) + x3) ∧ ((40 * x1) + x3) < 240) ∧ (0 ≤ ((40 * x2) + x3) ∧ ((40 * x2) + x3) < 240) ∧ ∀ M1 : Mm, M1 = (upr M 27 (up1 (M 27) ((40 * x2) + x3).toNat (M 27 ((40 * x1) + x3).toNat))) → (0 ≤ ((40 * x1) + x3) ∧ ((40 * x1) + x3) < 240) ∧ (0 ≤ ((40 * x2) + x3) ∧ ((40 * x2) + x3) < 240) ∧ ∀ M2 : Mm, M2 = (upr M1 28 (up1 (M1 28) ((40 * x2) + x3).toNat (M1 28 ((40 * x1) + x3).toNat))) → (0 ≤ ((40 * x1) + x3) ∧ ((40 * x1) + x3) < 240) ∧ (0 ≤ ((40 * x2) + x3) ∧ ((40 * x2) + x3) < 240) ∧ ∀ M3 : Mm, M3 = (upr M2 29 (up1 (M2 29) ((40 * x2) + x3).toNat (M2 29 ((40 * x1) + x3).toNat))) → K NM RRM 14 [(0, vr 1), (1, vi x1), (2, vi x2), (3, vi (x3 + 1))] [] M3))) :
    K NM RRM 14 [(0, vr 1), (1, vi x1), (2, vi x2), (3, vi x3)] [] M := by
  refine r_iloadn h (q := 3) 3 rfl (by decide +kernel : decode cX12_laysLines 14 = .ok (.iload_n 3, 1)) ?_
  refine r_bipush h (v := 40) (by decide) (by decide +kernel : decode cX12_laysLines 15 = .ok (.bipush 40, 2)) ?_
  obtain ⟨g1, H⟩ := H
  obtain ⟨H1, H2⟩ := H
  refine r_icmp_ge h 92 g1 (by decide) (by decide) (by decide +kernel : decode cX12_laysLines 17 = .ok (.if_icmp .ge 75, 3)) (fun hc => ?_) (fun hc => ?_)
  · have H := H1 hc
    exact r_vret h rfl (by decide +kernel : decode cX12_laysLines 92 = .ok (.return_, 1)) rfl ⟨rfl, rfl, H⟩
  · have H := H2 hc
    refine r_aloadn h (q := 0) 0 rfl (by decide +kernel : decode cX12_laysLines 20 = .ok (.aload_n 0, 1)) ?_
    refine r_getR h (r := 27) f_Mod_87 at1M rfl (by decide) (by decide +kernel : decode cX12_laysLines 21 = .ok (.getfield 87, 3)) ?_
    refine r_bipush h (v := 40) (by decide) (by decide +kernel : decode cX12_laysLines 24 = .ok (.bipush 40, 2)) ?_
    refine r_iloadn h (q := 2) 2 rfl (by decide +kernel : decode cX12_laysLines 26 = .ok (.iload_n 2, 1)) ?_
    refine r_imul h (by decide +kernel : decode cX12_laysLines 27 = .ok (.imul, 1)) ?_
    refine r_iloadn h (q := 3) 3 rfl (by decide +kernel : decode cX12_laysLines 28 = .ok (.iload_n 3, 1)) ?_
    refine r_iadd h (by decide +kernel : decode cX12_laysLines 29 = .ok (.iadd, 1)) ?_
    refine r_aloadn h (q := 0) 0 rfl (by decide +kernel : decode cX12_laysLines 30 = .ok (.aload_n 0, 1)) ?_
    refine r_getR h (r := 27) f_Mod_87 at1M rfl (by decide) (by decide +kernel : decode cX12_laysLines 31 = .ok (.getfield 87, 3)) ?_
    refine r_bipush h (v := 40) (by decide) (by decide +kernel : decode cX12_laysLines 34 = .ok (.bipush 40, 2)) ?_
    refine r_iloadn h (q := 1) 1 rfl (by decide +kernel : decode cX12_laysLines 36 = .ok (.iload_n 1, 1)) ?_
    refine r_imul h (by decide +kernel : decode cX12_laysLines 37 = .ok (.imul, 1)) ?_
    refine r_iloadn h (q := 3) 3 rfl (by decide +kernel : decode cX12_laysLines 38 = .ok (.iload_n 3, 1)) ?_
    refine r_iadd h (by decide +kernel : decode cX12_laysLines 39 = .ok (.iadd, 1)) ?_
    obtain ⟨g1, H⟩ := H
    refine r_iald h ((40 * x1) + x3).toNat rfl atM_27 g1 (by decide) (by decide +kernel : decode cX12_laysLines 40 = .ok (.iaload, 1)) ?_
    obtain ⟨g1, H⟩ := H
    refine r_iast h ((40 * x2) + x3).toNat rfl atM_27 g1 (by decide) (by decide +kernel : decode cX12_laysLines 41 = .ok (.iastore, 1)) ?_
    have H := H _ rfl
    revert H
    generalize (upr M 27 (up1 (M 27) ((40 * x2) + x3).toNat (M 27 ((40 * x1) + x3).toNat))) = M1
    intro H
    refine r_aloadn h (q := 0) 0 rfl (by decide +kernel : decode cX12_laysLines 42 = .ok (.aload_n 0, 1)) ?_
    refine r_getR h (r := 28) f_Mod_90 at1M rfl (by decide) (by decide +kernel : decode cX12_laysLines 43 = .ok (.getfield 90, 3)) ?_
    refine r_bipush h (v := 40) (by decide) (by decide +kernel : decode cX12_laysLines 46 = .ok (.bipush 40, 2)) ?_
    refine r_iloadn h (q := 2) 2 rfl (by decide +kernel : decode cX12_laysLines 48 = .ok (.iload_n 2, 1)) ?_
    refine r_imul h (by decide +kernel : decode cX12_laysLines 49 = .ok (.imul, 1)) ?_
    refine r_iloadn h (q := 3) 3 rfl (by decide +kernel : decode cX12_laysLines 50 = .ok (.iload_n 3, 1)) ?_
    refine r_iadd h (by decide +kernel : decode cX12_laysLines 51 = .ok (.iadd, 1)) ?_
    refine r_aloadn h (q := 0) 0 rfl (by decide +kernel : decode cX12_laysLines 52 = .ok (.aload_n 0, 1)) ?_
    refine r_getR h (r := 28) f_Mod_90 at1M rfl (by decide) (by decide +kernel : decode cX12_laysLines 53 = .ok (.getfield 90, 3)) ?_
    refine r_bipush h (v := 40) (by decide) (by decide +kernel : decode cX12_laysLines 56 = .ok (.bipush 40, 2)) ?_
    refine r_iloadn h (q := 1) 1 rfl (by decide +kernel : decode cX12_laysLines 58 = .ok (.iload_n 1, 1)) ?_
    refine r_imul h (by decide +kernel : decode cX12_laysLines 59 = .ok (.imul, 1)) ?_
    refine r_iloadn h (q := 3) 3 rfl (by decide +kernel : decode cX12_laysLines 60 = .ok (.iload_n 3, 1)) ?_
    refine r_iadd h (by decide +kernel : decode cX12_laysLines 61 = .ok (.iadd, 1)) ?_
    obtain ⟨g1, H⟩ := H
    refine r_iald h ((40 * x1) + x3).toNat rfl atM_28 g1 (by decide) (by decide +kernel : decode cX12_laysLines 62 = .ok (.iaload, 1)) ?_
    obtain ⟨g1, H⟩ := H
    refine r_iast h ((40 * x2) + x3).toNat rfl atM_28 g1 (by decide) (by decide +kernel : decode cX12_laysLines 63 = .ok (.iastore, 1)) ?_
    have H := H _ rfl
    revert H
    generalize (upr M1 28 (up1 (M1 28) ((40 * x2) + x3).toNat (M1 28 ((40 * x1) + x3).toNat))) = M2
    intro H
    refine r_aloadn h (q := 0) 0 rfl (by decide +kernel : decode cX12_laysLines 64 = .ok (.aload_n 0, 1)) ?_
    refine r_getR h (r := 29) f_Mod_93 at1M rfl (by decide) (by decide +kernel : decode cX12_laysLines 65 = .ok (.getfield 93, 3)) ?_
    refine r_bipush h (v := 40) (by decide) (by decide +kernel : decode cX12_laysLines 68 = .ok (.bipush 40, 2)) ?_
    refine r_iloadn h (q := 2) 2 rfl (by decide +kernel : decode cX12_laysLines 70 = .ok (.iload_n 2, 1)) ?_
    refine r_imul h (by decide +kernel : decode cX12_laysLines 71 = .ok (.imul, 1)) ?_
    refine r_iloadn h (q := 3) 3 rfl (by decide +kernel : decode cX12_laysLines 72 = .ok (.iload_n 3, 1)) ?_
    refine r_iadd h (by decide +kernel : decode cX12_laysLines 73 = .ok (.iadd, 1)) ?_
    refine r_aloadn h (q := 0) 0 rfl (by decide +kernel : decode cX12_laysLines 74 = .ok (.aload_n 0, 1)) ?_
    refine r_getR h (r := 29) f_Mod_93 at1M rfl (by decide) (by decide +kernel : decode cX12_laysLines 75 = .ok (.getfield 93, 3)) ?_
    refine r_bipush h (v := 40) (by decide) (by decide +kernel : decode cX12_laysLines 78 = .ok (.bipush 40, 2)) ?_
    refine r_iloadn h (q := 1) 1 rfl (by decide +kernel : decode cX12_laysLines 80 = .ok (.iload_n 1, 1)) ?_
    refine r_imul h (by decide +kernel : decode cX12_laysLines 81 = .ok (.imul, 1)) ?_
    refine r_iloadn h (q := 3) 3 rfl (by decide +kernel : decode cX12_laysLines 82 = .ok (.iload_n 3, 1)) ?_
    refine r_iadd h (by decide +kernel : decode cX12_laysLines 83 = .ok (.iadd, 1)) ?_
    obtain ⟨g1, H⟩ := H
    refine r_iald h ((40 * x1) + x3).toNat rfl atM_29 g1 (by decide) (by decide +kernel : decode cX12_laysLines 84 = .ok (.iaload, 1)) ?_
    obtain ⟨g1, H⟩ := H
    refine r_iast h ((40 * x2) + x3).toNat rfl atM_29 g1 (by decide) (by decide +kernel : decode cX12_laysLines 85 = .ok (.iastore, 1)) ?_
    have H := H _ rfl
    revert H
    generalize (upr M2 29 (up1 (M2 29) ((40 * x2) + x3).toNat (M2 29 ((40 * x1) + x3).toNat))) = M3
    intro H
    refine r_iinc h (i := 3) (v := 1) (L' := [(3, vi (x3 + 1)), (0, vr 1), (1, vi x1), (2, vi x2)]) 3 rfl (by decide) rfl (by decide +kernel : decode cX12_laysLines 86 = .ok (.iinc 3 1, 3)) ?_
    refine r_goto h 14 (by decide) (by decide +kernel : decode cX12_laysLines 89 = .ok (.goto (-75), 3)) ?_
    refine r_drop h [1, 2, 3, 0] rfl ?_
    exact H
set_option maxHeartbeats 4000000 in
set_option maxRecDepth 100000 in
theorem w_Mod_laysSeen_0 {P : Mm → Prop} {K : Nat → Rr → Nat → List (Nat × AV) → List AV → Mm → Prop} (h : EK shM yX12_laysSeen cX12_laysSeen 4 none 1 NM NM (QV RRM P) K) (x1 : Int) (x2 : Int) (M : Mm)
    (H : (0 ≤ x1 ∧ x1 < 5) ∧ (0 ≤ x2 ∧ x2 < 5) ∧ ∀ M1 : Mm, M1 = (upr M 30 (up1 (M 30) x2.toNat (M 30 x1.toNat))) → (0 ≤ x1 ∧ x1 < 5) ∧ (0 ≤ x2 ∧ x2 < 5) ∧ ∀ M2 : Mm, M2 = (upr M1 31 (up1 (M1 31) x2.toNat (M1 31 x1.toNat))) → K NM RRM 26 [(0, vr 1), (1, vi x1), (2, vi x2), (3, vi 0)] [] M2) :
    K NM RRM 0 [(0, vr 1), (1, vi x1), (2, vi x2)] [] M := by
  refine r_aloadn h (q := 0) 0 rfl (by decide +kernel : decode cX12_laysSeen 0 = .ok (.aload_n 0, 1)) ?_
  refine r_getR h (r := 30) f_Mod_96 at1M rfl (by decide) (by decide +kernel : decode cX12_laysSeen 1 = .ok (.getfield 96, 3)) ?_
  refine r_iloadn h (q := 2) 2 rfl (by decide +kernel : decode cX12_laysSeen 4 = .ok (.iload_n 2, 1)) ?_
  refine r_aloadn h (q := 0) 0 rfl (by decide +kernel : decode cX12_laysSeen 5 = .ok (.aload_n 0, 1)) ?_
  refine r_getR h (r := 30) f_Mod_96 at1M rfl (by decide) (by decide +kernel : decode cX12_laysSeen 6 = .ok (.getfield 96, 3)) ?_
  refine r_iloadn h (q := 1) 1 rfl (by decide +kernel : decode cX12_laysSeen 9 = .ok (.iload_n 1, 1)) ?_
  obtain ⟨g1, H⟩ := H
  refine r_iald h x1.toNat rfl atM_30 g1 (by decide) (by decide +kernel : decode cX12_laysSeen 10 = .ok (.iaload, 1)) ?_
  obtain ⟨g1, H⟩ := H
  refine r_iast h x2.toNat rfl atM_30 g1 (by decide) (by decide +kernel : decode cX12_laysSeen 11 = .ok (.iastore, 1)) ?_
  have H := H _ rfl
  revert H
  generalize (upr M 30 (up1 (M 30) x2.toNat (M 30 x1.toNat))) = M1
  intro H
  refine r_aloadn h (q := 0) 0 rfl (by decide +kernel : decode cX12_laysSeen 12 = .ok (.aload_n 0, 1)) ?_
  refine r_getR h (r := 31) f_Mod_99 at1M rfl (by decide) (by decide +kernel : decode cX12_laysSeen 13 = .ok (.getfield 99, 3)) ?_
  refine r_iloadn h (q := 2) 2 rfl (by decide +kernel : decode cX12_laysSeen 16 = .ok (.iload_n 2, 1)) ?_
  refine r_aloadn h (q := 0) 0 rfl (by decide +kernel : decode cX12_laysSeen 17 = .ok (.aload_n 0, 1)) ?_
  refine r_getR h (r := 31) f_Mod_99 at1M rfl (by decide) (by decide +kernel : decode cX12_laysSeen 18 = .ok (.getfield 99, 3)) ?_
  refine r_iloadn h (q := 1) 1 rfl (by decide +kernel : decode cX12_laysSeen 21 = .ok (.iload_n 1, 1)) ?_
  obtain ⟨g1, H⟩ := H
  refine r_iald h x1.toNat rfl atM_31 g1 (by decide) (by decide +kernel : decode cX12_laysSeen 22 = .ok (.iaload, 1)) ?_
  obtain ⟨g1, H⟩ := H
  refine r_iast h x2.toNat rfl atM_31 g1 (by decide) (by decide +kernel : decode cX12_laysSeen 23 = .ok (.iastore, 1)) ?_
  have H := H _ rfl
  revert H
  generalize (upr M1 31 (up1 (M1 31) x2.toNat (M1 31 x1.toNat))) = M2
  intro H
  refine r_iconst h (v := 0) (by decide +kernel : decode cX12_laysSeen 24 = .ok (.iconst 0, 1)) ?_
  refine r_istoren h (q := 3) (L' := [(3, vi 0), (0, vr 1), (1, vi x1), (2, vi x2)]) (by decide) rfl (by decide +kernel : decode cX12_laysSeen 25 = .ok (.istore_n 3, 1)) ?_
  refine r_drop h [1, 2, 3, 0] rfl ?_
  exact H
set_option maxHeartbeats 4000000 in
set_option maxRecDepth 100000 in
theorem w_Mod_laysSeen_26 {P : Mm → Prop} {K : Nat → Rr → Nat → List (Nat × AV) → List AV → Mm → Prop} (h : EK shM yX12_laysSeen cX12_laysSeen 4 none 1 NM NM (QV RRM P) K) (x1 : Int) (x2 : Int) (x3 : Int) (M : Mm)
    (H : (rng x3) ∧ (8 ≤ x3 → (P M)) ∧ (¬ (8 ≤ x3) → ((0 ≤ ((8 * x1) + x3) ∧ ((8 * x1) + x3) < 40) ∧ (0 ≤ ((8 * x2) + x3) ∧ ((8 * x2) + x3) < 40) ∧ ∀ M1 : Mm, M1 = (upr M 32 (up1 (M 32) ((8 * x2) + x3).toNat (M 32 ((8 * x1) + x3).toNat))) → (0 ≤ ((8 * x1) + x3) ∧ ((8 * x1) + x3) < 40) ∧ (0 ≤ ((8 * x2) + x3) ∧ ((8 * x2) + x3) < 40) ∧ ∀ M2 : Mm, M2 = (upr M1 33 (up1 (M1 33) ((8 * x2) + x3).toNat (M1 33 ((8 * x1) + x3).toNat))) → K NM RRM 26 [(0, vr 1), (1, vi x1), (2, vi x2), (3, vi (x3 + 1))] [] M2))) :
    K NM RRM 26 [(0, vr 1), (1, vi x1), (2, vi x2), (3, vi x3)] [] M := by
  refine r_iloadn h (q := 3) 3 rfl (by decide +kernel : decode cX12_laysSeen 26 = .ok (.iload_n 3, 1)) ?_
  refine r_bipush h (v := 8) (by decide) (by decide +kernel : decode cX12_laysSeen 27 = .ok (.bipush 8, 2)) ?_
  obtain ⟨g1, H⟩ := H
  obtain ⟨H1, H2⟩ := H
  refine r_icmp_ge h 82 g1 (by decide) (by decide) (by decide +kernel : decode cX12_laysSeen 29 = .ok (.if_icmp .ge 53, 3)) (fun hc => ?_) (fun hc => ?_)
  · have H := H1 hc
    exact r_vret h rfl (by decide +kernel : decode cX12_laysSeen 82 = .ok (.return_, 1)) rfl ⟨rfl, rfl, H⟩
  · have H := H2 hc
    refine r_aloadn h (q := 0) 0 rfl (by decide +kernel : decode cX12_laysSeen 32 = .ok (.aload_n 0, 1)) ?_
    refine r_getR h (r := 32) f_Mod_102 at1M rfl (by decide) (by decide +kernel : decode cX12_laysSeen 33 = .ok (.getfield 102, 3)) ?_
    refine r_bipush h (v := 8) (by decide) (by decide +kernel : decode cX12_laysSeen 36 = .ok (.bipush 8, 2)) ?_
    refine r_iloadn h (q := 2) 2 rfl (by decide +kernel : decode cX12_laysSeen 38 = .ok (.iload_n 2, 1)) ?_
    refine r_imul h (by decide +kernel : decode cX12_laysSeen 39 = .ok (.imul, 1)) ?_
    refine r_iloadn h (q := 3) 3 rfl (by decide +kernel : decode cX12_laysSeen 40 = .ok (.iload_n 3, 1)) ?_
    refine r_iadd h (by decide +kernel : decode cX12_laysSeen 41 = .ok (.iadd, 1)) ?_
    refine r_aloadn h (q := 0) 0 rfl (by decide +kernel : decode cX12_laysSeen 42 = .ok (.aload_n 0, 1)) ?_
    refine r_getR h (r := 32) f_Mod_102 at1M rfl (by decide) (by decide +kernel : decode cX12_laysSeen 43 = .ok (.getfield 102, 3)) ?_
    refine r_bipush h (v := 8) (by decide) (by decide +kernel : decode cX12_laysSeen 46 = .ok (.bipush 8, 2)) ?_
    refine r_iloadn h (q := 1) 1 rfl (by decide +kernel : decode cX12_laysSeen 48 = .ok (.iload_n 1, 1)) ?_
    refine r_imul h (by decide +kernel : decode cX12_laysSeen 49 = .ok (.imul, 1)) ?_
    refine r_iloadn h (q := 3) 3 rfl (by decide +kernel : decode cX12_laysSeen 50 = .ok (.iload_n 3, 1)) ?_
    refine r_iadd h (by decide +kernel : decode cX12_laysSeen 51 = .ok (.iadd, 1)) ?_
    obtain ⟨g1, H⟩ := H
    refine r_iald h ((8 * x1) + x3).toNat rfl atM_32 g1 (by decide) (by decide +kernel : decode cX12_laysSeen 52 = .ok (.iaload, 1)) ?_
    obtain ⟨g1, H⟩ := H
    refine r_iast h ((8 * x2) + x3).toNat rfl atM_32 g1 (by decide) (by decide +kernel : decode cX12_laysSeen 53 = .ok (.iastore, 1)) ?_
    have H := H _ rfl
    revert H
    generalize (upr M 32 (up1 (M 32) ((8 * x2) + x3).toNat (M 32 ((8 * x1) + x3).toNat))) = M1
    intro H
    refine r_aloadn h (q := 0) 0 rfl (by decide +kernel : decode cX12_laysSeen 54 = .ok (.aload_n 0, 1)) ?_
    refine r_getR h (r := 33) f_Mod_105 at1M rfl (by decide) (by decide +kernel : decode cX12_laysSeen 55 = .ok (.getfield 105, 3)) ?_
    refine r_bipush h (v := 8) (by decide) (by decide +kernel : decode cX12_laysSeen 58 = .ok (.bipush 8, 2)) ?_
    refine r_iloadn h (q := 2) 2 rfl (by decide +kernel : decode cX12_laysSeen 60 = .ok (.iload_n 2, 1)) ?_
    refine r_imul h (by decide +kernel : decode cX12_laysSeen 61 = .ok (.imul, 1)) ?_
    refine r_iloadn h (q := 3) 3 rfl (by decide +kernel : decode cX12_laysSeen 62 = .ok (.iload_n 3, 1)) ?_
    refine r_iadd h (by decide +kernel : decode cX12_laysSeen 63 = .ok (.iadd, 1)) ?_
    refine r_aloadn h (q := 0) 0 rfl (by decide +kernel : decode cX12_laysSeen 64 = .ok (.aload_n 0, 1)) ?_
    refine r_getR h (r := 33) f_Mod_105 at1M rfl (by decide) (by decide +kernel : decode cX12_laysSeen 65 = .ok (.getfield 105, 3)) ?_
    refine r_bipush h (v := 8) (by decide) (by decide +kernel : decode cX12_laysSeen 68 = .ok (.bipush 8, 2)) ?_
    refine r_iloadn h (q := 1) 1 rfl (by decide +kernel : decode cX12_laysSeen 70 = .ok (.iload_n 1, 1)) ?_
    refine r_imul h (by decide +kernel : decode cX12_laysSeen 71 = .ok (.imul, 1)) ?_
    refine r_iloadn h (q := 3) 3 rfl (by decide +kernel : decode cX12_laysSeen 72 = .ok (.iload_n 3, 1)) ?_
    refine r_iadd h (by decide +kernel : decode cX12_laysSeen 73 = .ok (.iadd, 1)) ?_
    obtain ⟨g1, H⟩ := H
    refine r_iald h ((8 * x1) + x3).toNat rfl atM_33 g1 (by decide) (by decide +kernel : decode cX12_laysSeen 74 = .ok (.iaload, 1)) ?_
    obtain ⟨g1, H⟩ := H
    refine r_iast h ((8 * x2) + x3).toNat rfl atM_33 g1 (by decide) (by decide +kernel : decode cX12_laysSeen 75 = .ok (.iastore, 1)) ?_
    have H := H _ rfl
    revert H
    generalize (upr M1 33 (up1 (M1 33) ((8 * x2) + x3).toNat (M1 33 ((8 * x1) + x3).toNat))) = M2
    intro H
    refine r_iinc h (i := 3) (v := 1) (L' := [(3, vi (x3 + 1)), (0, vr 1), (1, vi x1), (2, vi x2)]) 3 rfl (by decide) rfl (by decide +kernel : decode cX12_laysSeen 76 = .ok (.iinc 3 1, 3)) ?_
    refine r_goto h 26 (by decide) (by decide +kernel : decode cX12_laysSeen 79 = .ok (.goto (-53), 3)) ?_
    refine r_drop h [1, 2, 3, 0] rfl ?_
    exact H
set_option maxHeartbeats 4000000 in
set_option maxRecDepth 100000 in
theorem w_Mod_fresh_0 {P : Mm → Prop} {K : Nat → Rr → Nat → List (Nat × AV) → List AV → Mm → Prop} (h : EK shM yX12_fresh cX12_fresh 2 none 1 NM NM (QV RRM P) K)  (M : Mm)
    (H : K NM RRM 2 [(0, vr 1), (1, vi 0)] [] M) :
    K NM RRM 0 [(0, vr 1)] [] M := by
  refine r_iconst h (v := 0) (by decide +kernel : decode cX12_fresh 0 = .ok (.iconst 0, 1)) ?_
  refine r_istoren h (q := 1) (L' := [(1, vi 0), (0, vr 1)]) (by decide) rfl (by decide +kernel : decode cX12_fresh 1 = .ok (.istore_n 1, 1)) ?_
  refine r_drop h [1, 0] rfl ?_
  exact H
set_option maxHeartbeats 4000000 in
set_option maxRecDepth 100000 in
theorem w_Mod_fresh_2 {P : Mm → Prop} {K : Nat → Rr → Nat → List (Nat × AV) → List AV → Mm → Prop} (h : EK shM yX12_fresh cX12_fresh 2 none 1 NM NM (QV RRM P) K) (x1 : Int) (M : Mm)
    (H : (rng x1) ∧ (33 ≤ x1 → (∀ M1 : Mm, M1 = (upr M 34 (up1 (M 34) 1 (M 3 1))) → K NM RRM 35 [(0, vr 1), (1, vi 0)] [] M1)) ∧ (¬ (33 ≤ x1) → ((0 ≤ x1 ∧ x1 < 33) ∧ ∀ M2 : Mm, M2 = (upr M 34 (up1 (M 34) x1.toNat 0)) → K NM RRM 2 [(0, vr 1), (1, vi (x1 + 1))] [] M2))) :
    K NM RRM 2 [(0, vr 1), (1, vi x1)] [] M := by
  refine r_iloadn h (q := 1) 1 rfl (by decide +kernel : decode cX12_fresh 2 = .ok (.iload_n 1, 1)) ?_
  refine r_bipush h (v := 33) (by decide) (by decide +kernel : decode cX12_fresh 3 = .ok (.bipush 33, 2)) ?_
  obtain ⟨g1, H⟩ := H
  obtain ⟨H1, H2⟩ := H
  refine r_icmp_ge h 21 g1 (by decide) (by decide) (by decide +kernel : decode cX12_fresh 5 = .ok (.if_icmp .ge 16, 3)) (fun hc => ?_) (fun hc => ?_)
  · have H := H1 hc
    refine r_aloadn h (q := 0) 0 rfl (by decide +kernel : decode cX12_fresh 21 = .ok (.aload_n 0, 1)) ?_
    refine r_getR h (r := 34) f_Mod_108 at1M rfl (by decide) (by decide +kernel : decode cX12_fresh 22 = .ok (.getfield 108, 3)) ?_
    refine r_iconst h (v := 1) (by decide +kernel : decode cX12_fresh 25 = .ok (.iconst 1, 1)) ?_
    refine r_aloadn h (q := 0) 0 rfl (by decide +kernel : decode cX12_fresh 26 = .ok (.aload_n 0, 1)) ?_
    refine r_getR h (r := 3) f_Mod_13 at1M rfl (by decide) (by decide +kernel : decode cX12_fresh 27 = .ok (.getfield 13, 3)) ?_
    refine r_iconst h (v := 1) (by decide +kernel : decode cX12_fresh 30 = .ok (.iconst 1, 1)) ?_
    refine r_iald h 1 rfl atM_3 (by decide) (by decide) (by decide +kernel : decode cX12_fresh 31 = .ok (.iaload, 1)) ?_
    refine r_iast h 1 rfl atM_34 (by decide) (by decide) (by decide +kernel : decode cX12_fresh 32 = .ok (.iastore, 1)) ?_
    have H := H _ rfl
    revert H
    generalize (upr M 34 (up1 (M 34) 1 (M 3 1))) = M1
    intro H
    refine r_iconst h (v := 0) (by decide +kernel : decode cX12_fresh 33 = .ok (.iconst 0, 1)) ?_
    refine r_istoren h (q := 1) (L' := [(1, vi 0), (0, vr 1)]) (by decide) rfl (by decide +kernel : decode cX12_fresh 34 = .ok (.istore_n 1, 1)) ?_
    refine r_drop h [1, 0] rfl ?_
    exact H
  · have H := H2 hc
    refine r_aloadn h (q := 0) 0 rfl (by decide +kernel : decode cX12_fresh 8 = .ok (.aload_n 0, 1)) ?_
    refine r_getR h (r := 34) f_Mod_108 at1M rfl (by decide) (by decide +kernel : decode cX12_fresh 9 = .ok (.getfield 108, 3)) ?_
    refine r_iloadn h (q := 1) 1 rfl (by decide +kernel : decode cX12_fresh 12 = .ok (.iload_n 1, 1)) ?_
    refine r_iconst h (v := 0) (by decide +kernel : decode cX12_fresh 13 = .ok (.iconst 0, 1)) ?_
    obtain ⟨g1, H⟩ := H
    refine r_iast h x1.toNat rfl atM_34 g1 (by decide) (by decide +kernel : decode cX12_fresh 14 = .ok (.iastore, 1)) ?_
    have H := H _ rfl
    revert H
    generalize (upr M 34 (up1 (M 34) x1.toNat 0)) = M2
    intro H
    refine r_iinc h (i := 1) (v := 1) (L' := [(1, vi (x1 + 1)), (0, vr 1)]) 1 rfl (by decide) rfl (by decide +kernel : decode cX12_fresh 15 = .ok (.iinc 1 1, 3)) ?_
    refine r_goto h 2 (by decide) (by decide +kernel : decode cX12_fresh 18 = .ok (.goto (-16), 3)) ?_
    refine r_drop h [1, 0] rfl ?_
    exact H
set_option maxHeartbeats 4000000 in
set_option maxRecDepth 100000 in
theorem w_Mod_fresh_35 {P : Mm → Prop} {K : Nat → Rr → Nat → List (Nat × AV) → List AV → Mm → Prop} (h : EK shM yX12_fresh cX12_fresh 2 none 1 NM NM (QV RRM P) K) (x1 : Int) (M : Mm)
    (H : (rng x1) ∧ (rng (M 3 0)) ∧ ((M 3 0) ≤ x1 → (P M)) ∧ (¬ ((M 3 0) ≤ x1) → ((0 ≤ (5 + x1) ∧ (5 + x1) < 33) ∧ ∀ M1 : Mm, M1 = (upr M 34 (up1 (M 34) (5 + x1).toNat x1)) → (0 ≤ x1 ∧ x1 < 14) ∧ (0 ≤ (12 + x1) ∧ (12 + x1) < 33) ∧ ∀ M2 : Mm, M2 = (upr M1 34 (up1 (M1 34) (12 + x1).toNat (M1 6 x1.toNat))) → (0 ≤ x1 ∧ x1 < 14) ∧ (0 ≤ (19 + x1) ∧ (19 + x1) < 33) ∧ ∀ M3 : Mm, M3 = (upr M2 34 (up1 (M2 34) (19 + x1).toNat (M2 7 x1.toNat))) → K NM RRM 35 [(0, vr 1), (1, vi (x1 + 1))] [] M3))) :
    K NM RRM 35 [(0, vr 1), (1, vi x1)] [] M := by
  refine r_iloadn h (q := 1) 1 rfl (by decide +kernel : decode cX12_fresh 35 = .ok (.iload_n 1, 1)) ?_
  refine r_aloadn h (q := 0) 0 rfl (by decide +kernel : decode cX12_fresh 36 = .ok (.aload_n 0, 1)) ?_
  refine r_getR h (r := 3) f_Mod_13 at1M rfl (by decide) (by decide +kernel : decode cX12_fresh 37 = .ok (.getfield 13, 3)) ?_
  refine r_iconst h (v := 0) (by decide +kernel : decode cX12_fresh 40 = .ok (.iconst 0, 1)) ?_
  refine r_iald h 0 rfl atM_3 (by decide) (by decide) (by decide +kernel : decode cX12_fresh 41 = .ok (.iaload, 1)) ?_
  obtain ⟨g1, g2, H⟩ := H
  obtain ⟨H1, H2⟩ := H
  refine r_icmp_ge h 90 g1 g2 (by decide) (by decide +kernel : decode cX12_fresh 42 = .ok (.if_icmp .ge 48, 3)) (fun hc => ?_) (fun hc => ?_)
  · have H := H1 hc
    exact r_vret h rfl (by decide +kernel : decode cX12_fresh 90 = .ok (.return_, 1)) rfl ⟨rfl, rfl, H⟩
  · have H := H2 hc
    refine r_aloadn h (q := 0) 0 rfl (by decide +kernel : decode cX12_fresh 45 = .ok (.aload_n 0, 1)) ?_
    refine r_getR h (r := 34) f_Mod_108 at1M rfl (by decide) (by decide +kernel : decode cX12_fresh 46 = .ok (.getfield 108, 3)) ?_
    refine r_iconst h (v := 5) (by decide +kernel : decode cX12_fresh 49 = .ok (.iconst 5, 1)) ?_
    refine r_iloadn h (q := 1) 1 rfl (by decide +kernel : decode cX12_fresh 50 = .ok (.iload_n 1, 1)) ?_
    refine r_iadd h (by decide +kernel : decode cX12_fresh 51 = .ok (.iadd, 1)) ?_
    refine r_iloadn h (q := 1) 1 rfl (by decide +kernel : decode cX12_fresh 52 = .ok (.iload_n 1, 1)) ?_
    obtain ⟨g1, H⟩ := H
    refine r_iast h (5 + x1).toNat rfl atM_34 g1 (by decide) (by decide +kernel : decode cX12_fresh 53 = .ok (.iastore, 1)) ?_
    have H := H _ rfl
    revert H
    generalize (upr M 34 (up1 (M 34) (5 + x1).toNat x1)) = M1
    intro H
    refine r_aloadn h (q := 0) 0 rfl (by decide +kernel : decode cX12_fresh 54 = .ok (.aload_n 0, 1)) ?_
    refine r_getR h (r := 34) f_Mod_108 at1M rfl (by decide) (by decide +kernel : decode cX12_fresh 55 = .ok (.getfield 108, 3)) ?_
    refine r_bipush h (v := 12) (by decide) (by decide +kernel : decode cX12_fresh 58 = .ok (.bipush 12, 2)) ?_
    refine r_iloadn h (q := 1) 1 rfl (by decide +kernel : decode cX12_fresh 60 = .ok (.iload_n 1, 1)) ?_
    refine r_iadd h (by decide +kernel : decode cX12_fresh 61 = .ok (.iadd, 1)) ?_
    refine r_aloadn h (q := 0) 0 rfl (by decide +kernel : decode cX12_fresh 62 = .ok (.aload_n 0, 1)) ?_
    refine r_getR h (r := 6) f_Mod_23 at1M rfl (by decide) (by decide +kernel : decode cX12_fresh 63 = .ok (.getfield 23, 3)) ?_
    refine r_iloadn h (q := 1) 1 rfl (by decide +kernel : decode cX12_fresh 66 = .ok (.iload_n 1, 1)) ?_
    obtain ⟨g1, H⟩ := H
    refine r_iald h x1.toNat rfl atM_6 g1 (by decide) (by decide +kernel : decode cX12_fresh 67 = .ok (.iaload, 1)) ?_
    obtain ⟨g1, H⟩ := H
    refine r_iast h (12 + x1).toNat rfl atM_34 g1 (by decide) (by decide +kernel : decode cX12_fresh 68 = .ok (.iastore, 1)) ?_
    have H := H _ rfl
    revert H
    generalize (upr M1 34 (up1 (M1 34) (12 + x1).toNat (M1 6 x1.toNat))) = M2
    intro H
    refine r_aloadn h (q := 0) 0 rfl (by decide +kernel : decode cX12_fresh 69 = .ok (.aload_n 0, 1)) ?_
    refine r_getR h (r := 34) f_Mod_108 at1M rfl (by decide) (by decide +kernel : decode cX12_fresh 70 = .ok (.getfield 108, 3)) ?_
    refine r_bipush h (v := 19) (by decide) (by decide +kernel : decode cX12_fresh 73 = .ok (.bipush 19, 2)) ?_
    refine r_iloadn h (q := 1) 1 rfl (by decide +kernel : decode cX12_fresh 75 = .ok (.iload_n 1, 1)) ?_
    refine r_iadd h (by decide +kernel : decode cX12_fresh 76 = .ok (.iadd, 1)) ?_
    refine r_aloadn h (q := 0) 0 rfl (by decide +kernel : decode cX12_fresh 77 = .ok (.aload_n 0, 1)) ?_
    refine r_getR h (r := 7) f_Mod_26 at1M rfl (by decide) (by decide +kernel : decode cX12_fresh 78 = .ok (.getfield 26, 3)) ?_
    refine r_iloadn h (q := 1) 1 rfl (by decide +kernel : decode cX12_fresh 81 = .ok (.iload_n 1, 1)) ?_
    obtain ⟨g1, H⟩ := H
    refine r_iald h x1.toNat rfl atM_7 g1 (by decide) (by decide +kernel : decode cX12_fresh 82 = .ok (.iaload, 1)) ?_
    obtain ⟨g1, H⟩ := H
    refine r_iast h (19 + x1).toNat rfl atM_34 g1 (by decide) (by decide +kernel : decode cX12_fresh 83 = .ok (.iastore, 1)) ?_
    have H := H _ rfl
    revert H
    generalize (upr M2 34 (up1 (M2 34) (19 + x1).toNat (M2 7 x1.toNat))) = M3
    intro H
    refine r_iinc h (i := 1) (v := 1) (L' := [(1, vi (x1 + 1)), (0, vr 1)]) 1 rfl (by decide) rfl (by decide +kernel : decode cX12_fresh 84 = .ok (.iinc 1 1, 3)) ?_
    refine r_goto h 35 (by decide) (by decide +kernel : decode cX12_fresh 87 = .ok (.goto (-52), 3)) ?_
    refine r_drop h [1, 0] rfl ?_
    exact H
set_option maxHeartbeats 4000000 in
set_option maxRecDepth 100000 in
theorem w_Mod_isHouse_0 {P : Int → Mm → Prop} {K : Nat → Rr → Nat → List (Nat × AV) → List AV → Mm → Prop} (h : EK shM yX12_isHouse cX12_isHouse 2 (some .boolean) 1 NM NM (QI RRM P) K) (x1 : Int) (M : Mm)
    (H : (rng x1) ∧ (x1 < 0 → (P 0 M)) ∧ (¬ (x1 < 0) → ((rng x1) ∧ (rng (M 3 0)) ∧ ((M 3 0) ≤ x1 → (P 0 M)) ∧ (¬ ((M 3 0) ≤ x1) → (P 1 M))))) :
    K NM RRM 0 [(0, vr 1), (1, vi x1)] [] M := by
  refine r_iloadn h (q := 1) 1 rfl (by decide +kernel : decode cX12_isHouse 0 = .ok (.iload_n 1, 1)) ?_
  obtain ⟨g1, H⟩ := H
  obtain ⟨H1, H2⟩ := H
  refine r_if_lt h 18 g1 (by decide) (by decide +kernel : decode cX12_isHouse 1 = .ok (.ifCond .lt 17, 3)) (fun hc => ?_) (fun hc => ?_)
  · have H := H1 hc
    refine r_iconst h (v := 0) (by decide +kernel : decode cX12_isHouse 18 = .ok (.iconst 0, 1)) ?_
    exact r_zret h rfl (by decide) (by decide +kernel : decode cX12_isHouse 19 = .ok (.ireturn, 1)) rfl ⟨rfl, _, rfl, H⟩
  · have H := H2 hc
    refine r_iloadn h (q := 1) 1 rfl (by decide +kernel : decode cX12_isHouse 4 = .ok (.iload_n 1, 1)) ?_
    refine r_aloadn h (q := 0) 0 rfl (by decide +kernel : decode cX12_isHouse 5 = .ok (.aload_n 0, 1)) ?_
    refine r_getR h (r := 3) f_Mod_13 at1M rfl (by decide) (by decide +kernel : decode cX12_isHouse 6 = .ok (.getfield 13, 3)) ?_
    refine r_iconst h (v := 0) (by decide +kernel : decode cX12_isHouse 9 = .ok (.iconst 0, 1)) ?_
    refine r_iald h 0 rfl atM_3 (by decide) (by decide) (by decide +kernel : decode cX12_isHouse 10 = .ok (.iaload, 1)) ?_
    obtain ⟨g1, g2, H⟩ := H
    obtain ⟨H1, H2⟩ := H
    refine r_icmp_ge h 18 g1 g2 (by decide) (by decide +kernel : decode cX12_isHouse 11 = .ok (.if_icmp .ge 7, 3)) (fun hc => ?_) (fun hc => ?_)
    · have H := H1 hc
      refine r_iconst h (v := 0) (by decide +kernel : decode cX12_isHouse 18 = .ok (.iconst 0, 1)) ?_
      exact r_zret h rfl (by decide) (by decide +kernel : decode cX12_isHouse 19 = .ok (.ireturn, 1)) rfl ⟨rfl, _, rfl, H⟩
    · have H := H2 hc
      refine r_iconst h (v := 1) (by decide +kernel : decode cX12_isHouse 14 = .ok (.iconst 1, 1)) ?_
      refine r_goto h 19 (by decide) (by decide +kernel : decode cX12_isHouse 15 = .ok (.goto 4, 3)) ?_
      exact r_zret h rfl (by decide) (by decide +kernel : decode cX12_isHouse 19 = .ok (.ireturn, 1)) rfl ⟨rfl, _, rfl, H⟩
theorem W_Mod_isHouse (x1 : Int) (M : Mm) {P : Int → Mm → Prop} (H : (rng x1) ∧ (x1 < 0 → (P 0 M)) ∧ (¬ (x1 < 0) → ((rng x1) ∧ (rng (M 3 0)) ∧ ((M 3 0) ≤ x1 → (P 0 M)) ∧ (¬ ((M 3 0) ≤ x1) → (P 1 M))))) : S_Mod_isHouse x1 M P := e_Mod_isHouse x1 M (fun _ h => w_Mod_isHouse_0 h x1 M H)
set_option maxHeartbeats 4000000 in
set_option maxRecDepth 100000 in
theorem w_Mod_isGoing_0 {P : Int → Mm → Prop} {K : Nat → Rr → Nat → List (Nat × AV) → List AV → Mm → Prop} (h : EK shM yX12_isGoing cX12_isGoing 2 (some .boolean) 1 NM NM (QI RRM P) K) (x1 : Int) (M : Mm)
    (H : ((andI (shrI (M 34 4) x1) 1) ≠ 0 → (P 0 M)) ∧ ((andI (shrI (M 34 4) x1) 1) = 0 → (P 1 M))) :
    K NM RRM 0 [(0, vr 1), (1, vi x1)] [] M := by
  refine r_aloadn h (q := 0) 0 rfl (by decide +kernel : decode cX12_isGoing 0 = .ok (.aload_n 0, 1)) ?_
  refine r_getR h (r := 34) f_Mod_108 at1M rfl (by decide) (by decide +kernel : decode cX12_isGoing 1 = .ok (.getfield 108, 3)) ?_
  refine r_iconst h (v := 4) (by decide +kernel : decode cX12_isGoing 4 = .ok (.iconst 4, 1)) ?_
  refine r_iald h 4 rfl atM_34 (by decide) (by decide) (by decide +kernel : decode cX12_isGoing 5 = .ok (.iaload, 1)) ?_
  refine r_iloadn h (q := 1) 1 rfl (by decide +kernel : decode cX12_isGoing 6 = .ok (.iload_n 1, 1)) ?_
  refine r_ishr h (by decide +kernel : decode cX12_isGoing 7 = .ok (.ishr, 1)) ?_
  refine r_iconst h (v := 1) (by decide +kernel : decode cX12_isGoing 8 = .ok (.iconst 1, 1)) ?_
  refine r_iand h (by decide +kernel : decode cX12_isGoing 9 = .ok (.iand, 1)) ?_
  obtain ⟨H1, H2⟩ := H
  refine r_if_ne h 17 (rng_toInt _) (by decide) (by decide +kernel : decode cX12_isGoing 10 = .ok (.ifCond .ne 7, 3)) (fun hc => ?_) (fun hc => ?_)
  · have H := H1 hc
    refine r_iconst h (v := 0) (by decide +kernel : decode cX12_isGoing 17 = .ok (.iconst 0, 1)) ?_
    exact r_zret h rfl (by decide) (by decide +kernel : decode cX12_isGoing 18 = .ok (.ireturn, 1)) rfl ⟨rfl, _, rfl, H⟩
  · have H := H2 hc
    refine r_iconst h (v := 1) (by decide +kernel : decode cX12_isGoing 13 = .ok (.iconst 1, 1)) ?_
    refine r_goto h 18 (by decide) (by decide +kernel : decode cX12_isGoing 14 = .ok (.goto 4, 3)) ?_
    exact r_zret h rfl (by decide) (by decide +kernel : decode cX12_isGoing 18 = .ok (.ireturn, 1)) rfl ⟨rfl, _, rfl, H⟩
theorem W_Mod_isGoing (x1 : Int) (M : Mm) {P : Int → Mm → Prop} (H : ((andI (shrI (M 34 4) x1) 1) ≠ 0 → (P 0 M)) ∧ ((andI (shrI (M 34 4) x1) 1) = 0 → (P 1 M))) : S_Mod_isGoing x1 M P := e_Mod_isGoing x1 M (fun _ h => w_Mod_isGoing_0 h x1 M H)
set_option maxHeartbeats 4000000 in
set_option maxRecDepth 100000 in
theorem w_Mod_going_0 {P : Int → Mm → Prop} {K : Nat → Rr → Nat → List (Nat × AV) → List AV → Mm → Prop} (h : EK shM yX12_going cX12_going 1 (some .int) 1 NM NM (QI RRM P) K)  (M : Mm)
    (H : P (andI ((shlI 1 (M 3 0)) - 1) (xorI (M 34 4) (-1))) M) :
    K NM RRM 0 [(0, vr 1)] [] M := by
  refine r_iconst h (v := 1) (by decide +kernel : decode cX12_going 0 = .ok (.iconst 1, 1)) ?_
  refine r_aloadn h (q := 0) 0 rfl (by decide +kernel : decode cX12_going 1 = .ok (.aload_n 0, 1)) ?_
  refine r_getR h (r := 3) f_Mod_13 at1M rfl (by decide) (by decide +kernel : decode cX12_going 2 = .ok (.getfield 13, 3)) ?_
  refine r_iconst h (v := 0) (by decide +kernel : decode cX12_going 5 = .ok (.iconst 0, 1)) ?_
  refine r_iald h 0 rfl atM_3 (by decide) (by decide) (by decide +kernel : decode cX12_going 6 = .ok (.iaload, 1)) ?_
  refine r_ishl h (by decide +kernel : decode cX12_going 7 = .ok (.ishl, 1)) ?_
  refine r_iconst h (v := 1) (by decide +kernel : decode cX12_going 8 = .ok (.iconst 1, 1)) ?_
  refine r_isub h (by decide +kernel : decode cX12_going 9 = .ok (.isub, 1)) ?_
  refine r_aloadn h (q := 0) 0 rfl (by decide +kernel : decode cX12_going 10 = .ok (.aload_n 0, 1)) ?_
  refine r_getR h (r := 34) f_Mod_108 at1M rfl (by decide) (by decide +kernel : decode cX12_going 11 = .ok (.getfield 108, 3)) ?_
  refine r_iconst h (v := 4) (by decide +kernel : decode cX12_going 14 = .ok (.iconst 4, 1)) ?_
  refine r_iald h 4 rfl atM_34 (by decide) (by decide) (by decide +kernel : decode cX12_going 15 = .ok (.iaload, 1)) ?_
  refine r_iconst h (v := (-1)) (by decide +kernel : decode cX12_going 16 = .ok (.iconst (-1), 1)) ?_
  refine r_ixor h (by decide +kernel : decode cX12_going 17 = .ok (.ixor, 1)) ?_
  refine r_iand h (by decide +kernel : decode cX12_going 18 = .ok (.iand, 1)) ?_
  exact r_iret h rfl (by decide +kernel : decode cX12_going 19 = .ok (.ireturn, 1)) rfl ⟨rfl, _, rfl, H⟩
theorem W_Mod_going  (M : Mm) {P : Int → Mm → Prop} (H : P (andI ((shlI 1 (M 3 0)) - 1) (xorI (M 34 4) (-1))) M) : S_Mod_going  M P := e_Mod_going  M (fun _ h => w_Mod_going_0 h  M H)
set_option maxHeartbeats 4000000 in
set_option maxRecDepth 100000 in
theorem w_Mod_placeOf_0 {P : Int → Mm → Prop} {K : Nat → Rr → Nat → List (Nat × AV) → List AV → Mm → Prop} (h : EK shM yX12_placeOf cX12_placeOf 3 (some .int) 1 NM NM (QI RRM P) K) (x1 : Int) (M : Mm)
    (H : K NM RRM 2 [(0, vr 1), (1, vi x1), (2, vi 0)] [] M) :
    K NM RRM 0 [(0, vr 1), (1, vi x1)] [] M := by
  refine r_iconst h (v := 0) (by decide +kernel : decode cX12_placeOf 0 = .ok (.iconst 0, 1)) ?_
  refine r_istoren h (q := 2) (L' := [(2, vi 0), (0, vr 1), (1, vi x1)]) (by decide) rfl (by decide +kernel : decode cX12_placeOf 1 = .ok (.istore_n 2, 1)) ?_
  refine r_drop h [1, 2, 0] rfl ?_
  exact H
set_option maxHeartbeats 4000000 in
set_option maxRecDepth 100000 in
theorem w_Mod_placeOf_2 {P : Int → Mm → Prop} {K : Nat → Rr → Nat → List (Nat × AV) → List AV → Mm → Prop} (h : EK shM yX12_placeOf cX12_placeOf 3 (some .int) 1 NM NM (QI RRM P) K) (x1 : Int) (x2 : Int) (M : Mm)
    (H : (0 ≤ (5 + x2) ∧ (5 + x2) < 33) ∧ (rng (M 34 (5 + x2).toNat)) ∧ (rng x1) ∧ ((M 34 (5 + x2).toNat) = x1 → (P x2 M)) ∧ ((M 34 (5 + x2).toNat) ≠ x1 → (K NM RRM 2 [(0, vr 1), (1, vi x1), (2, vi (x2 + 1))] [] M))) :
    K NM RRM 2 [(0, vr 1), (1, vi x1), (2, vi x2)] [] M := by
  refine r_aloadn h (q := 0) 0 rfl (by decide +kernel : decode cX12_placeOf 2 = .ok (.aload_n 0, 1)) ?_
  refine r_getR h (r := 34) f_Mod_108 at1M rfl (by decide) (by decide +kernel : decode cX12_placeOf 3 = .ok (.getfield 108, 3)) ?_
  refine r_iconst h (v := 5) (by decide +kernel : decode cX12_placeOf 6 = .ok (.iconst 5, 1)) ?_
  refine r_iloadn h (q := 2) 2 rfl (by decide +kernel : decode cX12_placeOf 7 = .ok (.iload_n 2, 1)) ?_
  refine r_iadd h (by decide +kernel : decode cX12_placeOf 8 = .ok (.iadd, 1)) ?_
  obtain ⟨g1, H⟩ := H
  refine r_iald h (5 + x2).toNat rfl atM_34 g1 (by decide) (by decide +kernel : decode cX12_placeOf 9 = .ok (.iaload, 1)) ?_
  refine r_iloadn h (q := 1) 1 rfl (by decide +kernel : decode cX12_placeOf 10 = .ok (.iload_n 1, 1)) ?_
  obtain ⟨g1, g2, H⟩ := H
  obtain ⟨H1, H2⟩ := H
  refine r_icmp_eq h 20 g1 g2 (by decide) (by decide +kernel : decode cX12_placeOf 11 = .ok (.if_icmp .eq 9, 3)) (fun hc => ?_) (fun hc => ?_)
  · have H := H1 hc
    refine r_iloadn h (q := 2) 2 rfl (by decide +kernel : decode cX12_placeOf 20 = .ok (.iload_n 2, 1)) ?_
    exact r_iret h rfl (by decide +kernel : decode cX12_placeOf 21 = .ok (.ireturn, 1)) rfl ⟨rfl, _, rfl, H⟩
  · have H := H2 hc
    refine r_iinc h (i := 2) (v := 1) (L' := [(2, vi (x2 + 1)), (0, vr 1), (1, vi x1)]) 2 rfl (by decide) rfl (by decide +kernel : decode cX12_placeOf 14 = .ok (.iinc 2 1, 3)) ?_
    refine r_goto h 2 (by decide) (by decide +kernel : decode cX12_placeOf 17 = .ok (.goto (-15), 3)) ?_
    refine r_drop h [1, 2, 0] rfl ?_
    exact H
set_option maxHeartbeats 4000000 in
set_option maxRecDepth 100000 in
theorem w_Mod_together_0 {P : Int → Mm → Prop} {K : Nat → Rr → Nat → List (Nat × AV) → List AV → Mm → Prop} (h : EK shM yX12_together cX12_together 4 (some .int) 1 NM NM (QI RRM P) K) (x1 : Int) (M : Mm)
    (H : K NM RRM 4 [(0, vr 1), (1, vi x1), (2, vi 0), (3, vi 0)] [] M) :
    K NM RRM 0 [(0, vr 1), (1, vi x1)] [] M := by
  refine r_iconst h (v := 0) (by decide +kernel : decode cX12_together 0 = .ok (.iconst 0, 1)) ?_
  refine r_istoren h (q := 2) (L' := [(2, vi 0), (0, vr 1), (1, vi x1)]) (by decide) rfl (by decide +kernel : decode cX12_together 1 = .ok (.istore_n 2, 1)) ?_
  refine r_iconst h (v := 0) (by decide +kernel : decode cX12_together 2 = .ok (.iconst 0, 1)) ?_
  refine r_istoren h (q := 3) (L' := [(3, vi 0), (2, vi 0), (0, vr 1), (1, vi x1)]) (by decide) rfl (by decide +kernel : decode cX12_together 3 = .ok (.istore_n 3, 1)) ?_
  refine r_drop h [2, 3, 1, 0] rfl ?_
  exact H
set_option maxHeartbeats 4000000 in
set_option maxRecDepth 100000 in
theorem w_Mod_together_4 {P : Int → Mm → Prop} {K : Nat → Rr → Nat → List (Nat × AV) → List AV → Mm → Prop} (h : EK shM yX12_together cX12_together 4 (some .int) 1 NM NM (QI RRM P) K) (x1 : Int) (x2 : Int) (x3 : Int) (M : Mm)
    (H : (rng x3) ∧ (rng (M 3 0)) ∧ ((M 3 0) ≤ x3 → (P x2 M)) ∧ (¬ ((M 3 0) ≤ x3) → ((0 ≤ (x1 + x3) ∧ (x1 + x3) < 33) ∧ K NM RRM 4 [(0, vr 1), (1, vi x1), (2, vi (x2 + (M 34 (x1 + x3).toNat))), (3, vi (x3 + 1))] [] M))) :
    K NM RRM 4 [(0, vr 1), (1, vi x1), (2, vi x2), (3, vi x3)] [] M := by
  refine r_iloadn h (q := 3) 3 rfl (by decide +kernel : decode cX12_together 4 = .ok (.iload_n 3, 1)) ?_
  refine r_aloadn h (q := 0) 0 rfl (by decide +kernel : decode cX12_together 5 = .ok (.aload_n 0, 1)) ?_
  refine r_getR h (r := 3) f_Mod_13 at1M rfl (by decide) (by decide +kernel : decode cX12_together 6 = .ok (.getfield 13, 3)) ?_
  refine r_iconst h (v := 0) (by decide +kernel : decode cX12_together 9 = .ok (.iconst 0, 1)) ?_
  refine r_iald h 0 rfl atM_3 (by decide) (by decide) (by decide +kernel : decode cX12_together 10 = .ok (.iaload, 1)) ?_
  obtain ⟨g1, g2, H⟩ := H
  obtain ⟨H1, H2⟩ := H
  refine r_icmp_ge h 31 g1 g2 (by decide) (by decide +kernel : decode cX12_together 11 = .ok (.if_icmp .ge 20, 3)) (fun hc => ?_) (fun hc => ?_)
  · have H := H1 hc
    refine r_iloadn h (q := 2) 2 rfl (by decide +kernel : decode cX12_together 31 = .ok (.iload_n 2, 1)) ?_
    exact r_iret h rfl (by decide +kernel : decode cX12_together 32 = .ok (.ireturn, 1)) rfl ⟨rfl, _, rfl, H⟩
  · have H := H2 hc
    refine r_iloadn h (q := 2) 2 rfl (by decide +kernel : decode cX12_together 14 = .ok (.iload_n 2, 1)) ?_
    refine r_aloadn h (q := 0) 0 rfl (by decide +kernel : decode cX12_together 15 = .ok (.aload_n 0, 1)) ?_
    refine r_getR h (r := 34) f_Mod_108 at1M rfl (by decide) (by decide +kernel : decode cX12_together 16 = .ok (.getfield 108, 3)) ?_
    refine r_iloadn h (q := 1) 1 rfl (by decide +kernel : decode cX12_together 19 = .ok (.iload_n 1, 1)) ?_
    refine r_iloadn h (q := 3) 3 rfl (by decide +kernel : decode cX12_together 20 = .ok (.iload_n 3, 1)) ?_
    refine r_iadd h (by decide +kernel : decode cX12_together 21 = .ok (.iadd, 1)) ?_
    obtain ⟨g1, H⟩ := H
    refine r_iald h (x1 + x3).toNat rfl atM_34 g1 (by decide) (by decide +kernel : decode cX12_together 22 = .ok (.iaload, 1)) ?_
    refine r_iadd h (by decide +kernel : decode cX12_together 23 = .ok (.iadd, 1)) ?_
    refine r_istoren h (q := 2) (L' := [(2, vi (x2 + (M 34 (x1 + x3).toNat))), (0, vr 1), (1, vi x1), (3, vi x3)]) (by decide) rfl (by decide +kernel : decode cX12_together 24 = .ok (.istore_n 2, 1)) ?_
    refine r_iinc h (i := 3) (v := 1) (L' := [(3, vi (x3 + 1)), (2, vi (x2 + (M 34 (x1 + x3).toNat))), (0, vr 1), (1, vi x1)]) 3 rfl (by decide) rfl (by decide +kernel : decode cX12_together 25 = .ok (.iinc 3 1, 3)) ?_
    refine r_goto h 4 (by decide) (by decide +kernel : decode cX12_together 28 = .ok (.goto (-24), 3)) ?_
    refine r_drop h [2, 3, 1, 0] rfl ?_
    exact H
set_option maxHeartbeats 4000000 in
set_option maxRecDepth 100000 in
theorem w_Mod_rainNow_0 {P : Int → Mm → Prop} {K : Nat → Rr → Nat → List (Nat × AV) → List AV → Mm → Prop} (h : EK shM yX12_rainNow cX12_rainNow 1 (some .int) 1 NM NM (QI RRM P) K)  (M : Mm)
    (H : (rng (M 3 3)) ∧ ((M 3 3) ≠ 0 → ((rng (M 3 3)) ∧ ((M 3 3) ≠ 0) ∧ (0 ≤ (remI (M 34 0) (M 3 3)) ∧ (remI (M 34 0) (M 3 3)) < 24) ∧ P (M 10 (remI (M 34 0) (M 3 3)).toNat) M)) ∧ ((M 3 3) = 0 → (P 1 M))) :
    K NM RRM 0 [(0, vr 1)] [] M := by
  refine r_aloadn h (q := 0) 0 rfl (by decide +kernel : decode cX12_rainNow 0 = .ok (.aload_n 0, 1)) ?_
  refine r_getR h (r := 3) f_Mod_13 at1M rfl (by decide) (by decide +kernel : decode cX12_rainNow 1 = .ok (.getfield 13, 3)) ?_
  refine r_iconst h (v := 3) (by decide +kernel : decode cX12_rainNow 4 = .ok (.iconst 3, 1)) ?_
  refine r_iald h 3 rfl atM_3 (by decide) (by decide) (by decide +kernel : decode cX12_rainNow 5 = .ok (.iaload, 1)) ?_
  obtain ⟨g1, H⟩ := H
  obtain ⟨H1, H2⟩ := H
  refine r_if_ne h 13 g1 (by decide) (by decide +kernel : decode cX12_rainNow 6 = .ok (.ifCond .ne 7, 3)) (fun hc => ?_) (fun hc => ?_)
  · have H := H1 hc
    refine r_aloadn h (q := 0) 0 rfl (by decide +kernel : decode cX12_rainNow 13 = .ok (.aload_n 0, 1)) ?_
    refine r_getR h (r := 10) f_Mod_35 at1M rfl (by decide) (by decide +kernel : decode cX12_rainNow 14 = .ok (.getfield 35, 3)) ?_
    refine r_aloadn h (q := 0) 0 rfl (by decide +kernel : decode cX12_rainNow 17 = .ok (.aload_n 0, 1)) ?_
    refine r_getR h (r := 34) f_Mod_108 at1M rfl (by decide) (by decide +kernel : decode cX12_rainNow 18 = .ok (.getfield 108, 3)) ?_
    refine r_iconst h (v := 0) (by decide +kernel : decode cX12_rainNow 21 = .ok (.iconst 0, 1)) ?_
    refine r_iald h 0 rfl atM_34 (by decide) (by decide) (by decide +kernel : decode cX12_rainNow 22 = .ok (.iaload, 1)) ?_
    refine r_aloadn h (q := 0) 0 rfl (by decide +kernel : decode cX12_rainNow 23 = .ok (.aload_n 0, 1)) ?_
    refine r_getR h (r := 3) f_Mod_13 at1M rfl (by decide) (by decide +kernel : decode cX12_rainNow 24 = .ok (.getfield 13, 3)) ?_
    refine r_iconst h (v := 3) (by decide +kernel : decode cX12_rainNow 27 = .ok (.iconst 3, 1)) ?_
    refine r_iald h 3 rfl atM_3 (by decide) (by decide) (by decide +kernel : decode cX12_rainNow 28 = .ok (.iaload, 1)) ?_
    obtain ⟨g1, g2, H⟩ := H
    refine r_irem h g1 g2 (by decide +kernel : decode cX12_rainNow 29 = .ok (.irem, 1)) ?_
    obtain ⟨g1, H⟩ := H
    refine r_iald h (remI (M 34 0) (M 3 3)).toNat rfl atM_10 g1 (by decide) (by decide +kernel : decode cX12_rainNow 30 = .ok (.iaload, 1)) ?_
    exact r_iret h rfl (by decide +kernel : decode cX12_rainNow 31 = .ok (.ireturn, 1)) rfl ⟨rfl, _, rfl, H⟩
  · have H := H2 hc
    refine r_iconst h (v := 1) (by decide +kernel : decode cX12_rainNow 9 = .ok (.iconst 1, 1)) ?_
    refine r_goto h 31 (by decide) (by decide +kernel : decode cX12_rainNow 10 = .ok (.goto 21, 3)) ?_
    exact r_iret h rfl (by decide +kernel : decode cX12_rainNow 31 = .ok (.ireturn, 1)) rfl ⟨rfl, _, rfl, H⟩
theorem W_Mod_rainNow  (M : Mm) {P : Int → Mm → Prop} (H : (rng (M 3 3)) ∧ ((M 3 3) ≠ 0 → ((rng (M 3 3)) ∧ ((M 3 3) ≠ 0) ∧ (0 ≤ (remI (M 34 0) (M 3 3)) ∧ (remI (M 34 0) (M 3 3)) < 24) ∧ P (M 10 (remI (M 34 0) (M 3 3)).toNat) M)) ∧ ((M 3 3) = 0 → (P 1 M))) : S_Mod_rainNow  M P := e_Mod_rainNow  M (fun _ h => w_Mod_rainNow_0 h  M H)
set_option maxHeartbeats 4000000 in
set_option maxRecDepth 100000 in
theorem w_Mod_doesShun_0 {P : Int → Mm → Prop} {K : Nat → Rr → Nat → List (Nat × AV) → List AV → Mm → Prop} (h : EK shM yX12_doesShun cX12_doesShun 3 (some .boolean) 1 NM NM (QI RRM P) K) (x1 : Int) (x2 : Int) (M : Mm)
    (H : (rng x2) ∧ (x2 < 0 → (P 0 M)) ∧ (¬ (x2 < 0) → ((0 ≤ x1 ∧ x1 < 14) ∧ ((andI (shrI (M 9 x1.toNat) x2) 1) ≠ 1 → (P 0 M)) ∧ ((andI (shrI (M 9 x1.toNat) x2) 1) = 1 → (P 1 M))))) :
    K NM RRM 0 [(0, vr 1), (1, vi x1), (2, vi x2)] [] M := by
  refine r_iloadn h (q := 2) 2 rfl (by decide +kernel : decode cX12_doesShun 0 = .ok (.iload_n 2, 1)) ?_
  obtain ⟨g1, H⟩ := H
  obtain ⟨H1, H2⟩ := H
  refine r_if_lt h 22 g1 (by decide) (by decide +kernel : decode cX12_doesShun 1 = .ok (.ifCond .lt 21, 3)) (fun hc => ?_) (fun hc => ?_)
  · have H := H1 hc
    refine r_iconst h (v := 0) (by decide +kernel : decode cX12_doesShun 22 = .ok (.iconst 0, 1)) ?_
    exact r_zret h rfl (by decide) (by decide +kernel : decode cX12_doesShun 23 = .ok (.ireturn, 1)) rfl ⟨rfl, _, rfl, H⟩
  · have H := H2 hc
    refine r_aloadn h (q := 0) 0 rfl (by decide +kernel : decode cX12_doesShun 4 = .ok (.aload_n 0, 1)) ?_
    refine r_getR h (r := 9) f_Mod_32 at1M rfl (by decide) (by decide +kernel : decode cX12_doesShun 5 = .ok (.getfield 32, 3)) ?_
    refine r_iloadn h (q := 1) 1 rfl (by decide +kernel : decode cX12_doesShun 8 = .ok (.iload_n 1, 1)) ?_
    obtain ⟨g1, H⟩ := H
    refine r_iald h x1.toNat rfl atM_9 g1 (by decide) (by decide +kernel : decode cX12_doesShun 9 = .ok (.iaload, 1)) ?_
    refine r_iloadn h (q := 2) 2 rfl (by decide +kernel : decode cX12_doesShun 10 = .ok (.iload_n 2, 1)) ?_
    refine r_ishr h (by decide +kernel : decode cX12_doesShun 11 = .ok (.ishr, 1)) ?_
    refine r_iconst h (v := 1) (by decide +kernel : decode cX12_doesShun 12 = .ok (.iconst 1, 1)) ?_
    refine r_iand h (by decide +kernel : decode cX12_doesShun 13 = .ok (.iand, 1)) ?_
    refine r_iconst h (v := 1) (by decide +kernel : decode cX12_doesShun 14 = .ok (.iconst 1, 1)) ?_
    obtain ⟨H1, H2⟩ := H
    refine r_icmp_ne h 22 (rng_toInt _) (by decide) (by decide) (by decide +kernel : decode cX12_doesShun 15 = .ok (.if_icmp .ne 7, 3)) (fun hc => ?_) (fun hc => ?_)
    · have H := H1 hc
      refine r_iconst h (v := 0) (by decide +kernel : decode cX12_doesShun 22 = .ok (.iconst 0, 1)) ?_
      exact r_zret h rfl (by decide) (by decide +kernel : decode cX12_doesShun 23 = .ok (.ireturn, 1)) rfl ⟨rfl, _, rfl, H⟩
    · have H := H2 hc
      refine r_iconst h (v := 1) (by decide +kernel : decode cX12_doesShun 18 = .ok (.iconst 1, 1)) ?_
      refine r_goto h 23 (by decide) (by decide +kernel : decode cX12_doesShun 19 = .ok (.goto 4, 3)) ?_
      exact r_zret h rfl (by decide) (by decide +kernel : decode cX12_doesShun 23 = .ok (.ireturn, 1)) rfl ⟨rfl, _, rfl, H⟩
theorem W_Mod_doesShun (x1 : Int) (x2 : Int) (M : Mm) {P : Int → Mm → Prop} (H : (rng x2) ∧ (x2 < 0 → (P 0 M)) ∧ (¬ (x2 < 0) → ((0 ≤ x1 ∧ x1 < 14) ∧ ((andI (shrI (M 9 x1.toNat) x2) 1) ≠ 1 → (P 0 M)) ∧ ((andI (shrI (M 9 x1.toNat) x2) 1) = 1 → (P 1 M))))) : S_Mod_doesShun x1 x2 M P := e_Mod_doesShun x1 x2 M (fun _ h => w_Mod_doesShun_0 h x1 x2 M H)
set_option maxHeartbeats 4000000 in
set_option maxRecDepth 100000 in
theorem w_Mod_sells_0 {P : Mm → Prop} {K : Nat → Rr → Nat → List (Nat × AV) → List AV → Mm → Prop} (h : EK shM yX12_sells cX12_sells 2 none 1 NM NM (QV RRM P) K) (x1 : Int) (M : Mm)
    (H : ∀ M1 : Mm, M1 = (upr M 34 (up1 (M 34) 2 ((M 34 2) - x1))) → ∀ M2 : Mm, M2 = (upr M1 34 (up1 (M1 34) 3 ((M1 34 3) + (x1 * (M1 3 2))))) → P M2) :
    K NM RRM 0 [(0, vr 1), (1, vi x1)] [] M := by
  refine r_aloadn h (q := 0) 0 rfl (by decide +kernel : decode cX12_sells 0 = .ok (.aload_n 0, 1)) ?_
  refine r_getR h (r := 34) f_Mod_108 at1M rfl (by decide) (by decide +kernel : decode cX12_sells 1 = .ok (.getfield 108, 3)) ?_
  refine r_iconst h (v := 2) (by decide +kernel : decode cX12_sells 4 = .ok (.iconst 2, 1)) ?_
  refine r_dup2 h rfl rfl (by decide +kernel : decode cX12_sells 5 = .ok (.dup2, 1)) ?_
  refine r_iald h 2 rfl atM_34 (by decide) (by decide) (by decide +kernel : decode cX12_sells 6 = .ok (.iaload, 1)) ?_
  refine r_iloadn h (q := 1) 1 rfl (by decide +kernel : decode cX12_sells 7 = .ok (.iload_n 1, 1)) ?_
  refine r_isub h (by decide +kernel : decode cX12_sells 8 = .ok (.isub, 1)) ?_
  refine r_iast h 2 rfl atM_34 (by decide) (by decide) (by decide +kernel : decode cX12_sells 9 = .ok (.iastore, 1)) ?_
  have H := H _ rfl
  revert H
  generalize (upr M 34 (up1 (M 34) 2 ((M 34 2) - x1))) = M1
  intro H
  refine r_aloadn h (q := 0) 0 rfl (by decide +kernel : decode cX12_sells 10 = .ok (.aload_n 0, 1)) ?_
  refine r_getR h (r := 34) f_Mod_108 at1M rfl (by decide) (by decide +kernel : decode cX12_sells 11 = .ok (.getfield 108, 3)) ?_
  refine r_iconst h (v := 3) (by decide +kernel : decode cX12_sells 14 = .ok (.iconst 3, 1)) ?_
  refine r_dup2 h rfl rfl (by decide +kernel : decode cX12_sells 15 = .ok (.dup2, 1)) ?_
  refine r_iald h 3 rfl atM_34 (by decide) (by decide) (by decide +kernel : decode cX12_sells 16 = .ok (.iaload, 1)) ?_
  refine r_iloadn h (q := 1) 1 rfl (by decide +kernel : decode cX12_sells 17 = .ok (.iload_n 1, 1)) ?_
  refine r_aloadn h (q := 0) 0 rfl (by decide +kernel : decode cX12_sells 18 = .ok (.aload_n 0, 1)) ?_
  refine r_getR h (r := 3) f_Mod_13 at1M rfl (by decide) (by decide +kernel : decode cX12_sells 19 = .ok (.getfield 13, 3)) ?_
  refine r_iconst h (v := 2) (by decide +kernel : decode cX12_sells 22 = .ok (.iconst 2, 1)) ?_
  refine r_iald h 2 rfl atM_3 (by decide) (by decide) (by decide +kernel : decode cX12_sells 23 = .ok (.iaload, 1)) ?_
  refine r_imul h (by decide +kernel : decode cX12_sells 24 = .ok (.imul, 1)) ?_
  refine r_iadd h (by decide +kernel : decode cX12_sells 25 = .ok (.iadd, 1)) ?_
  refine r_iast h 3 rfl atM_34 (by decide) (by decide) (by decide +kernel : decode cX12_sells 26 = .ok (.iastore, 1)) ?_
  have H := H _ rfl
  revert H
  generalize (upr M1 34 (up1 (M1 34) 3 ((M1 34 3) + (x1 * (M1 3 2))))) = M2
  intro H
  exact r_vret h rfl (by decide +kernel : decode cX12_sells 27 = .ok (.return_, 1)) rfl ⟨rfl, rfl, H⟩
theorem W_Mod_sells (x1 : Int) (M : Mm) {P : Mm → Prop} (H : ∀ M1 : Mm, M1 = (upr M 34 (up1 (M 34) 2 ((M 34 2) - x1))) → ∀ M2 : Mm, M2 = (upr M1 34 (up1 (M1 34) 3 ((M1 34 3) + (x1 * (M1 3 2))))) → P M2) : S_Mod_sells x1 M P := e_Mod_sells x1 M (fun _ h => w_Mod_sells_0 h x1 M H)
set_option maxHeartbeats 4000000 in
set_option maxRecDepth 100000 in
theorem w_Mod_mayFollow_0 {P : Int → Mm → Prop} {K : Nat → Rr → Nat → List (Nat × AV) → List AV → Mm → Prop} (h : EK shM yX12_mayFollow cX12_mayFollow 3 (some .boolean) 1 NM NM (QI RRM P) K) (x1 : Int) (x2 : Int) (M : Mm)
    (H : ((andI (shrI x1 x2) 1) ≠ 0 → (P 0 M)) ∧ ((andI (shrI x1 x2) 1) = 0 → ((0 ≤ x2 ∧ x2 < 7) ∧ ((andI (M 41 x2.toNat) (xorI x1 (-1))) ≠ 0 → (P 0 M)) ∧ ((andI (M 41 x2.toNat) (xorI x1 (-1))) = 0 → (P 1 M))))) :
    K NM RRM 0 [(0, vr 1), (1, vi x1), (2, vi x2)] [] M := by
  refine r_iloadn h (q := 1) 1 rfl (by decide +kernel : decode cX12_mayFollow 0 = .ok (.iload_n 1, 1)) ?_
  refine r_iloadn h (q := 2) 2 rfl (by decide +kernel : decode cX12_mayFollow 1 = .ok (.iload_n 2, 1)) ?_
  refine r_ishr h (by decide +kernel : decode cX12_mayFollow 2 = .ok (.ishr, 1)) ?_
  refine r_iconst h (v := 1) (by decide +kernel : decode cX12_mayFollow 3 = .ok (.iconst 1, 1)) ?_
  refine r_iand h (by decide +kernel : decode cX12_mayFollow 4 = .ok (.iand, 1)) ?_
  obtain ⟨H1, H2⟩ := H
  refine r_if_ne h 25 (rng_toInt _) (by decide) (by decide +kernel : decode cX12_mayFollow 5 = .ok (.ifCond .ne 20, 3)) (fun hc => ?_) (fun hc => ?_)
  · have H := H1 hc
    refine r_iconst h (v := 0) (by decide +kernel : decode cX12_mayFollow 25 = .ok (.iconst 0, 1)) ?_
    exact r_zret h rfl (by decide) (by decide +kernel : decode cX12_mayFollow 26 = .ok (.ireturn, 1)) rfl ⟨rfl, _, rfl, H⟩
  · have H := H2 hc
    refine r_aloadn h (q := 0) 0 rfl (by decide +kernel : decode cX12_mayFollow 8 = .ok (.aload_n 0, 1)) ?_
    refine r_getR h (r := 41) f_Mod_129 at1M rfl (by decide) (by decide +kernel : decode cX12_mayFollow 9 = .ok (.getfield 129, 3)) ?_
    refine r_iloadn h (q := 2) 2 rfl (by decide +kernel : decode cX12_mayFollow 12 = .ok (.iload_n 2, 1)) ?_
    obtain ⟨g1, H⟩ := H
    refine r_iald h x2.toNat rfl atM_41 g1 (by decide) (by decide +kernel : decode cX12_mayFollow 13 = .ok (.iaload, 1)) ?_
    refine r_iloadn h (q := 1) 1 rfl (by decide +kernel : decode cX12_mayFollow 14 = .ok (.iload_n 1, 1)) ?_
    refine r_iconst h (v := (-1)) (by decide +kernel : decode cX12_mayFollow 15 = .ok (.iconst (-1), 1)) ?_
    refine r_ixor h (by decide +kernel : decode cX12_mayFollow 16 = .ok (.ixor, 1)) ?_
    refine r_iand h (by decide +kernel : decode cX12_mayFollow 17 = .ok (.iand, 1)) ?_
    obtain ⟨H1, H2⟩ := H
    refine r_if_ne h 25 (rng_toInt _) (by decide) (by decide +kernel : decode cX12_mayFollow 18 = .ok (.ifCond .ne 7, 3)) (fun hc => ?_) (fun hc => ?_)
    · have H := H1 hc
      refine r_iconst h (v := 0) (by decide +kernel : decode cX12_mayFollow 25 = .ok (.iconst 0, 1)) ?_
      exact r_zret h rfl (by decide) (by decide +kernel : decode cX12_mayFollow 26 = .ok (.ireturn, 1)) rfl ⟨rfl, _, rfl, H⟩
    · have H := H2 hc
      refine r_iconst h (v := 1) (by decide +kernel : decode cX12_mayFollow 21 = .ok (.iconst 1, 1)) ?_
      refine r_goto h 26 (by decide) (by decide +kernel : decode cX12_mayFollow 22 = .ok (.goto 4, 3)) ?_
      exact r_zret h rfl (by decide) (by decide +kernel : decode cX12_mayFollow 26 = .ok (.ireturn, 1)) rfl ⟨rfl, _, rfl, H⟩
theorem W_Mod_mayFollow (x1 : Int) (x2 : Int) (M : Mm) {P : Int → Mm → Prop} (H : ((andI (shrI x1 x2) 1) ≠ 0 → (P 0 M)) ∧ ((andI (shrI x1 x2) 1) = 0 → ((0 ≤ x2 ∧ x2 < 7) ∧ ((andI (M 41 x2.toNat) (xorI x1 (-1))) ≠ 0 → (P 0 M)) ∧ ((andI (M 41 x2.toNat) (xorI x1 (-1))) = 0 → (P 1 M))))) : S_Mod_mayFollow x1 x2 M P := e_Mod_mayFollow x1 x2 M (fun _ h => w_Mod_mayFollow_0 h x1 x2 M H)
set_option maxHeartbeats 4000000 in
set_option maxRecDepth 100000 in
theorem w_Mod_firstGets_0 {P : Int → Mm → Prop} {K : Nat → Rr → Nat → List (Nat × AV) → List AV → Mm → Prop} (h : EK shM yX12_firstGets cX12_firstGets 3 (some .int) 1 NM NM (QI RRM P) K) (x0 : Int) (x1 : Int) (x2 : Int) (M : Mm)
    (H : (rng x1) ∧ (rng x2) ∧ (x1 < x2 → (P 0 M)) ∧ (¬ (x1 < x2) → (P (x0 - x2) M))) :
    K NM RRM 0 [(0, vi x0), (1, vi x1), (2, vi x2)] [] M := by
  refine r_iloadn h (q := 1) 1 rfl (by decide +kernel : decode cX12_firstGets 0 = .ok (.iload_n 1, 1)) ?_
  refine r_iloadn h (q := 2) 2 rfl (by decide +kernel : decode cX12_firstGets 1 = .ok (.iload_n 2, 1)) ?_
  obtain ⟨g1, g2, H⟩ := H
  obtain ⟨H1, H2⟩ := H
  refine r_icmp_lt h 11 g1 g2 (by decide) (by decide +kernel : decode cX12_firstGets 2 = .ok (.if_icmp .lt 9, 3)) (fun hc => ?_) (fun hc => ?_)
  · have H := H1 hc
    refine r_iconst h (v := 0) (by decide +kernel : decode cX12_firstGets 11 = .ok (.iconst 0, 1)) ?_
    exact r_iret h rfl (by decide +kernel : decode cX12_firstGets 12 = .ok (.ireturn, 1)) rfl ⟨rfl, _, rfl, H⟩
  · have H := H2 hc
    refine r_iloadn h (q := 0) 0 rfl (by decide +kernel : decode cX12_firstGets 5 = .ok (.iload_n 0, 1)) ?_
    refine r_iloadn h (q := 2) 2 rfl (by decide +kernel : decode cX12_firstGets 6 = .ok (.iload_n 2, 1)) ?_
    refine r_isub h (by decide +kernel : decode cX12_firstGets 7 = .ok (.isub, 1)) ?_
    refine r_goto h 12 (by decide) (by decide +kernel : decode cX12_firstGets 8 = .ok (.goto 4, 3)) ?_
    exact r_iret h rfl (by decide +kernel : decode cX12_firstGets 12 = .ok (.ireturn, 1)) rfl ⟨rfl, _, rfl, H⟩
theorem W_Mod_firstGets (x0 : Int) (x1 : Int) (x2 : Int) (M : Mm) {P : Int → Mm → Prop} (H : (rng x1) ∧ (rng x2) ∧ (x1 < x2 → (P 0 M)) ∧ (¬ (x1 < x2) → (P (x0 - x2) M))) : S_Mod_firstGets x0 x1 x2 M P := e_Mod_firstGets x0 x1 x2 M (fun _ h => w_Mod_firstGets_0 h x0 x1 x2 M H)
set_option maxHeartbeats 4000000 in
set_option maxRecDepth 100000 in
theorem w_Mod_otherGets_0 {P : Int → Mm → Prop} {K : Nat → Rr → Nat → List (Nat × AV) → List AV → Mm → Prop} (h : EK shM yX12_otherGets cX12_otherGets 3 (some .int) 1 NM NM (QI RRM P) K) (x0 : Int) (x1 : Int) (x2 : Int) (M : Mm)
    (H : (rng x2) ∧ (rng x1) ∧ (x2 ≤ x1 → (P 0 M)) ∧ (¬ (x2 ≤ x1) → (P (x0 - x1) M))) :
    K NM RRM 0 [(0, vi x0), (1, vi x1), (2, vi x2)] [] M := by
  refine r_iloadn h (q := 2) 2 rfl (by decide +kernel : decode cX12_otherGets 0 = .ok (.iload_n 2, 1)) ?_
  refine r_iloadn h (q := 1) 1 rfl (by decide +kernel : decode cX12_otherGets 1 = .ok (.iload_n 1, 1)) ?_
  obtain ⟨g1, g2, H⟩ := H
  obtain ⟨H1, H2⟩ := H
  refine r_icmp_le h 11 g1 g2 (by decide) (by decide +kernel : decode cX12_otherGets 2 = .ok (.if_icmp .le 9, 3)) (fun hc => ?_) (fun hc => ?_)
  · have H := H1 hc
    refine r_iconst h (v := 0) (by decide +kernel : decode cX12_otherGets 11 = .ok (.iconst 0, 1)) ?_
    exact r_iret h rfl (by decide +kernel : decode cX12_otherGets 12 = .ok (.ireturn, 1)) rfl ⟨rfl, _, rfl, H⟩
  · have H := H2 hc
    refine r_iloadn h (q := 0) 0 rfl (by decide +kernel : decode cX12_otherGets 5 = .ok (.iload_n 0, 1)) ?_
    refine r_iloadn h (q := 1) 1 rfl (by decide +kernel : decode cX12_otherGets 6 = .ok (.iload_n 1, 1)) ?_
    refine r_isub h (by decide +kernel : decode cX12_otherGets 7 = .ok (.isub, 1)) ?_
    refine r_goto h 12 (by decide) (by decide +kernel : decode cX12_otherGets 8 = .ok (.goto 4, 3)) ?_
    exact r_iret h rfl (by decide +kernel : decode cX12_otherGets 12 = .ok (.ireturn, 1)) rfl ⟨rfl, _, rfl, H⟩
theorem W_Mod_otherGets (x0 : Int) (x1 : Int) (x2 : Int) (M : Mm) {P : Int → Mm → Prop} (H : (rng x2) ∧ (rng x1) ∧ (x2 ≤ x1 → (P 0 M)) ∧ (¬ (x2 ≤ x1) → (P (x0 - x1) M))) : S_Mod_otherGets x0 x1 x2 M P := e_Mod_otherGets x0 x1 x2 M (fun _ h => w_Mod_otherGets_0 h x0 x1 x2 M H)
set_option maxHeartbeats 4000000 in
set_option maxRecDepth 100000 in
theorem w_Mod_draws_0 {P : Int → Mm → Prop} {K : Nat → Rr → Nat → List (Nat × AV) → List AV → Mm → Prop} (h : EK shM yX12_draws cX12_draws 2 (some .int) 1 NM NM (QI RRM P) K) (x1 : Int) (M : Mm)
    (H : ∀ M1 : Mm, M1 = (upr M 1 (up1 (M 1) 61 (remL (((M 1 61) * 1103515245) + 12345) 2147483648))) → (rng x1) ∧ (rngL x1) ∧ (x1 ≠ 0) ∧ P (remL (divL (M1 1 61) 65536) x1) M1) :
    K NM RRM 0 [(0, vr 1), (1, vi x1)] [] M := by
  refine r_aloadn h (q := 0) 0 rfl (by decide +kernel : decode cX12_draws 0 = .ok (.aload_n 0, 1)) ?_
  refine r_aloadn h (q := 0) 0 rfl (by decide +kernel : decode cX12_draws 1 = .ok (.aload_n 0, 1)) ?_
  refine r_getL h f_Mod_478 at1M (by decide +kernel : decode cX12_draws 2 = .ok (.getfield 478, 3)) ?_
  refine r_ldc2 h (v := 1103515245) kc_Mod_481 (by decide +kernel : decode cX12_draws 5 = .ok (.ldc2_w 481, 3)) ?_
  refine r_lmul h (by decide +kernel : decode cX12_draws 8 = .ok (.lmul, 1)) ?_
  refine r_ldc2 h (v := 12345) kc_Mod_483 (by decide +kernel : decode cX12_draws 9 = .ok (.ldc2_w 483, 3)) ?_
  refine r_ladd h (by decide +kernel : decode cX12_draws 12 = .ok (.ladd, 1)) ?_
  refine r_ldc2 h (v := 2147483648) kc_Mod_485 (by decide +kernel : decode cX12_draws 13 = .ok (.ldc2_w 485, 3)) ?_
  refine r_lrem h (by decide) (by decide) (by decide +kernel : decode cX12_draws 16 = .ok (.lrem, 1)) ?_
  refine r_putL h f_Mod_478 at1M rfl rfl (by decide +kernel : decode cX12_draws 17 = .ok (.putfield 478, 3)) ?_
  have H := H _ rfl
  revert H
  generalize (upr M 1 (up1 (M 1) 61 (remL (((M 1 61) * 1103515245) + 12345) 2147483648))) = M1
  intro H
  refine r_aloadn h (q := 0) 0 rfl (by decide +kernel : decode cX12_draws 20 = .ok (.aload_n 0, 1)) ?_
  refine r_getL h f_Mod_478 at1M (by decide +kernel : decode cX12_draws 21 = .ok (.getfield 478, 3)) ?_
  refine r_ldc2 h (v := 65536) kc_Mod_487 (by decide +kernel : decode cX12_draws 24 = .ok (.ldc2_w 487, 3)) ?_
  refine r_ldiv h (by decide) (by decide) (by decide +kernel : decode cX12_draws 27 = .ok (.ldiv, 1)) ?_
  refine r_iloadn h (q := 1) 1 rfl (by decide +kernel : decode cX12_draws 28 = .ok (.iload_n 1, 1)) ?_
  obtain ⟨g1, H⟩ := H
  refine r_i2l h g1 (by decide +kernel : decode cX12_draws 29 = .ok (.i2l, 1)) ?_
  obtain ⟨g1, g2, H⟩ := H
  refine r_lrem h g1 g2 (by decide +kernel : decode cX12_draws 30 = .ok (.lrem, 1)) ?_
  refine r_l2i h (by decide +kernel : decode cX12_draws 31 = .ok (.l2i, 1)) ?_
  exact r_iret h rfl (by decide +kernel : decode cX12_draws 32 = .ok (.ireturn, 1)) rfl ⟨rfl, _, rfl, H⟩
theorem W_Mod_draws (x1 : Int) (M : Mm) {P : Int → Mm → Prop} (H : ∀ M1 : Mm, M1 = (upr M 1 (up1 (M 1) 61 (remL (((M 1 61) * 1103515245) + 12345) 2147483648))) → (rng x1) ∧ (rngL x1) ∧ (x1 ≠ 0) ∧ P (remL (divL (M1 1 61) 65536) x1) M1) : S_Mod_draws x1 M P := e_Mod_draws x1 M (fun _ h => w_Mod_draws_0 h x1 M H)
set_option maxHeartbeats 4000000 in
set_option maxRecDepth 100000 in
theorem w_Mod_nextToken_0 {P : Mm → Prop} {K : Nat → Rr → Nat → List (Nat × AV) → List AV → Mm → Prop} (h : EK shM yX12_nextToken cX12_nextToken 2 none 2 NM NM (QV RRM P) K)  (M : Mm)
    (H : (rng (M 1 4)) ∧ (rng (M 1 3)) ∧ ((M 1 3) ≤ (M 1 4) → (K NM RRM 52 [(0, vr 1)] [] M)) ∧ (¬ ((M 1 3) ≤ (M 1 4)) → ((0 ≤ (M 1 4) ∧ (M 1 4) < 1000) ∧ (rng (M 2 (M 1 4).toNat)) ∧ ((M 2 (M 1 4).toNat) = 32 → (∀ M1 : Mm, M1 = (upr M 1 (up1 (M 1) 4 ((M 1 4) + 1))) → K NM RRM 0 [(0, vr 1)] [] M1)) ∧ ((M 2 (M 1 4).toNat) ≠ 32 → ((0 ≤ (M 1 4) ∧ (M 1 4) < 1000) ∧ (rng (M 2 (M 1 4).toNat)) ∧ ((M 2 (M 1 4).toNat) ≠ 10 → (K NM RRM 52 [(0, vr 1)] [] M)) ∧ ((M 2 (M 1 4).toNat) = 10 → (∀ M2 : Mm, M2 = (upr M 1 (up1 (M 1) 4 ((M 1 4) + 1))) → K NM RRM 0 [(0, vr 1)] [] M2))))))) :
    K NM RRM 0 [(0, vr 1)] [] M := by
  refine r_aloadn h (q := 0) 0 rfl (by decide +kernel : decode cX12_nextToken 0 = .ok (.aload_n 0, 1)) ?_
  refine r_getI h f_Mod_159 at1M (by decide +kernel : decode cX12_nextToken 1 = .ok (.getfield 159, 3)) ?_
  refine r_aloadn h (q := 0) 0 rfl (by decide +kernel : decode cX12_nextToken 4 = .ok (.aload_n 0, 1)) ?_
  refine r_getI h f_Mod_156 at1M (by decide +kernel : decode cX12_nextToken 5 = .ok (.getfield 156, 3)) ?_
  obtain ⟨g1, g2, H⟩ := H
  obtain ⟨H1, H2⟩ := H
  refine r_icmp_ge h 52 g1 g2 (by decide) (by decide +kernel : decode cX12_nextToken 8 = .ok (.if_icmp .ge 44, 3)) (fun hc => ?_) (fun hc => ?_)
  · have H := H1 hc
    exact H
  · have H := H2 hc
    refine r_aloadn h (q := 0) 0 rfl (by decide +kernel : decode cX12_nextToken 11 = .ok (.aload_n 0, 1)) ?_
    refine r_getR h (r := 2) f_Mod_7 at1M rfl (by decide) (by decide +kernel : decode cX12_nextToken 12 = .ok (.getfield 7, 3)) ?_
    refine r_aloadn h (q := 0) 0 rfl (by decide +kernel : decode cX12_nextToken 15 = .ok (.aload_n 0, 1)) ?_
    refine r_getI h f_Mod_159 at1M (by decide +kernel : decode cX12_nextToken 16 = .ok (.getfield 159, 3)) ?_
    obtain ⟨g1, H⟩ := H
    refine r_iald h (M 1 4).toNat rfl atM_2 g1 (by decide) (by decide +kernel : decode cX12_nextToken 19 = .ok (.iaload, 1)) ?_
    refine r_bipush h (v := 32) (by decide) (by decide +kernel : decode cX12_nextToken 20 = .ok (.bipush 32, 2)) ?_
    obtain ⟨g1, H⟩ := H
    obtain ⟨H1, H2⟩ := H
    refine r_icmp_eq h 39 g1 (by decide) (by decide) (by decide +kernel : decode cX12_nextToken 22 = .ok (.if_icmp .eq 17, 3)) (fun hc => ?_) (fun hc => ?_)
    · have H := H1 hc
      refine r_aloadn h (q := 0) 0 rfl (by decide +kernel : decode cX12_nextToken 39 = .ok (.aload_n 0, 1)) ?_
      refine r_dup h rfl (by decide +kernel : decode cX12_nextToken 40 = .ok (.dup, 1)) ?_
      refine r_getI h f_Mod_159 at1M (by decide +kernel : decode cX12_nextToken 41 = .ok (.getfield 159, 3)) ?_
      refine r_iconst h (v := 1) (by decide +kernel : decode cX12_nextToken 44 = .ok (.iconst 1, 1)) ?_
      refine r_iadd h (by decide +kernel : decode cX12_nextToken 45 = .ok (.iadd, 1)) ?_
      refine r_putI h f_Mod_159 at1M rfl rfl (by decide +kernel : decode cX12_nextToken 46 = .ok (.putfield 159, 3)) ?_
      have H := H _ rfl
      revert H
      generalize (upr M 1 (up1 (M 1) 4 ((M 1 4) + 1))) = M1
      intro H
      refine r_goto h 0 (by decide) (by decide +kernel : decode cX12_nextToken 49 = .ok (.goto (-49), 3)) ?_
      exact H
    · have H := H2 hc
      refine r_aloadn h (q := 0) 0 rfl (by decide +kernel : decode cX12_nextToken 25 = .ok (.aload_n 0, 1)) ?_
      refine r_getR h (r := 2) f_Mod_7 at1M rfl (by decide) (by decide +kernel : decode cX12_nextToken 26 = .ok (.getfield 7, 3)) ?_
      refine r_aloadn h (q := 0) 0 rfl (by decide +kernel : decode cX12_nextToken 29 = .ok (.aload_n 0, 1)) ?_
      refine r_getI h f_Mod_159 at1M (by decide +kernel : decode cX12_nextToken 30 = .ok (.getfield 159, 3)) ?_
      obtain ⟨g1, H⟩ := H
      refine r_iald h (M 1 4).toNat rfl atM_2 g1 (by decide) (by decide +kernel : decode cX12_nextToken 33 = .ok (.iaload, 1)) ?_
      refine r_bipush h (v := 10) (by decide) (by decide +kernel : decode cX12_nextToken 34 = .ok (.bipush 10, 2)) ?_
      obtain ⟨g1, H⟩ := H
      obtain ⟨H1, H2⟩ := H
      refine r_icmp_ne h 52 g1 (by decide) (by decide) (by decide +kernel : decode cX12_nextToken 36 = .ok (.if_icmp .ne 16, 3)) (fun hc => ?_) (fun hc => ?_)
      · have H := H1 hc
        exact H
      · have H := H2 hc
        refine r_aloadn h (q := 0) 0 rfl (by decide +kernel : decode cX12_nextToken 39 = .ok (.aload_n 0, 1)) ?_
        refine r_dup h rfl (by decide +kernel : decode cX12_nextToken 40 = .ok (.dup, 1)) ?_
        refine r_getI h f_Mod_159 at1M (by decide +kernel : decode cX12_nextToken 41 = .ok (.getfield 159, 3)) ?_
        refine r_iconst h (v := 1) (by decide +kernel : decode cX12_nextToken 44 = .ok (.iconst 1, 1)) ?_
        refine r_iadd h (by decide +kernel : decode cX12_nextToken 45 = .ok (.iadd, 1)) ?_
        refine r_putI h f_Mod_159 at1M rfl rfl (by decide +kernel : decode cX12_nextToken 46 = .ok (.putfield 159, 3)) ?_
        have H := H _ rfl
        revert H
        generalize (upr M 1 (up1 (M 1) 4 ((M 1 4) + 1))) = M2
        intro H
        refine r_goto h 0 (by decide) (by decide +kernel : decode cX12_nextToken 49 = .ok (.goto (-49), 3)) ?_
        exact H
set_option maxHeartbeats 4000000 in
set_option maxRecDepth 100000 in
theorem w_Mod_nextToken_52 {P : Mm → Prop} {K : Nat → Rr → Nat → List (Nat × AV) → List AV → Mm → Prop} (h : EK shM yX12_nextToken cX12_nextToken 2 none 2 NM NM (QV RRM P) K)  (M : Mm)
    (H : ∀ M1 : Mm, M1 = (upr M 1 (up1 (M 1) 5 (M 1 4))) → ∀ M2 : Mm, M2 = (upr M1 1 (up1 (M1 1) 7 0)) → ∀ M3 : Mm, M3 = (upr M2 1 (up1 (M2 1) 8 0)) → (rng (M3 1 4)) ∧ (rng (M3 1 3)) ∧ ((M3 1 4) ≠ (M3 1 3) → ((0 ≤ (M3 1 4) ∧ (M3 1 4) < 1000) ∧ (rng (M3 2 (M3 1 4).toNat)) ∧ ((M3 2 (M3 1 4).toNat) < 97 → ((rng (M3 2 (M3 1 4).toNat)) ∧ ((M3 2 (M3 1 4).toNat) < 48 → (K NM RRM 322 [(0, vr 1), (1, vi (M3 2 (M3 1 4).toNat))] [] M3)) ∧ (¬ ((M3 2 (M3 1 4).toNat) < 48) → ((rng (M3 2 (M3 1 4).toNat)) ∧ (57 < (M3 2 (M3 1 4).toNat) → (K NM RRM 322 [(0, vr 1), (1, vi (M3 2 (M3 1 4).toNat))] [] M3)) ∧ (¬ (57 < (M3 2 (M3 1 4).toNat)) → (K NM RRM 224 [(0, vr 1)] [] M3)))))) ∧ (¬ ((M3 2 (M3 1 4).toNat) < 97) → ((rng (M3 2 (M3 1 4).toNat)) ∧ (122 < (M3 2 (M3 1 4).toNat) → ((rng (M3 2 (M3 1 4).toNat)) ∧ ((M3 2 (M3 1 4).toNat) < 48 → (K NM RRM 322 [(0, vr 1), (1, vi (M3 2 (M3 1 4).toNat))] [] M3)) ∧ (¬ ((M3 2 (M3 1 4).toNat) < 48) → ((rng (M3 2 (M3 1 4).toNat)) ∧ (57 < (M3 2 (M3 1 4).toNat) → (K NM RRM 322 [(0, vr 1), (1, vi (M3 2 (M3 1 4).toNat))] [] M3)) ∧ (¬ (57 < (M3 2 (M3 1 4).toNat)) → (K NM RRM 224 [(0, vr 1)] [] M3)))))) ∧ (¬ (122 < (M3 2 (M3 1 4).toNat)) → (K NM RRM 109 [(0, vr 1)] [] M3)))))) ∧ ((M3 1 4) = (M3 1 3) → (∀ M4 : Mm, M4 = (upr M3 1 (up1 (M3 1) 6 0)) → P M4))) :
    K NM RRM 52 [(0, vr 1)] [] M := by
  refine r_aloadn h (q := 0) 0 rfl (by decide +kernel : decode cX12_nextToken 52 = .ok (.aload_n 0, 1)) ?_
  refine r_aloadn h (q := 0) 0 rfl (by decide +kernel : decode cX12_nextToken 53 = .ok (.aload_n 0, 1)) ?_
  refine r_getI h f_Mod_159 at1M (by decide +kernel : decode cX12_nextToken 54 = .ok (.getfield 159, 3)) ?_
  refine r_putI h f_Mod_162 at1M rfl rfl (by decide +kernel : decode cX12_nextToken 57 = .ok (.putfield 162, 3)) ?_
  have H := H _ rfl
  revert H
  generalize (upr M 1 (up1 (M 1) 5 (M 1 4))) = M1
  intro H
  refine r_aloadn h (q := 0) 0 rfl (by decide +kernel : decode cX12_nextToken 60 = .ok (.aload_n 0, 1)) ?_
  refine r_lconst h (v := 0) (w := 0) (by decide) (by decide +kernel : decode cX12_nextToken 61 = .ok (.lconst 0, 1)) ?_
  refine r_putL h f_Mod_165 at1M rfl rfl (by decide +kernel : decode cX12_nextToken 62 = .ok (.putfield 165, 3)) ?_
  have H := H _ rfl
  revert H
  generalize (upr M1 1 (up1 (M1 1) 7 0)) = M2
  intro H
  refine r_aloadn h (q := 0) 0 rfl (by decide +kernel : decode cX12_nextToken 65 = .ok (.aload_n 0, 1)) ?_
  refine r_iconst h (v := 0) (by decide +kernel : decode cX12_nextToken 66 = .ok (.iconst 0, 1)) ?_
  refine r_putI h f_Mod_169 at1M rfl rfl (by decide +kernel : decode cX12_nextToken 67 = .ok (.putfield 169, 3)) ?_
  have H := H _ rfl
  revert H
  generalize (upr M2 1 (up1 (M2 1) 8 0)) = M3
  intro H
  refine r_aloadn h (q := 0) 0 rfl (by decide +kernel : decode cX12_nextToken 70 = .ok (.aload_n 0, 1)) ?_
  refine r_getI h f_Mod_159 at1M (by decide +kernel : decode cX12_nextToken 71 = .ok (.getfield 159, 3)) ?_
  refine r_aloadn h (q := 0) 0 rfl (by decide +kernel : decode cX12_nextToken 74 = .ok (.aload_n 0, 1)) ?_
  refine r_getI h f_Mod_156 at1M (by decide +kernel : decode cX12_nextToken 75 = .ok (.getfield 156, 3)) ?_
  obtain ⟨g1, g2, H⟩ := H
  obtain ⟨H1, H2⟩ := H
  refine r_icmp_ne h 87 g1 g2 (by decide) (by decide +kernel : decode cX12_nextToken 78 = .ok (.if_icmp .ne 9, 3)) (fun hc => ?_) (fun hc => ?_)
  · have H := H1 hc
    refine r_aloadn h (q := 0) 0 rfl (by decide +kernel : decode cX12_nextToken 87 = .ok (.aload_n 0, 1)) ?_
    refine r_getR h (r := 2) f_Mod_7 at1M rfl (by decide) (by decide +kernel : decode cX12_nextToken 88 = .ok (.getfield 7, 3)) ?_
    refine r_aloadn h (q := 0) 0 rfl (by decide +kernel : decode cX12_nextToken 91 = .ok (.aload_n 0, 1)) ?_
    refine r_getI h f_Mod_159 at1M (by decide +kernel : decode cX12_nextToken 92 = .ok (.getfield 159, 3)) ?_
    obtain ⟨g1, H⟩ := H
    refine r_iald h (M3 1 4).toNat rfl atM_2 g1 (by decide) (by decide +kernel : decode cX12_nextToken 95 = .ok (.iaload, 1)) ?_
    refine r_istoren h (q := 1) (L' := [(1, vi (M3 2 (M3 1 4).toNat)), (0, vr 1)]) (by decide) rfl (by decide +kernel : decode cX12_nextToken 96 = .ok (.istore_n 1, 1)) ?_
    refine r_iloadn h (q := 1) 0 rfl (by decide +kernel : decode cX12_nextToken 97 = .ok (.iload_n 1, 1)) ?_
    refine r_bipush h (v := 97) (by decide) (by decide +kernel : decode cX12_nextToken 98 = .ok (.bipush 97, 2)) ?_
    obtain ⟨g1, H⟩ := H
    obtain ⟨H1, H2⟩ := H
    refine r_icmp_lt h 212 g1 (by decide) (by decide) (by decide +kernel : decode cX12_nextToken 100 = .ok (.if_icmp .lt 112, 3)) (fun hc => ?_) (fun hc => ?_)
    · have H := H1 hc
      refine r_iloadn h (q := 1) 0 rfl (by decide +kernel : decode cX12_nextToken 212 = .ok (.iload_n 1, 1)) ?_
      refine r_bipush h (v := 48) (by decide) (by decide +kernel : decode cX12_nextToken 213 = .ok (.bipush 48, 2)) ?_
      obtain ⟨g1, H⟩ := H
      obtain ⟨H1, H2⟩ := H
      refine r_icmp_lt h 322 g1 (by decide) (by decide) (by decide +kernel : decode cX12_nextToken 215 = .ok (.if_icmp .lt 107, 3)) (fun hc => ?_) (fun hc => ?_)
      · have H := H1 hc
        refine r_drop h [1, 0] rfl ?_
        exact H
      · have H := H2 hc
        refine r_iloadn h (q := 1) 0 rfl (by decide +kernel : decode cX12_nextToken 218 = .ok (.iload_n 1, 1)) ?_
        refine r_bipush h (v := 57) (by decide) (by decide +kernel : decode cX12_nextToken 219 = .ok (.bipush 57, 2)) ?_
        obtain ⟨g1, H⟩ := H
        obtain ⟨H1, H2⟩ := H
        refine r_icmp_gt h 322 g1 (by decide) (by decide) (by decide +kernel : decode cX12_nextToken 221 = .ok (.if_icmp .gt 101, 3)) (fun hc => ?_) (fun hc => ?_)
        · have H := H1 hc
          refine r_drop h [1, 0] rfl ?_
          exact H
        · have H := H2 hc
          refine r_drop h [1] rfl ?_
          exact H
    · have H := H2 hc
      refine r_iloadn h (q := 1) 0 rfl (by decide +kernel : decode cX12_nextToken 103 = .ok (.iload_n 1, 1)) ?_
      refine r_bipush h (v := 122) (by decide) (by decide +kernel : decode cX12_nextToken 104 = .ok (.bipush 122, 2)) ?_
      obtain ⟨g1, H⟩ := H
      obtain ⟨H1, H2⟩ := H
      refine r_icmp_gt h 212 g1 (by decide) (by decide) (by decide +kernel : decode cX12_nextToken 106 = .ok (.if_icmp .gt 106, 3)) (fun hc => ?_) (fun hc => ?_)
      · have H := H1 hc
        refine r_iloadn h (q := 1) 0 rfl (by decide +kernel : decode cX12_nextToken 212 = .ok (.iload_n 1, 1)) ?_
        refine r_bipush h (v := 48) (by decide) (by decide +kernel : decode cX12_nextToken 213 = .ok (.bipush 48, 2)) ?_
        obtain ⟨g1, H⟩ := H
        obtain ⟨H1, H2⟩ := H
        refine r_icmp_lt h 322 g1 (by decide) (by decide) (by decide +kernel : decode cX12_nextToken 215 = .ok (.if_icmp .lt 107, 3)) (fun hc => ?_) (fun hc => ?_)
        · have H := H1 hc
          refine r_drop h [1, 0] rfl ?_
          exact H
        · have H := H2 hc
          refine r_iloadn h (q := 1) 0 rfl (by decide +kernel : decode cX12_nextToken 218 = .ok (.iload_n 1, 1)) ?_
          refine r_bipush h (v := 57) (by decide) (by decide +kernel : decode cX12_nextToken 219 = .ok (.bipush 57, 2)) ?_
          obtain ⟨g1, H⟩ := H
          obtain ⟨H1, H2⟩ := H
          refine r_icmp_gt h 322 g1 (by decide) (by decide) (by decide +kernel : decode cX12_nextToken 221 = .ok (.if_icmp .gt 101, 3)) (fun hc => ?_) (fun hc => ?_)
          · have H := H1 hc
            refine r_drop h [1, 0] rfl ?_
            exact H
          · have H := H2 hc
            refine r_drop h [1] rfl ?_
            exact H
      · have H := H2 hc
        refine r_drop h [1] rfl ?_
        exact H
  · have H := H2 hc
    refine r_aloadn h (q := 0) 0 rfl (by decide +kernel : decode cX12_nextToken 81 = .ok (.aload_n 0, 1)) ?_
    refine r_iconst h (v := 0) (by decide +kernel : decode cX12_nextToken 82 = .ok (.iconst 0, 1)) ?_
    refine r_putI h f_Mod_172 at1M rfl rfl (by decide +kernel : decode cX12_nextToken 83 = .ok (.putfield 172, 3)) ?_
    have H := H _ rfl
    revert H
    generalize (upr M3 1 (up1 (M3 1) 6 0)) = M4
    intro H
    exact r_vret h rfl (by decide +kernel : decode cX12_nextToken 86 = .ok (.return_, 1)) rfl ⟨rfl, rfl, H⟩
set_option maxHeartbeats 4000000 in
set_option maxRecDepth 100000 in
theorem w_Mod_nextToken_322 {P : Mm → Prop} {K : Nat → Rr → Nat → List (Nat × AV) → List AV → Mm → Prop} (h : EK shM yX12_nextToken cX12_nextToken 2 none 2 NM NM (QV RRM P) K) (x1 : Int) (M : Mm)
    (H : ∀ M1 : Mm, M1 = (upr M 1 (up1 (M 1) 4 ((M 1 4) + 1))) → (rng x1) ∧ (x1 < 40 → (K NM RRM 345 [(1, vi x1)] [vr 1] M1)) ∧ (¬ (x1 < 40) → ((rng x1) ∧ (x1 ≤ 43 → (∀ M2 : Mm, M2 = (upr M1 1 (up1 (M1 1) 6 3)) → P M2)) ∧ (¬ (x1 ≤ 43) → (K NM RRM 345 [(1, vi x1)] [vr 1] M1))))) :
    K NM RRM 322 [(0, vr 1), (1, vi x1)] [] M := by
  refine r_aloadn h (q := 0) 0 rfl (by decide +kernel : decode cX12_nextToken 322 = .ok (.aload_n 0, 1)) ?_
  refine r_dup h rfl (by decide +kernel : decode cX12_nextToken 323 = .ok (.dup, 1)) ?_
  refine r_getI h f_Mod_159 at1M (by decide +kernel : decode cX12_nextToken 324 = .ok (.getfield 159, 3)) ?_
  refine r_iconst h (v := 1) (by decide +kernel : decode cX12_nextToken 327 = .ok (.iconst 1, 1)) ?_
  refine r_iadd h (by decide +kernel : decode cX12_nextToken 328 = .ok (.iadd, 1)) ?_
  refine r_putI h f_Mod_159 at1M rfl rfl (by decide +kernel : decode cX12_nextToken 329 = .ok (.putfield 159, 3)) ?_
  have H := H _ rfl
  revert H
  generalize (upr M 1 (up1 (M 1) 4 ((M 1 4) + 1))) = M1
  intro H
  refine r_aloadn h (q := 0) 0 rfl (by decide +kernel : decode cX12_nextToken 332 = .ok (.aload_n 0, 1)) ?_
  refine r_iloadn h (q := 1) 1 rfl (by decide +kernel : decode cX12_nextToken 333 = .ok (.iload_n 1, 1)) ?_
  refine r_bipush h (v := 40) (by decide) (by decide +kernel : decode cX12_nextToken 334 = .ok (.bipush 40, 2)) ?_
  obtain ⟨g1, H⟩ := H
  obtain ⟨H1, H2⟩ := H
  refine r_icmp_lt h 345 g1 (by decide) (by decide) (by decide +kernel : decode cX12_nextToken 336 = .ok (.if_icmp .lt 9, 3)) (fun hc => ?_) (fun hc => ?_)
  · have H := H1 hc
    refine r_drop h [1] rfl ?_
    exact H
  · have H := H2 hc
    refine r_iloadn h (q := 1) 1 rfl (by decide +kernel : decode cX12_nextToken 339 = .ok (.iload_n 1, 1)) ?_
    refine r_bipush h (v := 43) (by decide) (by decide +kernel : decode cX12_nextToken 340 = .ok (.bipush 43, 2)) ?_
    obtain ⟨g1, H⟩ := H
    obtain ⟨H1, H2⟩ := H
    refine r_icmp_le h 363 g1 (by decide) (by decide) (by decide +kernel : decode cX12_nextToken 342 = .ok (.if_icmp .le 21, 3)) (fun hc => ?_) (fun hc => ?_)
    · have H := H1 hc
      refine r_iconst h (v := 3) (by decide +kernel : decode cX12_nextToken 363 = .ok (.iconst 3, 1)) ?_
      refine r_goto h 368 (by decide) (by decide +kernel : decode cX12_nextToken 364 = .ok (.goto 4, 3)) ?_
      refine r_putI h f_Mod_172 at1M rfl rfl (by decide +kernel : decode cX12_nextToken 368 = .ok (.putfield 172, 3)) ?_
      have H := H _ rfl
      revert H
      generalize (upr M1 1 (up1 (M1 1) 6 3)) = M2
      intro H
      exact r_vret h rfl (by decide +kernel : decode cX12_nextToken 371 = .ok (.return_, 1)) rfl ⟨rfl, rfl, H⟩
    · have H := H2 hc
      refine r_drop h [1] rfl ?_
      exact H
set_option maxHeartbeats 4000000 in
set_option maxRecDepth 100000 in
theorem w_Mod_nextToken_224 {P : Mm → Prop} {K : Nat → Rr → Nat → List (Nat × AV) → List AV → Mm → Prop} (h : EK shM yX12_nextToken cX12_nextToken 2 none 2 NM NM (QV RRM P) K)  (M : Mm)
    (H : ∃ P1 : Int → Mm → Prop, S_Mod_signAt (M 1 4) M P1 ∧ ∀ (r1 : Int) (M1 : Mm), P1 r1 M1 → (rng r1) ∧ (r1 < 48 → (K NM RRM 299 [(0, vr 1)] [] M1)) ∧ (¬ (r1 < 48) → (∃ P2 : Int → Mm → Prop, S_Mod_signAt (M1 1 4) M1 P2 ∧ ∀ (r2 : Int) (M2 : Mm), P2 r2 M2 → (rng r2) ∧ (57 < r2 → (K NM RRM 299 [(0, vr 1)] [] M2)) ∧ (¬ (57 < r2) → ((rng ((M2 1 4) - (M2 1 5))) ∧ (4 ≤ ((M2 1 4) - (M2 1 5)) → (∀ M3 : Mm, M3 = (upr M2 1 (up1 (M2 1) 4 ((M2 1 4) + 1))) → K NM RRM 224 [(0, vr 1)] [] M3)) ∧ (¬ (4 ≤ ((M2 1 4) - (M2 1 5))) → (∃ P4 : Int → Mm → Prop, S_Mod_signAt (M2 1 4) M2 P4 ∧ ∀ (r3 : Int) (M4 : Mm), P4 r3 M4 → ∀ M5 : Mm, M5 = (upr M4 1 (up1 (M4 1) 8 ((((M2 1 8) * 10) + r3) - 48))) → ∀ M6 : Mm, M6 = (upr M5 1 (up1 (M5 1) 4 ((M5 1 4) + 1))) → K NM RRM 224 [(0, vr 1)] [] M6))))))) :
    K NM RRM 224 [(0, vr 1)] [] M := by
  refine r_aloadn h (q := 0) 0 rfl (by decide +kernel : decode cX12_nextToken 224 = .ok (.aload_n 0, 1)) ?_
  refine r_aloadn h (q := 0) 0 rfl (by decide +kernel : decode cX12_nextToken 225 = .ok (.aload_n 0, 1)) ?_
  refine r_getI h f_Mod_159 at1M (by decide +kernel : decode cX12_nextToken 226 = .ok (.getfield 159, 3)) ?_
  obtain ⟨P1, hSP1, H⟩ := H
  refine r_callV h (as := [vi (M 1 4)]) (S := []) (b := 1) m_Mod_175 hSP1 (by decide) (Nat.le_refl _) rfl at1M rfl (Nat.le_of_ble_eq_true rfl) (by decide +kernel : decode cX12_nextToken 229 = .ok (.invokevirtual 175, 3)) ?_
  rintro _ _ M1 ⟨rfl, r1, rfl, hP⟩
  have H := H r1 M1 hP
  show K NM RRM _ _ [vi r1] _
  refine r_bipush h (v := 48) (by decide) (by decide +kernel : decode cX12_nextToken 232 = .ok (.bipush 48, 2)) ?_
  obtain ⟨g1, H⟩ := H
  obtain ⟨H1, H2⟩ := H
  refine r_icmp_lt h 299 g1 (by decide) (by decide) (by decide +kernel : decode cX12_nextToken 234 = .ok (.if_icmp .lt 65, 3)) (fun hc => ?_) (fun hc => ?_)
  · have H := H1 hc
    exact H
  · have H := H2 hc
    refine r_aloadn h (q := 0) 0 rfl (by decide +kernel : decode cX12_nextToken 237 = .ok (.aload_n 0, 1)) ?_
    refine r_aloadn h (q := 0) 0 rfl (by decide +kernel : decode cX12_nextToken 238 = .ok (.aload_n 0, 1)) ?_
    refine r_getI h f_Mod_159 at1M (by decide +kernel : decode cX12_nextToken 239 = .ok (.getfield 159, 3)) ?_
    obtain ⟨P2, hSP2, H⟩ := H
    refine r_callV h (as := [vi (M1 1 4)]) (S := []) (b := 1) m_Mod_175 hSP2 (by decide) (Nat.le_refl _) rfl at1M rfl (Nat.le_of_ble_eq_true rfl) (by decide +kernel : decode cX12_nextToken 242 = .ok (.invokevirtual 175, 3)) ?_
    rintro _ _ M2 ⟨rfl, r2, rfl, hP⟩
    have H := H r2 M2 hP
    show K NM RRM _ _ [vi r2] _
    refine r_bipush h (v := 57) (by decide) (by decide +kernel : decode cX12_nextToken 245 = .ok (.bipush 57, 2)) ?_
    obtain ⟨g1, H⟩ := H
    obtain ⟨H1, H2⟩ := H
    refine r_icmp_gt h 299 g1 (by decide) (by decide) (by decide +kernel : decode cX12_nextToken 247 = .ok (.if_icmp .gt 52, 3)) (fun hc => ?_) (fun hc => ?_)
    · have H := H1 hc
      exact H
    · have H := H2 hc
      refine r_aloadn h (q := 0) 0 rfl (by decide +kernel : decode cX12_nextToken 250 = .ok (.aload_n 0, 1)) ?_
      refine r_getI h f_Mod_159 at1M (by decide +kernel : decode cX12_nextToken 251 = .ok (.getfield 159, 3)) ?_
      refine r_aloadn h (q := 0) 0 rfl (by decide +kernel : decode cX12_nextToken 254 = .ok (.aload_n 0, 1)) ?_
      refine r_getI h f_Mod_162 at1M (by decide +kernel : decode cX12_nextToken 255 = .ok (.getfield 162, 3)) ?_
      refine r_isub h (by decide +kernel : decode cX12_nextToken 258 = .ok (.isub, 1)) ?_
      refine r_iconst h (v := 4) (by decide +kernel : decode cX12_nextToken 259 = .ok (.iconst 4, 1)) ?_
      obtain ⟨g1, H⟩ := H
      obtain ⟨H1, H2⟩ := H
      refine r_icmp_ge h 286 g1 (by decide) (by decide) (by decide +kernel : decode cX12_nextToken 260 = .ok (.if_icmp .ge 26, 3)) (fun hc => ?_) (fun hc => ?_)
      · have H := H1 hc
        refine r_aloadn h (q := 0) 0 rfl (by decide +kernel : decode cX12_nextToken 286 = .ok (.aload_n 0, 1)) ?_
        refine r_dup h rfl (by decide +kernel : decode cX12_nextToken 287 = .ok (.dup, 1)) ?_
        refine r_getI h f_Mod_159 at1M (by decide +kernel : decode cX12_nextToken 288 = .ok (.getfield 159, 3)) ?_
        refine r_iconst h (v := 1) (by decide +kernel : decode cX12_nextToken 291 = .ok (.iconst 1, 1)) ?_
        refine r_iadd h (by decide +kernel : decode cX12_nextToken 292 = .ok (.iadd, 1)) ?_
        refine r_putI h f_Mod_159 at1M rfl rfl (by decide +kernel : decode cX12_nextToken 293 = .ok (.putfield 159, 3)) ?_
        have H := H _ rfl
        revert H
        generalize (upr M2 1 (up1 (M2 1) 4 ((M2 1 4) + 1))) = M3
        intro H
        refine r_goto h 224 (by decide) (by decide +kernel : decode cX12_nextToken 296 = .ok (.goto (-72), 3)) ?_
        exact H
      · have H := H2 hc
        refine r_aloadn h (q := 0) 0 rfl (by decide +kernel : decode cX12_nextToken 263 = .ok (.aload_n 0, 1)) ?_
        refine r_aloadn h (q := 0) 0 rfl (by decide +kernel : decode cX12_nextToken 264 = .ok (.aload_n 0, 1)) ?_
        refine r_getI h f_Mod_169 at1M (by decide +kernel : decode cX12_nextToken 265 = .ok (.getfield 169, 3)) ?_
        refine r_bipush h (v := 10) (by decide) (by decide +kernel : decode cX12_nextToken 268 = .ok (.bipush 10, 2)) ?_
        refine r_imul h (by decide +kernel : decode cX12_nextToken 270 = .ok (.imul, 1)) ?_
        refine r_aloadn h (q := 0) 0 rfl (by decide +kernel : decode cX12_nextToken 271 = .ok (.aload_n 0, 1)) ?_
        refine r_aloadn h (q := 0) 0 rfl (by decide +kernel : decode cX12_nextToken 272 = .ok (.aload_n 0, 1)) ?_
        refine r_getI h f_Mod_159 at1M (by decide +kernel : decode cX12_nextToken 273 = .ok (.getfield 159, 3)) ?_
        obtain ⟨P4, hSP4, H⟩ := H
        refine r_callV h (as := [vi (M2 1 4)]) (S := [vi ((M2 1 8) * 10), vr 1]) (b := 1) m_Mod_175 hSP4 (by decide) (Nat.le_refl _) rfl at1M rfl (Nat.le_of_ble_eq_true rfl) (by decide +kernel : decode cX12_nextToken 276 = .ok (.invokevirtual 175, 3)) ?_
        rintro _ _ M4 ⟨rfl, r3, rfl, hP⟩
        have H := H r3 M4 hP
        show K NM RRM _ _ [vi r3, vi ((M2 1 8) * 10), vr 1] _
        refine r_iadd h (by decide +kernel : decode cX12_nextToken 279 = .ok (.iadd, 1)) ?_
        refine r_bipush h (v := 48) (by decide) (by decide +kernel : decode cX12_nextToken 280 = .ok (.bipush 48, 2)) ?_
        refine r_isub h (by decide +kernel : decode cX12_nextToken 282 = .ok (.isub, 1)) ?_
        refine r_putI h f_Mod_169 at1M rfl rfl (by decide +kernel : decode cX12_nextToken 283 = .ok (.putfield 169, 3)) ?_
        have H := H _ rfl
        revert H
        generalize (upr M4 1 (up1 (M4 1) 8 ((((M2 1 8) * 10) + r3) - 48))) = M5
        intro H
        refine r_aloadn h (q := 0) 0 rfl (by decide +kernel : decode cX12_nextToken 286 = .ok (.aload_n 0, 1)) ?_
        refine r_dup h rfl (by decide +kernel : decode cX12_nextToken 287 = .ok (.dup, 1)) ?_
        refine r_getI h f_Mod_159 at1M (by decide +kernel : decode cX12_nextToken 288 = .ok (.getfield 159, 3)) ?_
        refine r_iconst h (v := 1) (by decide +kernel : decode cX12_nextToken 291 = .ok (.iconst 1, 1)) ?_
        refine r_iadd h (by decide +kernel : decode cX12_nextToken 292 = .ok (.iadd, 1)) ?_
        refine r_putI h f_Mod_159 at1M rfl rfl (by decide +kernel : decode cX12_nextToken 293 = .ok (.putfield 159, 3)) ?_
        have H := H _ rfl
        revert H
        generalize (upr M5 1 (up1 (M5 1) 4 ((M5 1 4) + 1))) = M6
        intro H
        refine r_goto h 224 (by decide) (by decide +kernel : decode cX12_nextToken 296 = .ok (.goto (-72), 3)) ?_
        exact H
set_option maxHeartbeats 4000000 in
set_option maxRecDepth 100000 in
theorem w_Mod_nextToken_109 {P : Mm → Prop} {K : Nat → Rr → Nat → List (Nat × AV) → List AV → Mm → Prop} (h : EK shM yX12_nextToken cX12_nextToken 2 none 2 NM NM (QV RRM P) K)  (M : Mm)
    (H : ∃ P1 : Int → Mm → Prop, S_Mod_signAt (M 1 4) M P1 ∧ ∀ (r1 : Int) (M1 : Mm), P1 r1 M1 → (rng r1) ∧ (r1 < 97 → (K NM RRM 188 [(0, vr 1)] [] M1)) ∧ (¬ (r1 < 97) → (∃ P2 : Int → Mm → Prop, S_Mod_signAt (M1 1 4) M1 P2 ∧ ∀ (r2 : Int) (M2 : Mm), P2 r2 M2 → (rng r2) ∧ (122 < r2 → (K NM RRM 188 [(0, vr 1)] [] M2)) ∧ (¬ (122 < r2) → ((rng ((M2 1 4) - (M2 1 5))) ∧ (8 ≤ ((M2 1 4) - (M2 1 5)) → (∀ M3 : Mm, M3 = (upr M2 1 (up1 (M2 1) 4 ((M2 1 4) + 1))) → K NM RRM 109 [(0, vr 1)] [] M3)) ∧ (¬ (8 ≤ ((M2 1 4) - (M2 1 5))) → (∃ P4 : Int → Mm → Prop, S_Mod_signAt (M2 1 4) M2 P4 ∧ ∀ (r3 : Int) (M4 : Mm), P4 r3 M4 → (rng r3) ∧ ∀ M5 : Mm, M5 = (upr M4 1 (up1 (M4 1) 7 ((((M2 1 7) * 27) + r3) - 96))) → ∀ M6 : Mm, M6 = (upr M5 1 (up1 (M5 1) 4 ((M5 1 4) + 1))) → K NM RRM 109 [(0, vr 1)] [] M6))))))) :
    K NM RRM 109 [(0, vr 1)] [] M := by
  refine r_aloadn h (q := 0) 0 rfl (by decide +kernel : decode cX12_nextToken 109 = .ok (.aload_n 0, 1)) ?_
  refine r_aloadn h (q := 0) 0 rfl (by decide +kernel : decode cX12_nextToken 110 = .ok (.aload_n 0, 1)) ?_
  refine r_getI h f_Mod_159 at1M (by decide +kernel : decode cX12_nextToken 111 = .ok (.getfield 159, 3)) ?_
  obtain ⟨P1, hSP1, H⟩ := H
  refine r_callV h (as := [vi (M 1 4)]) (S := []) (b := 1) m_Mod_175 hSP1 (by decide) (Nat.le_refl _) rfl at1M rfl (Nat.le_of_ble_eq_true rfl) (by decide +kernel : decode cX12_nextToken 114 = .ok (.invokevirtual 175, 3)) ?_
  rintro _ _ M1 ⟨rfl, r1, rfl, hP⟩
  have H := H r1 M1 hP
  show K NM RRM _ _ [vi r1] _
  refine r_bipush h (v := 97) (by decide) (by decide +kernel : decode cX12_nextToken 117 = .ok (.bipush 97, 2)) ?_
  obtain ⟨g1, H⟩ := H
  obtain ⟨H1, H2⟩ := H
  refine r_icmp_lt h 188 g1 (by decide) (by decide) (by decide +kernel : decode cX12_nextToken 119 = .ok (.if_icmp .lt 69, 3)) (fun hc => ?_) (fun hc => ?_)
  · have H := H1 hc
    exact H
  · have H := H2 hc
    refine r_aloadn h (q := 0) 0 rfl (by decide +kernel : decode cX12_nextToken 122 = .ok (.aload_n 0, 1)) ?_
    refine r_aloadn h (q := 0) 0 rfl (by decide +kernel : decode cX12_nextToken 123 = .ok (.aload_n 0, 1)) ?_
    refine r_getI h f_Mod_159 at1M (by decide +kernel : decode cX12_nextToken 124 = .ok (.getfield 159, 3)) ?_
    obtain ⟨P2, hSP2, H⟩ := H
    refine r_callV h (as := [vi (M1 1 4)]) (S := []) (b := 1) m_Mod_175 hSP2 (by decide) (Nat.le_refl _) rfl at1M rfl (Nat.le_of_ble_eq_true rfl) (by decide +kernel : decode cX12_nextToken 127 = .ok (.invokevirtual 175, 3)) ?_
    rintro _ _ M2 ⟨rfl, r2, rfl, hP⟩
    have H := H r2 M2 hP
    show K NM RRM _ _ [vi r2] _
    refine r_bipush h (v := 122) (by decide) (by decide +kernel : decode cX12_nextToken 130 = .ok (.bipush 122, 2)) ?_
    obtain ⟨g1, H⟩ := H
    obtain ⟨H1, H2⟩ := H
    refine r_icmp_gt h 188 g1 (by decide) (by decide) (by decide +kernel : decode cX12_nextToken 132 = .ok (.if_icmp .gt 56, 3)) (fun hc => ?_) (fun hc => ?_)
    · have H := H1 hc
      exact H
    · have H := H2 hc
      refine r_aloadn h (q := 0) 0 rfl (by decide +kernel : decode cX12_nextToken 135 = .ok (.aload_n 0, 1)) ?_
      refine r_getI h f_Mod_159 at1M (by decide +kernel : decode cX12_nextToken 136 = .ok (.getfield 159, 3)) ?_
      refine r_aloadn h (q := 0) 0 rfl (by decide +kernel : decode cX12_nextToken 139 = .ok (.aload_n 0, 1)) ?_
      refine r_getI h f_Mod_162 at1M (by decide +kernel : decode cX12_nextToken 140 = .ok (.getfield 162, 3)) ?_
      refine r_isub h (by decide +kernel : decode cX12_nextToken 143 = .ok (.isub, 1)) ?_
      refine r_bipush h (v := 8) (by decide) (by decide +kernel : decode cX12_nextToken 144 = .ok (.bipush 8, 2)) ?_
      obtain ⟨g1, H⟩ := H
      obtain ⟨H1, H2⟩ := H
      refine r_icmp_ge h 175 g1 (by decide) (by decide) (by decide +kernel : decode cX12_nextToken 146 = .ok (.if_icmp .ge 29, 3)) (fun hc => ?_) (fun hc => ?_)
      · have H := H1 hc
        refine r_aloadn h (q := 0) 0 rfl (by decide +kernel : decode cX12_nextToken 175 = .ok (.aload_n 0, 1)) ?_
        refine r_dup h rfl (by decide +kernel : decode cX12_nextToken 176 = .ok (.dup, 1)) ?_
        refine r_getI h f_Mod_159 at1M (by decide +kernel : decode cX12_nextToken 177 = .ok (.getfield 159, 3)) ?_
        refine r_iconst h (v := 1) (by decide +kernel : decode cX12_nextToken 180 = .ok (.iconst 1, 1)) ?_
        refine r_iadd h (by decide +kernel : decode cX12_nextToken 181 = .ok (.iadd, 1)) ?_
        refine r_putI h f_Mod_159 at1M rfl rfl (by decide +kernel : decode cX12_nextToken 182 = .ok (.putfield 159, 3)) ?_
        have H := H _ rfl
        revert H
        generalize (upr M2 1 (up1 (M2 1) 4 ((M2 1 4) + 1))) = M3
        intro H
        refine r_goto h 109 (by decide) (by decide +kernel : decode cX12_nextToken 185 = .ok (.goto (-76), 3)) ?_
        exact H
      · have H := H2 hc
        refine r_aloadn h (q := 0) 0 rfl (by decide +kernel : decode cX12_nextToken 149 = .ok (.aload_n 0, 1)) ?_
        refine r_aloadn h (q := 0) 0 rfl (by decide +kernel : decode cX12_nextToken 150 = .ok (.aload_n 0, 1)) ?_
        refine r_getL h f_Mod_165 at1M (by decide +kernel : decode cX12_nextToken 151 = .ok (.getfield 165, 3)) ?_
        refine r_ldc2 h (v := 27) kc_Mod_179 (by decide +kernel : decode cX12_nextToken 154 = .ok (.ldc2_w 179, 3)) ?_
        refine r_lmul h (by decide +kernel : decode cX12_nextToken 157 = .ok (.lmul, 1)) ?_
        refine r_aloadn h (q := 0) 0 rfl (by decide +kernel : decode cX12_nextToken 158 = .ok (.aload_n 0, 1)) ?_
        refine r_aloadn h (q := 0) 0 rfl (by decide +kernel : decode cX12_nextToken 159 = .ok (.aload_n 0, 1)) ?_
        refine r_getI h f_Mod_159 at1M (by decide +kernel : decode cX12_nextToken 160 = .ok (.getfield 159, 3)) ?_
        obtain ⟨P4, hSP4, H⟩ := H
        refine r_callV h (as := [vi (M2 1 4)]) (S := [vl ((M2 1 7) * 27), vr 1]) (b := 1) m_Mod_175 hSP4 (by decide) (Nat.le_refl _) rfl at1M rfl (Nat.le_of_ble_eq_true rfl) (by decide +kernel : decode cX12_nextToken 163 = .ok (.invokevirtual 175, 3)) ?_
        rintro _ _ M4 ⟨rfl, r3, rfl, hP⟩
        have H := H r3 M4 hP
        show K NM RRM _ _ [vi r3, vl ((M2 1 7) * 27), vr 1] _
        obtain ⟨g1, H⟩ := H
        refine r_i2l h g1 (by decide +kernel : decode cX12_nextToken 166 = .ok (.i2l, 1)) ?_
        refine r_ladd h (by decide +kernel : decode cX12_nextToken 167 = .ok (.ladd, 1)) ?_
        refine r_ldc2 h (v := 96) kc_Mod_181 (by decide +kernel : decode cX12_nextToken 168 = .ok (.ldc2_w 181, 3)) ?_
        refine r_lsub h (by decide +kernel : decode cX12_nextToken 171 = .ok (.lsub, 1)) ?_
        refine r_putL h f_Mod_165 at1M rfl rfl (by decide +kernel : decode cX12_nextToken 172 = .ok (.putfield 165, 3)) ?_
        have H := H _ rfl
        revert H
        generalize (upr M4 1 (up1 (M4 1) 7 ((((M2 1 7) * 27) + r3) - 96))) = M5
        intro H
        refine r_aloadn h (q := 0) 0 rfl (by decide +kernel : decode cX12_nextToken 175 = .ok (.aload_n 0, 1)) ?_
        refine r_dup h rfl (by decide +kernel : decode cX12_nextToken 176 = .ok (.dup, 1)) ?_
        refine r_getI h f_Mod_159 at1M (by decide +kernel : decode cX12_nextToken 177 = .ok (.getfield 159, 3)) ?_
        refine r_iconst h (v := 1) (by decide +kernel : decode cX12_nextToken 180 = .ok (.iconst 1, 1)) ?_
        refine r_iadd h (by decide +kernel : decode cX12_nextToken 181 = .ok (.iadd, 1)) ?_
        refine r_putI h f_Mod_159 at1M rfl rfl (by decide +kernel : decode cX12_nextToken 182 = .ok (.putfield 159, 3)) ?_
        have H := H _ rfl
        revert H
        generalize (upr M5 1 (up1 (M5 1) 4 ((M5 1 4) + 1))) = M6
        intro H
        refine r_goto h 109 (by decide) (by decide +kernel : decode cX12_nextToken 185 = .ok (.goto (-76), 3)) ?_
        exact H
set_option maxHeartbeats 4000000 in
set_option maxRecDepth 100000 in
theorem w_Mod_nextToken_345 {P : Mm → Prop} {K : Nat → Rr → Nat → List (Nat × AV) → List AV → Mm → Prop} (h : EK shM yX12_nextToken cX12_nextToken 2 none 2 NM NM (QV RRM P) K) (x1 : Int) (M : Mm)
    (H : (rng x1) ∧ (x1 = 45 → (∀ M1 : Mm, M1 = (upr M 1 (up1 (M 1) 6 3)) → P M1)) ∧ (x1 ≠ 45 → ((rng x1) ∧ (x1 < 59 → (∀ M2 : Mm, M2 = (upr M 1 (up1 (M 1) 6 4)) → P M2)) ∧ (¬ (x1 < 59) → ((rng x1) ∧ (61 < x1 → (∀ M3 : Mm, M3 = (upr M 1 (up1 (M 1) 6 4)) → P M3)) ∧ (¬ (61 < x1) → (∀ M4 : Mm, M4 = (upr M 1 (up1 (M 1) 6 3)) → P M4))))))) :
    K NM RRM 345 [(1, vi x1)] [vr 1] M := by
  refine r_iloadn h (q := 1) 0 rfl (by decide +kernel : decode cX12_nextToken 345 = .ok (.iload_n 1, 1)) ?_
  refine r_bipush h (v := 45) (by decide) (by decide +kernel : decode cX12_nextToken 346 = .ok (.bipush 45, 2)) ?_
  obtain ⟨g1, H⟩ := H
  obtain ⟨H1, H2⟩ := H
  refine r_icmp_eq h 363 g1 (by decide) (by decide) (by decide +kernel : decode cX12_nextToken 348 = .ok (.if_icmp .eq 15, 3)) (fun hc => ?_) (fun hc => ?_)
  · have H := H1 hc
    refine r_iconst h (v := 3) (by decide +kernel : decode cX12_nextToken 363 = .ok (.iconst 3, 1)) ?_
    refine r_goto h 368 (by decide) (by decide +kernel : decode cX12_nextToken 364 = .ok (.goto 4, 3)) ?_
    refine r_putI h f_Mod_172 at1M rfl rfl (by decide +kernel : decode cX12_nextToken 368 = .ok (.putfield 172, 3)) ?_
    have H := H _ rfl
    revert H
    generalize (upr M 1 (up1 (M 1) 6 3)) = M1
    intro H
    exact r_vret h rfl (by decide +kernel : decode cX12_nextToken 371 = .ok (.return_, 1)) rfl ⟨rfl, rfl, H⟩
  · have H := H2 hc
    refine r_iloadn h (q := 1) 0 rfl (by decide +kernel : decode cX12_nextToken 351 = .ok (.iload_n 1, 1)) ?_
    refine r_bipush h (v := 59) (by decide) (by decide +kernel : decode cX12_nextToken 352 = .ok (.bipush 59, 2)) ?_
    obtain ⟨g1, H⟩ := H
    obtain ⟨H1, H2⟩ := H
    refine r_icmp_lt h 367 g1 (by decide) (by decide) (by decide +kernel : decode cX12_nextToken 354 = .ok (.if_icmp .lt 13, 3)) (fun hc => ?_) (fun hc => ?_)
    · have H := H1 hc
      refine r_iconst h (v := 4) (by decide +kernel : decode cX12_nextToken 367 = .ok (.iconst 4, 1)) ?_
      refine r_putI h f_Mod_172 at1M rfl rfl (by decide +kernel : decode cX12_nextToken 368 = .ok (.putfield 172, 3)) ?_
      have H := H _ rfl
      revert H
      generalize (upr M 1 (up1 (M 1) 6 4)) = M2
      intro H
      exact r_vret h rfl (by decide +kernel : decode cX12_nextToken 371 = .ok (.return_, 1)) rfl ⟨rfl, rfl, H⟩
    · have H := H2 hc
      refine r_iloadn h (q := 1) 0 rfl (by decide +kernel : decode cX12_nextToken 357 = .ok (.iload_n 1, 1)) ?_
      refine r_bipush h (v := 61) (by decide) (by decide +kernel : decode cX12_nextToken 358 = .ok (.bipush 61, 2)) ?_
      obtain ⟨g1, H⟩ := H
      obtain ⟨H1, H2⟩ := H
      refine r_icmp_gt h 367 g1 (by decide) (by decide) (by decide +kernel : decode cX12_nextToken 360 = .ok (.if_icmp .gt 7, 3)) (fun hc => ?_) (fun hc => ?_)
      · have H := H1 hc
        refine r_iconst h (v := 4) (by decide +kernel : decode cX12_nextToken 367 = .ok (.iconst 4, 1)) ?_
        refine r_putI h f_Mod_172 at1M rfl rfl (by decide +kernel : decode cX12_nextToken 368 = .ok (.putfield 172, 3)) ?_
        have H := H _ rfl
        revert H
        generalize (upr M 1 (up1 (M 1) 6 4)) = M3
        intro H
        exact r_vret h rfl (by decide +kernel : decode cX12_nextToken 371 = .ok (.return_, 1)) rfl ⟨rfl, rfl, H⟩
      · have H := H2 hc
        refine r_iconst h (v := 3) (by decide +kernel : decode cX12_nextToken 363 = .ok (.iconst 3, 1)) ?_
        refine r_goto h 368 (by decide) (by decide +kernel : decode cX12_nextToken 364 = .ok (.goto 4, 3)) ?_
        refine r_putI h f_Mod_172 at1M rfl rfl (by decide +kernel : decode cX12_nextToken 368 = .ok (.putfield 172, 3)) ?_
        have H := H _ rfl
        revert H
        generalize (upr M 1 (up1 (M 1) 6 3)) = M4
        intro H
        exact r_vret h rfl (by decide +kernel : decode cX12_nextToken 371 = .ok (.return_, 1)) rfl ⟨rfl, rfl, H⟩
set_option maxHeartbeats 4000000 in
set_option maxRecDepth 100000 in
theorem w_Mod_nextToken_299 {P : Mm → Prop} {K : Nat → Rr → Nat → List (Nat × AV) → List AV → Mm → Prop} (h : EK shM yX12_nextToken cX12_nextToken 2 none 2 NM NM (QV RRM P) K)  (M : Mm)
    (H : (rng ((M 1 4) - (M 1 5))) ∧ (((M 1 4) - (M 1 5)) ≤ 4 → (∀ M1 : Mm, M1 = (upr M 1 (up1 (M 1) 6 2)) → P M1)) ∧ (¬ (((M 1 4) - (M 1 5)) ≤ 4) → (∀ M2 : Mm, M2 = (upr M 1 (up1 (M 1) 6 4)) → P M2))) :
    K NM RRM 299 [(0, vr 1)] [] M := by
  refine r_aloadn h (q := 0) 0 rfl (by decide +kernel : decode cX12_nextToken 299 = .ok (.aload_n 0, 1)) ?_
  refine r_aloadn h (q := 0) 0 rfl (by decide +kernel : decode cX12_nextToken 300 = .ok (.aload_n 0, 1)) ?_
  refine r_getI h f_Mod_159 at1M (by decide +kernel : decode cX12_nextToken 301 = .ok (.getfield 159, 3)) ?_
  refine r_aloadn h (q := 0) 0 rfl (by decide +kernel : decode cX12_nextToken 304 = .ok (.aload_n 0, 1)) ?_
  refine r_getI h f_Mod_162 at1M (by decide +kernel : decode cX12_nextToken 305 = .ok (.getfield 162, 3)) ?_
  refine r_isub h (by decide +kernel : decode cX12_nextToken 308 = .ok (.isub, 1)) ?_
  refine r_iconst h (v := 4) (by decide +kernel : decode cX12_nextToken 309 = .ok (.iconst 4, 1)) ?_
  obtain ⟨g1, H⟩ := H
  obtain ⟨H1, H2⟩ := H
  refine r_icmp_le h 317 g1 (by decide) (by decide) (by decide +kernel : decode cX12_nextToken 310 = .ok (.if_icmp .le 7, 3)) (fun hc => ?_) (fun hc => ?_)
  · have H := H1 hc
    refine r_iconst h (v := 2) (by decide +kernel : decode cX12_nextToken 317 = .ok (.iconst 2, 1)) ?_
    refine r_putI h f_Mod_172 at1M rfl rfl (by decide +kernel : decode cX12_nextToken 318 = .ok (.putfield 172, 3)) ?_
    have H := H _ rfl
    revert H
    generalize (upr M 1 (up1 (M 1) 6 2)) = M1
    intro H
    exact r_vret h rfl (by decide +kernel : decode cX12_nextToken 321 = .ok (.return_, 1)) rfl ⟨rfl, rfl, H⟩
  · have H := H2 hc
    refine r_iconst h (v := 4) (by decide +kernel : decode cX12_nextToken 313 = .ok (.iconst 4, 1)) ?_
    refine r_goto h 318 (by decide) (by decide +kernel : decode cX12_nextToken 314 = .ok (.goto 4, 3)) ?_
    refine r_putI h f_Mod_172 at1M rfl rfl (by decide +kernel : decode cX12_nextToken 318 = .ok (.putfield 172, 3)) ?_
    have H := H _ rfl
    revert H
    generalize (upr M 1 (up1 (M 1) 6 4)) = M2
    intro H
    exact r_vret h rfl (by decide +kernel : decode cX12_nextToken 321 = .ok (.return_, 1)) rfl ⟨rfl, rfl, H⟩
set_option maxHeartbeats 4000000 in
set_option maxRecDepth 100000 in
theorem w_Mod_nextToken_188 {P : Mm → Prop} {K : Nat → Rr → Nat → List (Nat × AV) → List AV → Mm → Prop} (h : EK shM yX12_nextToken cX12_nextToken 2 none 2 NM NM (QV RRM P) K)  (M : Mm)
    (H : (rng ((M 1 4) - (M 1 5))) ∧ (((M 1 4) - (M 1 5)) ≤ 8 → (∀ M1 : Mm, M1 = (upr M 1 (up1 (M 1) 6 1)) → P M1)) ∧ (¬ (((M 1 4) - (M 1 5)) ≤ 8) → (∀ M2 : Mm, M2 = (upr M 1 (up1 (M 1) 6 4)) → P M2))) :
    K NM RRM 188 [(0, vr 1)] [] M := by
  refine r_aloadn h (q := 0) 0 rfl (by decide +kernel : decode cX12_nextToken 188 = .ok (.aload_n 0, 1)) ?_
  refine r_aloadn h (q := 0) 0 rfl (by decide +kernel : decode cX12_nextToken 189 = .ok (.aload_n 0, 1)) ?_
  refine r_getI h f_Mod_159 at1M (by decide +kernel : decode cX12_nextToken 190 = .ok (.getfield 159, 3)) ?_
  refine r_aloadn h (q := 0) 0 rfl (by decide +kernel : decode cX12_nextToken 193 = .ok (.aload_n 0, 1)) ?_
  refine r_getI h f_Mod_162 at1M (by decide +kernel : decode cX12_nextToken 194 = .ok (.getfield 162, 3)) ?_
  refine r_isub h (by decide +kernel : decode cX12_nextToken 197 = .ok (.isub, 1)) ?_
  refine r_bipush h (v := 8) (by decide) (by decide +kernel : decode cX12_nextToken 198 = .ok (.bipush 8, 2)) ?_
  obtain ⟨g1, H⟩ := H
  obtain ⟨H1, H2⟩ := H
  refine r_icmp_le h 207 g1 (by decide) (by decide) (by decide +kernel : decode cX12_nextToken 200 = .ok (.if_icmp .le 7, 3)) (fun hc => ?_) (fun hc => ?_)
  · have H := H1 hc
    refine r_iconst h (v := 1) (by decide +kernel : decode cX12_nextToken 207 = .ok (.iconst 1, 1)) ?_
    refine r_putI h f_Mod_172 at1M rfl rfl (by decide +kernel : decode cX12_nextToken 208 = .ok (.putfield 172, 3)) ?_
    have H := H _ rfl
    revert H
    generalize (upr M 1 (up1 (M 1) 6 1)) = M1
    intro H
    exact r_vret h rfl (by decide +kernel : decode cX12_nextToken 211 = .ok (.return_, 1)) rfl ⟨rfl, rfl, H⟩
  · have H := H2 hc
    refine r_iconst h (v := 4) (by decide +kernel : decode cX12_nextToken 203 = .ok (.iconst 4, 1)) ?_
    refine r_goto h 208 (by decide) (by decide +kernel : decode cX12_nextToken 204 = .ok (.goto 4, 3)) ?_
    refine r_putI h f_Mod_172 at1M rfl rfl (by decide +kernel : decode cX12_nextToken 208 = .ok (.putfield 172, 3)) ?_
    have H := H _ rfl
    revert H
    generalize (upr M 1 (up1 (M 1) 6 4)) = M2
    intro H
    exact r_vret h rfl (by decide +kernel : decode cX12_nextToken 211 = .ok (.return_, 1)) rfl ⟨rfl, rfl, H⟩
set_option maxHeartbeats 4000000 in
set_option maxRecDepth 100000 in
theorem w_Mod_tests_0 {P : Mm → Prop} {K : Nat → Rr → Nat → List (Nat × AV) → List AV → Mm → Prop} (h : EK shM yX12_tests cX12_tests 3 none 2 NM NM (QV RRM P) K) (x1 : Int) (M : Mm)
    (H : ∃ P1 : Mm → Prop, S_Mod_sums x1 M P1 ∧ ∀ M1 : Mm, P1 M1 → (0 ≤ x1 ∧ x1 < 7) ∧ (0 ≤ x1 ∧ x1 < 7) ∧ (rng (M1 19 x1.toNat)) ∧ ((M1 19 x1.toNat) ≠ 24 → (K NM RRM 44 [(0, vr 1), (1, vi x1), (2, vi (M1 20 x1.toNat))] [] M1)) ∧ ((M1 19 x1.toNat) = 24 → ((0 ≤ x1 ∧ x1 < 7) ∧ (0 ≤ x1 ∧ x1 < 7) ∧ (rng (M1 18 x1.toNat)) ∧ (rng (M1 20 x1.toNat)) ∧ ((M1 20 x1.toNat) ≤ (M1 18 x1.toNat) → (K NM RRM 44 [(0, vr 1), (1, vi x1), (2, vi 0)] [] M1)) ∧ (¬ ((M1 20 x1.toNat) ≤ (M1 18 x1.toNat)) → (K NM RRM 44 [(0, vr 1), (1, vi x1), (2, vi 1)] [] M1))))) :
    K NM RRM 0 [(0, vr 1), (1, vi x1)] [] M := by
  refine r_aloadn h (q := 0) 0 rfl (by decide +kernel : decode cX12_tests 0 = .ok (.aload_n 0, 1)) ?_
  refine r_iloadn h (q := 1) 1 rfl (by decide +kernel : decode cX12_tests 1 = .ok (.iload_n 1, 1)) ?_
  obtain ⟨P1, hSP1, H⟩ := H
  refine r_callV h (as := [vi x1]) (S := []) (b := 1) m_Mod_230 hSP1 (by decide) (Nat.le_refl _) rfl at1M rfl (Nat.le_of_ble_eq_true rfl) (by decide +kernel : decode cX12_tests 2 = .ok (.invokevirtual 230, 3)) ?_
  rintro _ _ M1 ⟨rfl, rfl, hP⟩
  have H := H M1 hP
  show K NM RRM _ _ [] _
  refine r_aloadn h (q := 0) 0 rfl (by decide +kernel : decode cX12_tests 5 = .ok (.aload_n 0, 1)) ?_
  refine r_getR h (r := 20) f_Mod_66 at1M rfl (by decide) (by decide +kernel : decode cX12_tests 6 = .ok (.getfield 66, 3)) ?_
  refine r_iloadn h (q := 1) 1 rfl (by decide +kernel : decode cX12_tests 9 = .ok (.iload_n 1, 1)) ?_
  obtain ⟨g1, H⟩ := H
  refine r_iald h x1.toNat rfl atM_20 g1 (by decide) (by decide +kernel : decode cX12_tests 10 = .ok (.iaload, 1)) ?_
  refine r_istoren h (q := 2) (L' := [(2, vi (M1 20 x1.toNat)), (0, vr 1), (1, vi x1)]) (by decide) rfl (by decide +kernel : decode cX12_tests 11 = .ok (.istore_n 2, 1)) ?_
  refine r_aloadn h (q := 0) 1 rfl (by decide +kernel : decode cX12_tests 12 = .ok (.aload_n 0, 1)) ?_
  refine r_getR h (r := 19) f_Mod_63 at1M rfl (by decide) (by decide +kernel : decode cX12_tests 13 = .ok (.getfield 63, 3)) ?_
  refine r_iloadn h (q := 1) 2 rfl (by decide +kernel : decode cX12_tests 16 = .ok (.iload_n 1, 1)) ?_
  obtain ⟨g1, H⟩ := H
  refine r_iald h x1.toNat rfl atM_19 g1 (by decide) (by decide +kernel : decode cX12_tests 17 = .ok (.iaload, 1)) ?_
  refine r_bipush h (v := 24) (by decide) (by decide +kernel : decode cX12_tests 18 = .ok (.bipush 24, 2)) ?_
  obtain ⟨g1, H⟩ := H
  obtain ⟨H1, H2⟩ := H
  refine r_icmp_ne h 44 g1 (by decide) (by decide) (by decide +kernel : decode cX12_tests 20 = .ok (.if_icmp .ne 24, 3)) (fun hc => ?_) (fun hc => ?_)
  · have H := H1 hc
    refine r_drop h [1, 2, 0] rfl ?_
    exact H
  · have H := H2 hc
    refine r_aloadn h (q := 0) 1 rfl (by decide +kernel : decode cX12_tests 23 = .ok (.aload_n 0, 1)) ?_
    refine r_getR h (r := 18) f_Mod_60 at1M rfl (by decide) (by decide +kernel : decode cX12_tests 24 = .ok (.getfield 60, 3)) ?_
    refine r_iloadn h (q := 1) 2 rfl (by decide +kernel : decode cX12_tests 27 = .ok (.iload_n 1, 1)) ?_
    obtain ⟨g1, H⟩ := H
    refine r_iald h x1.toNat rfl atM_18 g1 (by decide) (by decide +kernel : decode cX12_tests 28 = .ok (.iaload, 1)) ?_
    refine r_aloadn h (q := 0) 1 rfl (by decide +kernel : decode cX12_tests 29 = .ok (.aload_n 0, 1)) ?_
    refine r_getR h (r := 20) f_Mod_66 at1M rfl (by decide) (by decide +kernel : decode cX12_tests 30 = .ok (.getfield 66, 3)) ?_
    refine r_iloadn h (q := 1) 2 rfl (by decide +kernel : decode cX12_tests 33 = .ok (.iload_n 1, 1)) ?_
    obtain ⟨g1, H⟩ := H
    refine r_iald h x1.toNat rfl atM_20 g1 (by decide) (by decide +kernel : decode cX12_tests 34 = .ok (.iaload, 1)) ?_
    obtain ⟨g1, g2, H⟩ := H
    obtain ⟨H1, H2⟩ := H
    refine r_icmp_ge h 42 g1 g2 (by decide) (by decide +kernel : decode cX12_tests 35 = .ok (.if_icmp .ge 7, 3)) (fun hc => ?_) (fun hc => ?_)
    · have H := H1 hc
      refine r_iconst h (v := 0) (by decide +kernel : decode cX12_tests 42 = .ok (.iconst 0, 1)) ?_
      refine r_istoren h (q := 2) (L' := [(2, vi 0), (0, vr 1), (1, vi x1)]) (by decide) rfl (by decide +kernel : decode cX12_tests 43 = .ok (.istore_n 2, 1)) ?_
      refine r_drop h [1, 2, 0] rfl ?_
      exact H
    · have H := H2 hc
      refine r_iconst h (v := 1) (by decide +kernel : decode cX12_tests 38 = .ok (.iconst 1, 1)) ?_
      refine r_goto h 43 (by decide) (by decide +kernel : decode cX12_tests 39 = .ok (.goto 4, 3)) ?_
      refine r_istoren h (q := 2) (L' := [(2, vi 1), (0, vr 1), (1, vi x1)]) (by decide) rfl (by decide +kernel : decode cX12_tests 43 = .ok (.istore_n 2, 1)) ?_
      refine r_drop h [1, 2, 0] rfl ?_
      exact H
set_option maxHeartbeats 4000000 in
set_option maxRecDepth 100000 in
theorem w_Mod_tests_44 {P : Mm → Prop} {K : Nat → Rr → Nat → List (Nat × AV) → List AV → Mm → Prop} (h : EK shM yX12_tests cX12_tests 3 none 2 NM NM (QV RRM P) K) (x1 : Int) (x2 : Int) (M : Mm)
    (H : (0 ≤ x1 ∧ x1 < 7) ∧ (rng (M 19 x1.toNat)) ∧ ((M 19 x1.toNat) ≠ 25 → (K NM RRM 76 [(0, vr 1), (1, vi x1), (2, vi x2)] [] M)) ∧ ((M 19 x1.toNat) = 25 → ((0 ≤ x1 ∧ x1 < 7) ∧ (0 ≤ x1 ∧ x1 < 7) ∧ (rng (M 18 x1.toNat)) ∧ (rng (M 20 x1.toNat)) ∧ ((M 18 x1.toNat) ≠ (M 20 x1.toNat) → (K NM RRM 76 [(0, vr 1), (1, vi x1), (2, vi 0)] [] M)) ∧ ((M 18 x1.toNat) = (M 20 x1.toNat) → (K NM RRM 76 [(0, vr 1), (1, vi x1), (2, vi 1)] [] M))))) :
    K NM RRM 44 [(0, vr 1), (1, vi x1), (2, vi x2)] [] M := by
  refine r_aloadn h (q := 0) 0 rfl (by decide +kernel : decode cX12_tests 44 = .ok (.aload_n 0, 1)) ?_
  refine r_getR h (r := 19) f_Mod_63 at1M rfl (by decide) (by decide +kernel : decode cX12_tests 45 = .ok (.getfield 63, 3)) ?_
  refine r_iloadn h (q := 1) 1 rfl (by decide +kernel : decode cX12_tests 48 = .ok (.iload_n 1, 1)) ?_
  obtain ⟨g1, H⟩ := H
  refine r_iald h x1.toNat rfl atM_19 g1 (by decide) (by decide +kernel : decode cX12_tests 49 = .ok (.iaload, 1)) ?_
  refine r_bipush h (v := 25) (by decide) (by decide +kernel : decode cX12_tests 50 = .ok (.bipush 25, 2)) ?_
  obtain ⟨g1, H⟩ := H
  obtain ⟨H1, H2⟩ := H
  refine r_icmp_ne h 76 g1 (by decide) (by decide) (by decide +kernel : decode cX12_tests 52 = .ok (.if_icmp .ne 24, 3)) (fun hc => ?_) (fun hc => ?_)
  · have H := H1 hc
    exact H
  · have H := H2 hc
    refine r_aloadn h (q := 0) 0 rfl (by decide +kernel : decode cX12_tests 55 = .ok (.aload_n 0, 1)) ?_
    refine r_getR h (r := 18) f_Mod_60 at1M rfl (by decide) (by decide +kernel : decode cX12_tests 56 = .ok (.getfield 60, 3)) ?_
    refine r_iloadn h (q := 1) 1 rfl (by decide +kernel : decode cX12_tests 59 = .ok (.iload_n 1, 1)) ?_
    obtain ⟨g1, H⟩ := H
    refine r_iald h x1.toNat rfl atM_18 g1 (by decide) (by decide +kernel : decode cX12_tests 60 = .ok (.iaload, 1)) ?_
    refine r_aloadn h (q := 0) 0 rfl (by decide +kernel : decode cX12_tests 61 = .ok (.aload_n 0, 1)) ?_
    refine r_getR h (r := 20) f_Mod_66 at1M rfl (by decide) (by decide +kernel : decode cX12_tests 62 = .ok (.getfield 66, 3)) ?_
    refine r_iloadn h (q := 1) 1 rfl (by decide +kernel : decode cX12_tests 65 = .ok (.iload_n 1, 1)) ?_
    obtain ⟨g1, H⟩ := H
    refine r_iald h x1.toNat rfl atM_20 g1 (by decide) (by decide +kernel : decode cX12_tests 66 = .ok (.iaload, 1)) ?_
    obtain ⟨g1, g2, H⟩ := H
    obtain ⟨H1, H2⟩ := H
    refine r_icmp_ne h 74 g1 g2 (by decide) (by decide +kernel : decode cX12_tests 67 = .ok (.if_icmp .ne 7, 3)) (fun hc => ?_) (fun hc => ?_)
    · have H := H1 hc
      refine r_iconst h (v := 0) (by decide +kernel : decode cX12_tests 74 = .ok (.iconst 0, 1)) ?_
      refine r_istoren h (q := 2) (L' := [(2, vi 0), (0, vr 1), (1, vi x1)]) (by decide) rfl (by decide +kernel : decode cX12_tests 75 = .ok (.istore_n 2, 1)) ?_
      refine r_drop h [1, 2, 0] rfl ?_
      exact H
    · have H := H2 hc
      refine r_iconst h (v := 1) (by decide +kernel : decode cX12_tests 70 = .ok (.iconst 1, 1)) ?_
      refine r_goto h 75 (by decide) (by decide +kernel : decode cX12_tests 71 = .ok (.goto 4, 3)) ?_
      refine r_istoren h (q := 2) (L' := [(2, vi 1), (0, vr 1), (1, vi x1)]) (by decide) rfl (by decide +kernel : decode cX12_tests 75 = .ok (.istore_n 2, 1)) ?_
      refine r_drop h [1, 2, 0] rfl ?_
      exact H
set_option maxHeartbeats 4000000 in
set_option maxRecDepth 100000 in
theorem w_Mod_tests_76 {P : Mm → Prop} {K : Nat → Rr → Nat → List (Nat × AV) → List AV → Mm → Prop} (h : EK shM yX12_tests cX12_tests 3 none 2 NM NM (QV RRM P) K) (x1 : Int) (x2 : Int) (M : Mm)
    (H : (0 ≤ x1 ∧ x1 < 7) ∧ (rng (M 17 x1.toNat)) ∧ ((M 17 x1.toNat) ≠ 26 → (K NM RRM 106 [(0, vr 1), (1, vi x1), (2, vi x2)] [] M)) ∧ ((M 17 x1.toNat) = 26 → ((0 ≤ x1 ∧ x1 < 7) ∧ (rng (M 16 x1.toNat)) ∧ ((M 16 x1.toNat) = 0 → (K NM RRM 106 [(0, vr 1), (1, vi x1), (2, vi 0)] [] M)) ∧ ((M 16 x1.toNat) ≠ 0 → ((rng x2) ∧ (x2 = 0 → (K NM RRM 106 [(0, vr 1), (1, vi x1), (2, vi 0)] [] M)) ∧ (x2 ≠ 0 → (K NM RRM 106 [(0, vr 1), (1, vi x1), (2, vi 1)] [] M))))))) :
    K NM RRM 76 [(0, vr 1), (1, vi x1), (2, vi x2)] [] M := by
  refine r_aloadn h (q := 0) 0 rfl (by decide +kernel : decode cX12_tests 76 = .ok (.aload_n 0, 1)) ?_
  refine r_getR h (r := 17) f_Mod_57 at1M rfl (by decide) (by decide +kernel : decode cX12_tests 77 = .ok (.getfield 57, 3)) ?_
  refine r_iloadn h (q := 1) 1 rfl (by decide +kernel : decode cX12_tests 80 = .ok (.iload_n 1, 1)) ?_
  obtain ⟨g1, H⟩ := H
  refine r_iald h x1.toNat rfl atM_17 g1 (by decide) (by decide +kernel : decode cX12_tests 81 = .ok (.iaload, 1)) ?_
  refine r_bipush h (v := 26) (by decide) (by decide +kernel : decode cX12_tests 82 = .ok (.bipush 26, 2)) ?_
  obtain ⟨g1, H⟩ := H
  obtain ⟨H1, H2⟩ := H
  refine r_icmp_ne h 106 g1 (by decide) (by decide) (by decide +kernel : decode cX12_tests 84 = .ok (.if_icmp .ne 22, 3)) (fun hc => ?_) (fun hc => ?_)
  · have H := H1 hc
    exact H
  · have H := H2 hc
    refine r_aloadn h (q := 0) 0 rfl (by decide +kernel : decode cX12_tests 87 = .ok (.aload_n 0, 1)) ?_
    refine r_getR h (r := 16) f_Mod_54 at1M rfl (by decide) (by decide +kernel : decode cX12_tests 88 = .ok (.getfield 54, 3)) ?_
    refine r_iloadn h (q := 1) 1 rfl (by decide +kernel : decode cX12_tests 91 = .ok (.iload_n 1, 1)) ?_
    obtain ⟨g1, H⟩ := H
    refine r_iald h x1.toNat rfl atM_16 g1 (by decide) (by decide +kernel : decode cX12_tests 92 = .ok (.iaload, 1)) ?_
    obtain ⟨g1, H⟩ := H
    obtain ⟨H1, H2⟩ := H
    refine r_if_eq h 104 g1 (by decide) (by decide +kernel : decode cX12_tests 93 = .ok (.ifCond .eq 11, 3)) (fun hc => ?_) (fun hc => ?_)
    · have H := H1 hc
      refine r_iconst h (v := 0) (by decide +kernel : decode cX12_tests 104 = .ok (.iconst 0, 1)) ?_
      refine r_istoren h (q := 2) (L' := [(2, vi 0), (0, vr 1), (1, vi x1)]) (by decide) rfl (by decide +kernel : decode cX12_tests 105 = .ok (.istore_n 2, 1)) ?_
      refine r_drop h [1, 2, 0] rfl ?_
      exact H
    · have H := H2 hc
      refine r_iloadn h (q := 2) 2 rfl (by decide +kernel : decode cX12_tests 96 = .ok (.iload_n 2, 1)) ?_
      obtain ⟨g1, H⟩ := H
      obtain ⟨H1, H2⟩ := H
      refine r_if_eq h 104 g1 (by decide) (by decide +kernel : decode cX12_tests 97 = .ok (.ifCond .eq 7, 3)) (fun hc => ?_) (fun hc => ?_)
      · have H := H1 hc
        refine r_iconst h (v := 0) (by decide +kernel : decode cX12_tests 104 = .ok (.iconst 0, 1)) ?_
        refine r_istoren h (q := 2) (L' := [(2, vi 0), (0, vr 1), (1, vi x1)]) (by decide) rfl (by decide +kernel : decode cX12_tests 105 = .ok (.istore_n 2, 1)) ?_
        refine r_drop h [1, 2, 0] rfl ?_
        exact H
      · have H := H2 hc
        refine r_iconst h (v := 1) (by decide +kernel : decode cX12_tests 100 = .ok (.iconst 1, 1)) ?_
        refine r_goto h 105 (by decide) (by decide +kernel : decode cX12_tests 101 = .ok (.goto 4, 3)) ?_
        refine r_istoren h (q := 2) (L' := [(2, vi 1), (0, vr 1), (1, vi x1)]) (by decide) rfl (by decide +kernel : decode cX12_tests 105 = .ok (.istore_n 2, 1)) ?_
        refine r_drop h [1, 2, 0] rfl ?_
        exact H
set_option maxHeartbeats 4000000 in
set_option maxRecDepth 100000 in
theorem w_Mod_tests_106 {P : Mm → Prop} {K : Nat → Rr → Nat → List (Nat × AV) → List AV → Mm → Prop} (h : EK shM yX12_tests cX12_tests 3 none 2 NM NM (QV RRM P) K) (x1 : Int) (x2 : Int) (M : Mm)
    (H : (0 ≤ x1 ∧ x1 < 7) ∧ (rng (M 17 x1.toNat)) ∧ ((M 17 x1.toNat) ≠ 27 → (K NM RRM 136 [(0, vr 1), (1, vi x1), (2, vi x2)] [] M)) ∧ ((M 17 x1.toNat) = 27 → ((0 ≤ x1 ∧ x1 < 7) ∧ (rng (M 16 x1.toNat)) ∧ ((M 16 x1.toNat) ≠ 0 → (K NM RRM 136 [(0, vr 1), (1, vi x1), (2, vi 1)] [] M)) ∧ ((M 16 x1.toNat) = 0 → ((rng x2) ∧ (x2 = 0 → (K NM RRM 136 [(0, vr 1), (1, vi x1), (2, vi 0)] [] M)) ∧ (x2 ≠ 0 → (K NM RRM 136 [(0, vr 1), (1, vi x1), (2, vi 1)] [] M))))))) :
    K NM RRM 106 [(0, vr 1), (1, vi x1), (2, vi x2)] [] M := by
  refine r_aloadn h (q := 0) 0 rfl (by decide +kernel : decode cX12_tests 106 = .ok (.aload_n 0, 1)) ?_
  refine r_getR h (r := 17) f_Mod_57 at1M rfl (by decide) (by decide +kernel : decode cX12_tests 107 = .ok (.getfield 57, 3)) ?_
  refine r_iloadn h (q := 1) 1 rfl (by decide +kernel : decode cX12_tests 110 = .ok (.iload_n 1, 1)) ?_
  obtain ⟨g1, H⟩ := H
  refine r_iald h x1.toNat rfl atM_17 g1 (by decide) (by decide +kernel : decode cX12_tests 111 = .ok (.iaload, 1)) ?_
  refine r_bipush h (v := 27) (by decide) (by decide +kernel : decode cX12_tests 112 = .ok (.bipush 27, 2)) ?_
  obtain ⟨g1, H⟩ := H
  obtain ⟨H1, H2⟩ := H
  refine r_icmp_ne h 136 g1 (by decide) (by decide) (by decide +kernel : decode cX12_tests 114 = .ok (.if_icmp .ne 22, 3)) (fun hc => ?_) (fun hc => ?_)
  · have H := H1 hc
    exact H
  · have H := H2 hc
    refine r_aloadn h (q := 0) 0 rfl (by decide +kernel : decode cX12_tests 117 = .ok (.aload_n 0, 1)) ?_
    refine r_getR h (r := 16) f_Mod_54 at1M rfl (by decide) (by decide +kernel : decode cX12_tests 118 = .ok (.getfield 54, 3)) ?_
    refine r_iloadn h (q := 1) 1 rfl (by decide +kernel : decode cX12_tests 121 = .ok (.iload_n 1, 1)) ?_
    obtain ⟨g1, H⟩ := H
    refine r_iald h x1.toNat rfl atM_16 g1 (by decide) (by decide +kernel : decode cX12_tests 122 = .ok (.iaload, 1)) ?_
    obtain ⟨g1, H⟩ := H
    obtain ⟨H1, H2⟩ := H
    refine r_if_ne h 130 g1 (by decide) (by decide +kernel : decode cX12_tests 123 = .ok (.ifCond .ne 7, 3)) (fun hc => ?_) (fun hc => ?_)
    · have H := H1 hc
      refine r_iconst h (v := 1) (by decide +kernel : decode cX12_tests 130 = .ok (.iconst 1, 1)) ?_
      refine r_goto h 135 (by decide) (by decide +kernel : decode cX12_tests 131 = .ok (.goto 4, 3)) ?_
      refine r_istoren h (q := 2) (L' := [(2, vi 1), (0, vr 1), (1, vi x1)]) (by decide) rfl (by decide +kernel : decode cX12_tests 135 = .ok (.istore_n 2, 1)) ?_
      refine r_drop h [1, 2, 0] rfl ?_
      exact H
    · have H := H2 hc
      refine r_iloadn h (q := 2) 2 rfl (by decide +kernel : decode cX12_tests 126 = .ok (.iload_n 2, 1)) ?_
      obtain ⟨g1, H⟩ := H
      obtain ⟨H1, H2⟩ := H
      refine r_if_eq h 134 g1 (by decide) (by decide +kernel : decode cX12_tests 127 = .ok (.ifCond .eq 7, 3)) (fun hc => ?_) (fun hc => ?_)
      · have H := H1 hc
        refine r_iconst h (v := 0) (by decide +kernel : decode cX12_tests 134 = .ok (.iconst 0, 1)) ?_
        refine r_istoren h (q := 2) (L' := [(2, vi 0), (0, vr 1), (1, vi x1)]) (by decide) rfl (by decide +kernel : decode cX12_tests 135 = .ok (.istore_n 2, 1)) ?_
        refine r_drop h [1, 2, 0] rfl ?_
        exact H
      · have H := H2 hc
        refine r_iconst h (v := 1) (by decide +kernel : decode cX12_tests 130 = .ok (.iconst 1, 1)) ?_
        refine r_goto h 135 (by decide) (by decide +kernel : decode cX12_tests 131 = .ok (.goto 4, 3)) ?_
        refine r_istoren h (q := 2) (L' := [(2, vi 1), (0, vr 1), (1, vi x1)]) (by decide) rfl (by decide +kernel : decode cX12_tests 135 = .ok (.istore_n 2, 1)) ?_
        refine r_drop h [1, 2, 0] rfl ?_
        exact H
set_option maxHeartbeats 4000000 in
set_option maxRecDepth 100000 in
theorem w_Mod_tests_136 {P : Mm → Prop} {K : Nat → Rr → Nat → List (Nat × AV) → List AV → Mm → Prop} (h : EK shM yX12_tests cX12_tests 3 none 2 NM NM (QV RRM P) K) (x1 : Int) (x2 : Int) (M : Mm)
    (H : (0 ≤ x1 ∧ x1 < 7) ∧ ∀ M1 : Mm, M1 = (upr M 16 (up1 (M 16) x1.toNat x2)) → (0 ≤ x1 ∧ x1 < 7) ∧ ∀ M2 : Mm, M2 = (upr M1 19 (up1 (M1 19) x1.toNat 0)) → (0 ≤ x1 ∧ x1 < 7) ∧ ∀ M3 : Mm, M3 = (upr M2 20 (up1 (M2 20) x1.toNat 0)) → (0 ≤ x1 ∧ x1 < 7) ∧ ∀ M4 : Mm, M4 = (upr M3 21 (up1 (M3 21) x1.toNat 20)) → P M4) :
    K NM RRM 136 [(0, vr 1), (1, vi x1), (2, vi x2)] [] M := by
  refine r_aloadn h (q := 0) 0 rfl (by decide +kernel : decode cX12_tests 136 = .ok (.aload_n 0, 1)) ?_
  refine r_getR h (r := 16) f_Mod_54 at1M rfl (by decide) (by decide +kernel : decode cX12_tests 137 = .ok (.getfield 54, 3)) ?_
  refine r_iloadn h (q := 1) 1 rfl (by decide +kernel : decode cX12_tests 140 = .ok (.iload_n 1, 1)) ?_
  refine r_iloadn h (q := 2) 2 rfl (by decide +kernel : decode cX12_tests 141 = .ok (.iload_n 2, 1)) ?_
  obtain ⟨g1, H⟩ := H
  refine r_iast h x1.toNat rfl atM_16 g1 (by decide) (by decide +kernel : decode cX12_tests 142 = .ok (.iastore, 1)) ?_
  have H := H _ rfl
  revert H
  generalize (upr M 16 (up1 (M 16) x1.toNat x2)) = M1
  intro H
  refine r_aloadn h (q := 0) 0 rfl (by decide +kernel : decode cX12_tests 143 = .ok (.aload_n 0, 1)) ?_
  refine r_getR h (r := 19) f_Mod_63 at1M rfl (by decide) (by decide +kernel : decode cX12_tests 144 = .ok (.getfield 63, 3)) ?_
  refine r_iloadn h (q := 1) 1 rfl (by decide +kernel : decode cX12_tests 147 = .ok (.iload_n 1, 1)) ?_
  refine r_iconst h (v := 0) (by decide +kernel : decode cX12_tests 148 = .ok (.iconst 0, 1)) ?_
  obtain ⟨g1, H⟩ := H
  refine r_iast h x1.toNat rfl atM_19 g1 (by decide) (by decide +kernel : decode cX12_tests 149 = .ok (.iastore, 1)) ?_
  have H := H _ rfl
  revert H
  generalize (upr M1 19 (up1 (M1 19) x1.toNat 0)) = M2
  intro H
  refine r_aloadn h (q := 0) 0 rfl (by decide +kernel : decode cX12_tests 150 = .ok (.aload_n 0, 1)) ?_
  refine r_getR h (r := 20) f_Mod_66 at1M rfl (by decide) (by decide +kernel : decode cX12_tests 151 = .ok (.getfield 66, 3)) ?_
  refine r_iloadn h (q := 1) 1 rfl (by decide +kernel : decode cX12_tests 154 = .ok (.iload_n 1, 1)) ?_
  refine r_iconst h (v := 0) (by decide +kernel : decode cX12_tests 155 = .ok (.iconst 0, 1)) ?_
  obtain ⟨g1, H⟩ := H
  refine r_iast h x1.toNat rfl atM_20 g1 (by decide) (by decide +kernel : decode cX12_tests 156 = .ok (.iastore, 1)) ?_
  have H := H _ rfl
  revert H
  generalize (upr M2 20 (up1 (M2 20) x1.toNat 0)) = M3
  intro H
  refine r_aloadn h (q := 0) 0 rfl (by decide +kernel : decode cX12_tests 157 = .ok (.aload_n 0, 1)) ?_
  refine r_getR h (r := 21) f_Mod_69 at1M rfl (by decide) (by decide +kernel : decode cX12_tests 158 = .ok (.getfield 69, 3)) ?_
  refine r_iloadn h (q := 1) 1 rfl (by decide +kernel : decode cX12_tests 161 = .ok (.iload_n 1, 1)) ?_
  refine r_bipush h (v := 20) (by decide) (by decide +kernel : decode cX12_tests 162 = .ok (.bipush 20, 2)) ?_
  obtain ⟨g1, H⟩ := H
  refine r_iast h x1.toNat rfl atM_21 g1 (by decide) (by decide +kernel : decode cX12_tests 164 = .ok (.iastore, 1)) ?_
  have H := H _ rfl
  revert H
  generalize (upr M3 21 (up1 (M3 21) x1.toNat 20)) = M4
  intro H
  exact r_vret h rfl (by decide +kernel : decode cX12_tests 165 = .ok (.return_, 1)) rfl ⟨rfl, rfl, H⟩
set_option maxHeartbeats 4000000 in
set_option maxRecDepth 100000 in
theorem w_Mod_needsHouse_0 {P : Int → Mm → Prop} {K : Nat → Rr → Nat → List (Nat × AV) → List AV → Mm → Prop} (h : EK shM yX12_needsHouse cX12_needsHouse 2 (some .boolean) 2 NM NM (QI RRM P) K) (x1 : Int) (M : Mm)
    (H : ∃ P1 : Int → Mm → Prop, S_Mod_isKept  M P1 ∧ ∀ (r1 : Int) (M1 : Mm), P1 r1 M1 → (rng r1) ∧ (r1 = 0 → (∃ P2 : Int → Mm → Prop, S_Mod_houseNamed x1 M1 P2 ∧ ∀ (r2 : Int) (M2 : Mm), P2 r2 M2 → ∀ M3 : Mm, M3 = (upr M2 1 (up1 (M2 1) 36 r2)) → (rng (M3 1 36)) ∧ (0 ≤ (M3 1 36) → (P 1 M3)) ∧ (¬ (0 ≤ (M3 1 36)) → (∃ P4 : Int → Mm → Prop, S_Mod_fails 2 M3 P4 ∧ ∀ (r3 : Int) (M4 : Mm), P4 r3 M4 → (rng r3) ∧ (r3 = 0 → (P 0 M4)) ∧ (r3 ≠ 0 → (P 1 M4)))))) ∧ (r1 ≠ 0 → (∃ P5 : Int → Mm → Prop, S_Mod_fails 1 M1 P5 ∧ ∀ (r4 : Int) (M5 : Mm), P5 r4 M5 → (r4 = 0 ∨ r4 = 1) ∧ P r4 M5))) :
    K NM RRM 0 [(0, vr 1), (1, vi x1)] [] M := by
  refine r_aloadn h (q := 0) 0 rfl (by decide +kernel : decode cX12_needsHouse 0 = .ok (.aload_n 0, 1)) ?_
  obtain ⟨P1, hSP1, H⟩ := H
  refine r_callV h (as := []) (S := []) (b := 1) m_Mod_286 hSP1 (by decide) (Nat.le_refl _) rfl at1M rfl (Nat.le_of_ble_eq_true rfl) (by decide +kernel : decode cX12_needsHouse 1 = .ok (.invokevirtual 286, 3)) ?_
  rintro _ _ M1 ⟨rfl, r1, rfl, hP⟩
  have H := H r1 M1 hP
  show K NM RRM _ _ [vi r1] _
  obtain ⟨g1, H⟩ := H
  obtain ⟨H1, H2⟩ := H
  refine r_if_eq h 13 g1 (by decide) (by decide +kernel : decode cX12_needsHouse 4 = .ok (.ifCond .eq 9, 3)) (fun hc => ?_) (fun hc => ?_)
  · have H := H1 hc
    refine r_aloadn h (q := 0) 0 rfl (by decide +kernel : decode cX12_needsHouse 13 = .ok (.aload_n 0, 1)) ?_
    refine r_aloadn h (q := 0) 0 rfl (by decide +kernel : decode cX12_needsHouse 14 = .ok (.aload_n 0, 1)) ?_
    refine r_iloadn h (q := 1) 1 rfl (by decide +kernel : decode cX12_needsHouse 15 = .ok (.iload_n 1, 1)) ?_
    obtain ⟨P2, hSP2, H⟩ := H
    refine r_callV h (as := [vi x1]) (S := [vr 1]) (b := 1) m_Mod_290 hSP2 (by decide) (Nat.le_refl _) rfl at1M rfl (Nat.le_of_ble_eq_true rfl) (by decide +kernel : decode cX12_needsHouse 16 = .ok (.invokevirtual 290, 3)) ?_
    rintro _ _ M2 ⟨rfl, r2, rfl, hP⟩
    have H := H r2 M2 hP
    show K NM RRM _ _ [vi r2, vr 1] _
    refine r_putI h f_Mod_279 at1M rfl rfl (by decide +kernel : decode cX12_needsHouse 19 = .ok (.putfield 279, 3)) ?_
    have H := H _ rfl
    revert H
    generalize (upr M2 1 (up1 (M2 1) 36 r2)) = M3
    intro H
    refine r_aloadn h (q := 0) 0 rfl (by decide +kernel : decode cX12_needsHouse 22 = .ok (.aload_n 0, 1)) ?_
    refine r_getI h f_Mod_279 at1M (by decide +kernel : decode cX12_needsHouse 23 = .ok (.getfield 279, 3)) ?_
    obtain ⟨g1, H⟩ := H
    obtain ⟨H1, H2⟩ := H
    refine r_if_ge h 37 g1 (by decide) (by decide +kernel : decode cX12_needsHouse 26 = .ok (.ifCond .ge 11, 3)) (fun hc => ?_) (fun hc => ?_)
    · have H := H1 hc
      refine r_iconst h (v := 1) (by decide +kernel : decode cX12_needsHouse 37 = .ok (.iconst 1, 1)) ?_
      refine r_goto h 42 (by decide) (by decide +kernel : decode cX12_needsHouse 38 = .ok (.goto 4, 3)) ?_
      exact r_zret h rfl (by decide) (by decide +kernel : decode cX12_needsHouse 42 = .ok (.ireturn, 1)) rfl ⟨rfl, _, rfl, H⟩
    · have H := H2 hc
      refine r_aloadn h (q := 0) 0 rfl (by decide +kernel : decode cX12_needsHouse 29 = .ok (.aload_n 0, 1)) ?_
      refine r_iconst h (v := 2) (by decide +kernel : decode cX12_needsHouse 30 = .ok (.iconst 2, 1)) ?_
      obtain ⟨P4, hSP4, H⟩ := H
      refine r_callV h (as := [vi 2]) (S := []) (b := 1) m_Mod_216 hSP4 (by decide) (Nat.le_refl _) rfl at1M rfl (Nat.le_of_ble_eq_true rfl) (by decide +kernel : decode cX12_needsHouse 31 = .ok (.invokevirtual 216, 3)) ?_
      rintro _ _ M4 ⟨rfl, r3, rfl, hP⟩
      have H := H r3 M4 hP
      show K NM RRM _ _ [vi r3] _
      obtain ⟨g1, H⟩ := H
      obtain ⟨H1, H2⟩ := H
      refine r_if_eq h 41 g1 (by decide) (by decide +kernel : decode cX12_needsHouse 34 = .ok (.ifCond .eq 7, 3)) (fun hc => ?_) (fun hc => ?_)
      · have H := H1 hc
        refine r_iconst h (v := 0) (by decide +kernel : decode cX12_needsHouse 41 = .ok (.iconst 0, 1)) ?_
        exact r_zret h rfl (by decide) (by decide +kernel : decode cX12_needsHouse 42 = .ok (.ireturn, 1)) rfl ⟨rfl, _, rfl, H⟩
      · have H := H2 hc
        refine r_iconst h (v := 1) (by decide +kernel : decode cX12_needsHouse 37 = .ok (.iconst 1, 1)) ?_
        refine r_goto h 42 (by decide) (by decide +kernel : decode cX12_needsHouse 38 = .ok (.goto 4, 3)) ?_
        exact r_zret h rfl (by decide) (by decide +kernel : decode cX12_needsHouse 42 = .ok (.ireturn, 1)) rfl ⟨rfl, _, rfl, H⟩
  · have H := H2 hc
    refine r_aloadn h (q := 0) 0 rfl (by decide +kernel : decode cX12_needsHouse 7 = .ok (.aload_n 0, 1)) ?_
    refine r_iconst h (v := 1) (by decide +kernel : decode cX12_needsHouse 8 = .ok (.iconst 1, 1)) ?_
    obtain ⟨P5, hSP5, H⟩ := H
    refine r_callV h (as := [vi 1]) (S := []) (b := 1) m_Mod_216 hSP5 (by decide) (Nat.le_refl _) rfl at1M rfl (Nat.le_of_ble_eq_true rfl) (by decide +kernel : decode cX12_needsHouse 9 = .ok (.invokevirtual 216, 3)) ?_
    rintro _ _ M5 ⟨rfl, r4, rfl, hP⟩
    have H := H r4 M5 hP
    show K NM RRM _ _ [vi r4] _
    exact r_zret h rfl H.1 (by decide +kernel : decode cX12_needsHouse 12 = .ok (.ireturn, 1)) rfl ⟨rfl, _, rfl, H.2⟩
theorem W_Mod_needsHouse (x1 : Int) (M : Mm) {P : Int → Mm → Prop} (H : ∃ P1 : Int → Mm → Prop, S_Mod_isKept  M P1 ∧ ∀ (r1 : Int) (M1 : Mm), P1 r1 M1 → (rng r1) ∧ (r1 = 0 → (∃ P2 : Int → Mm → Prop, S_Mod_houseNamed x1 M1 P2 ∧ ∀ (r2 : Int) (M2 : Mm), P2 r2 M2 → ∀ M3 : Mm, M3 = (upr M2 1 (up1 (M2 1) 36 r2)) → (rng (M3 1 36)) ∧ (0 ≤ (M3 1 36) → (P 1 M3)) ∧ (¬ (0 ≤ (M3 1 36)) → (∃ P4 : Int → Mm → Prop, S_Mod_fails 2 M3 P4 ∧ ∀ (r3 : Int) (M4 : Mm), P4 r3 M4 → (rng r3) ∧ (r3 = 0 → (P 0 M4)) ∧ (r3 ≠ 0 → (P 1 M4)))))) ∧ (r1 ≠ 0 → (∃ P5 : Int → Mm → Prop, S_Mod_fails 1 M1 P5 ∧ ∀ (r4 : Int) (M5 : Mm), P5 r4 M5 → (r4 = 0 ∨ r4 = 1) ∧ P r4 M5))) : S_Mod_needsHouse x1 M P := e_Mod_needsHouse x1 M (fun _ h => w_Mod_needsHouse_0 h x1 M H)
set_option maxHeartbeats 4000000 in
set_option maxRecDepth 100000 in
theorem w_Mod_lays_0 {P : Mm → Prop} {K : Nat → Rr → Nat → List (Nat × AV) → List AV → Mm → Prop} (h : EK shM yX12_lays cX12_lays 2 none 2 NM NM (QV RRM P) K)  (M : Mm)
    (H : ∃ P1 : Mm → Prop, S_Mod_shifts 3 8 4 M P1 ∧ ∀ M1 : Mm, P1 M1 → K NM RRM 10 [(0, vr 1), (1, vi 0)] [] M1) :
    K NM RRM 0 [(0, vr 1)] [] M := by
  refine r_aloadn h (q := 0) 0 rfl (by decide +kernel : decode cX12_lays 0 = .ok (.aload_n 0, 1)) ?_
  refine r_getR h (r := 3) f_Mod_13 at1M rfl (by decide) (by decide +kernel : decode cX12_lays 1 = .ok (.getfield 13, 3)) ?_
  refine r_iconst h (v := 4) (by decide +kernel : decode cX12_lays 4 = .ok (.iconst 4, 1)) ?_
  obtain ⟨P1, hSP1, H⟩ := H
  refine r_callS h (as := [vr 3, vi 4]) (S := []) m_Mod_330 hSP1 (by decide) (Nat.le_refl _) rfl rfl (Nat.le_of_ble_eq_true rfl) (by decide +kernel : decode cX12_lays 5 = .ok (.invokestatic 330, 3)) ?_
  rintro _ _ M1 ⟨rfl, rfl, hP⟩
  have H := H M1 hP
  show K NM RRM _ _ [] _
  refine r_iconst h (v := 0) (by decide +kernel : decode cX12_lays 8 = .ok (.iconst 0, 1)) ?_
  refine r_istoren h (q := 1) (L' := [(1, vi 0), (0, vr 1)]) (by decide) rfl (by decide +kernel : decode cX12_lays 9 = .ok (.istore_n 1, 1)) ?_
  refine r_drop h [1, 0] rfl ?_
  exact H
set_option maxHeartbeats 4000000 in
set_option maxRecDepth 100000 in
theorem w_Mod_lays_10 {P : Mm → Prop} {K : Nat → Rr → Nat → List (Nat × AV) → List AV → Mm → Prop} (h : EK shM yX12_lays cX12_lays 2 none 2 NM NM (QV RRM P) K) (x1 : Int) (M : Mm)
    (H : (rng x1) ∧ (7 ≤ x1 → (∃ P1 : Mm → Prop, S_Mod_shifts 5 14 7 M P1 ∧ ∀ M1 : Mm, P1 M1 → ∃ P2 : Mm → Prop, S_Mod_shifts 6 14 7 M1 P2 ∧ ∀ M2 : Mm, P2 M2 → ∃ P3 : Mm → Prop, S_Mod_shifts 7 14 7 M2 P3 ∧ ∀ M3 : Mm, P3 M3 → ∃ P4 : Mm → Prop, S_Mod_shifts 8 14 7 M3 P4 ∧ ∀ M4 : Mm, P4 M4 → ∃ P5 : Mm → Prop, S_Mod_shifts 9 14 7 M4 P5 ∧ ∀ M5 : Mm, P5 M5 → ∃ P6 : Mm → Prop, S_Mod_shifts 10 24 12 M5 P6 ∧ ∀ M6 : Mm, P6 M6 → ∃ P7 : Mm → Prop, S_Mod_shifts 13 2000 1000 M6 P7 ∧ ∀ M7 : Mm, P7 M7 → K NM RRM 103 [(0, vr 1), (1, vi 0)] [] M7)) ∧ (¬ (7 ≤ x1) → ((0 ≤ (7 + x1) ∧ (7 + x1) < 14) ∧ (0 ≤ x1 ∧ x1 < 14) ∧ ∀ M8 : Mm, M8 = (upr M 4 (up1 (M 4) x1.toNat (M 4 (7 + x1).toNat))) → K NM RRM 10 [(0, vr 1), (1, vi (x1 + 1))] [] M8))) :
    K NM RRM 10 [(0, vr 1), (1, vi x1)] [] M := by
  refine r_iloadn h (q := 1) 1 rfl (by decide +kernel : decode cX12_lays 10 = .ok (.iload_n 1, 1)) ?_
  refine r_bipush h (v := 7) (by decide) (by decide +kernel : decode cX12_lays 11 = .ok (.bipush 7, 2)) ?_
  obtain ⟨g1, H⟩ := H
  obtain ⟨H1, H2⟩ := H
  refine r_icmp_ge h 37 g1 (by decide) (by decide) (by decide +kernel : decode cX12_lays 13 = .ok (.if_icmp .ge 24, 3)) (fun hc => ?_) (fun hc => ?_)
  · have H := H1 hc
    refine r_aloadn h (q := 0) 0 rfl (by decide +kernel : decode cX12_lays 37 = .ok (.aload_n 0, 1)) ?_
    refine r_getR h (r := 5) f_Mod_20 at1M rfl (by decide) (by decide +kernel : decode cX12_lays 38 = .ok (.getfield 20, 3)) ?_
    refine r_bipush h (v := 7) (by decide) (by decide +kernel : decode cX12_lays 41 = .ok (.bipush 7, 2)) ?_
    obtain ⟨P1, hSP1, H⟩ := H
    refine r_callS h (as := [vr 5, vi 7]) (S := []) m_Mod_330 hSP1 (by decide) (Nat.le_refl _) rfl rfl (Nat.le_of_ble_eq_true rfl) (by decide +kernel : decode cX12_lays 43 = .ok (.invokestatic 330, 3)) ?_
    rintro _ _ M1 ⟨rfl, rfl, hP⟩
    have H := H M1 hP
    show K NM RRM _ _ [] _
    refine r_aloadn h (q := 0) 0 rfl (by decide +kernel : decode cX12_lays 46 = .ok (.aload_n 0, 1)) ?_
    refine r_getR h (r := 6) f_Mod_23 at1M rfl (by decide) (by decide +kernel : decode cX12_lays 47 = .ok (.getfield 23, 3)) ?_
    refine r_bipush h (v := 7) (by decide) (by decide +kernel : decode cX12_lays 50 = .ok (.bipush 7, 2)) ?_
    obtain ⟨P2, hSP2, H⟩ := H
    refine r_callS h (as := [vr 6, vi 7]) (S := []) m_Mod_330 hSP2 (by decide) (Nat.le_refl _) rfl rfl (Nat.le_of_ble_eq_true rfl) (by decide +kernel : decode cX12_lays 52 = .ok (.invokestatic 330, 3)) ?_
    rintro _ _ M2 ⟨rfl, rfl, hP⟩
    have H := H M2 hP
    show K NM RRM _ _ [] _
    refine r_aloadn h (q := 0) 0 rfl (by decide +kernel : decode cX12_lays 55 = .ok (.aload_n 0, 1)) ?_
    refine r_getR h (r := 7) f_Mod_26 at1M rfl (by decide) (by decide +kernel : decode cX12_lays 56 = .ok (.getfield 26, 3)) ?_
    refine r_bipush h (v := 7) (by decide) (by decide +kernel : decode cX12_lays 59 = .ok (.bipush 7, 2)) ?_
    obtain ⟨P3, hSP3, H⟩ := H
    refine r_callS h (as := [vr 7, vi 7]) (S := []) m_Mod_330 hSP3 (by decide) (Nat.le_refl _) rfl rfl (Nat.le_of_ble_eq_true rfl) (by decide +kernel : decode cX12_lays 61 = .ok (.invokestatic 330, 3)) ?_
    rintro _ _ M3 ⟨rfl, rfl, hP⟩
    have H := H M3 hP
    show K NM RRM _ _ [] _
    refine r_aloadn h (q := 0) 0 rfl (by decide +kernel : decode cX12_lays 64 = .ok (.aload_n 0, 1)) ?_
    refine r_getR h (r := 8) f_Mod_29 at1M rfl (by decide) (by decide +kernel : decode cX12_lays 65 = .ok (.getfield 29, 3)) ?_
    refine r_bipush h (v := 7) (by decide) (by decide +kernel : decode cX12_lays 68 = .ok (.bipush 7, 2)) ?_
    obtain ⟨P4, hSP4, H⟩ := H
    refine r_callS h (as := [vr 8, vi 7]) (S := []) m_Mod_330 hSP4 (by decide) (Nat.le_refl _) rfl rfl (Nat.le_of_ble_eq_true rfl) (by decide +kernel : decode cX12_lays 70 = .ok (.invokestatic 330, 3)) ?_
    rintro _ _ M4 ⟨rfl, rfl, hP⟩
    have H := H M4 hP
    show K NM RRM _ _ [] _
    refine r_aloadn h (q := 0) 0 rfl (by decide +kernel : decode cX12_lays 73 = .ok (.aload_n 0, 1)) ?_
    refine r_getR h (r := 9) f_Mod_32 at1M rfl (by decide) (by decide +kernel : decode cX12_lays 74 = .ok (.getfield 32, 3)) ?_
    refine r_bipush h (v := 7) (by decide) (by decide +kernel : decode cX12_lays 77 = .ok (.bipush 7, 2)) ?_
    obtain ⟨P5, hSP5, H⟩ := H
    refine r_callS h (as := [vr 9, vi 7]) (S := []) m_Mod_330 hSP5 (by decide) (Nat.le_refl _) rfl rfl (Nat.le_of_ble_eq_true rfl) (by decide +kernel : decode cX12_lays 79 = .ok (.invokestatic 330, 3)) ?_
    rintro _ _ M5 ⟨rfl, rfl, hP⟩
    have H := H M5 hP
    show K NM RRM _ _ [] _
    refine r_aloadn h (q := 0) 0 rfl (by decide +kernel : decode cX12_lays 82 = .ok (.aload_n 0, 1)) ?_
    refine r_getR h (r := 10) f_Mod_35 at1M rfl (by decide) (by decide +kernel : decode cX12_lays 83 = .ok (.getfield 35, 3)) ?_
    refine r_bipush h (v := 12) (by decide) (by decide +kernel : decode cX12_lays 86 = .ok (.bipush 12, 2)) ?_
    obtain ⟨P6, hSP6, H⟩ := H
    refine r_callS h (as := [vr 10, vi 12]) (S := []) m_Mod_330 hSP6 (by decide) (Nat.le_refl _) rfl rfl (Nat.le_of_ble_eq_true rfl) (by decide +kernel : decode cX12_lays 88 = .ok (.invokestatic 330, 3)) ?_
    rintro _ _ M6 ⟨rfl, rfl, hP⟩
    have H := H M6 hP
    show K NM RRM _ _ [] _
    refine r_aloadn h (q := 0) 0 rfl (by decide +kernel : decode cX12_lays 91 = .ok (.aload_n 0, 1)) ?_
    refine r_getR h (r := 13) f_Mod_44 at1M rfl (by decide) (by decide +kernel : decode cX12_lays 92 = .ok (.getfield 44, 3)) ?_
    refine r_sipush h (v := 1000) (by decide) (by decide +kernel : decode cX12_lays 95 = .ok (.sipush 1000, 3)) ?_
    obtain ⟨P7, hSP7, H⟩ := H
    refine r_callS h (as := [vr 13, vi 1000]) (S := []) m_Mod_330 hSP7 (by decide) (Nat.le_refl _) rfl rfl (Nat.le_of_ble_eq_true rfl) (by decide +kernel : decode cX12_lays 98 = .ok (.invokestatic 330, 3)) ?_
    rintro _ _ M7 ⟨rfl, rfl, hP⟩
    have H := H M7 hP
    show K NM RRM _ _ [] _
    refine r_iconst h (v := 0) (by decide +kernel : decode cX12_lays 101 = .ok (.iconst 0, 1)) ?_
    refine r_istoren h (q := 1) (L' := [(1, vi 0), (0, vr 1)]) (by decide) rfl (by decide +kernel : decode cX12_lays 102 = .ok (.istore_n 1, 1)) ?_
    refine r_drop h [1, 0] rfl ?_
    exact H
  · have H := H2 hc
    refine r_aloadn h (q := 0) 0 rfl (by decide +kernel : decode cX12_lays 16 = .ok (.aload_n 0, 1)) ?_
    refine r_getR h (r := 4) f_Mod_16 at1M rfl (by decide) (by decide +kernel : decode cX12_lays 17 = .ok (.getfield 16, 3)) ?_
    refine r_iloadn h (q := 1) 1 rfl (by decide +kernel : decode cX12_lays 20 = .ok (.iload_n 1, 1)) ?_
    refine r_aloadn h (q := 0) 0 rfl (by decide +kernel : decode cX12_lays 21 = .ok (.aload_n 0, 1)) ?_
    refine r_getR h (r := 4) f_Mod_16 at1M rfl (by decide) (by decide +kernel : decode cX12_lays 22 = .ok (.getfield 16, 3)) ?_
    refine r_bipush h (v := 7) (by decide) (by decide +kernel : decode cX12_lays 25 = .ok (.bipush 7, 2)) ?_
    refine r_iloadn h (q := 1) 1 rfl (by decide +kernel : decode cX12_lays 27 = .ok (.iload_n 1, 1)) ?_
    refine r_iadd h (by decide +kernel : decode cX12_lays 28 = .ok (.iadd, 1)) ?_
    obtain ⟨g1, H⟩ := H
    refine r_lald h (7 + x1).toNat rfl atM_4 g1 (by decide) (by decide +kernel : decode cX12_lays 29 = .ok (.laload, 1)) ?_
    obtain ⟨g1, H⟩ := H
    refine r_last h x1.toNat rfl atM_4 g1 (by decide) (by decide +kernel : decode cX12_lays 30 = .ok (.lastore, 1)) ?_
    have H := H _ rfl
    revert H
    generalize (upr M 4 (up1 (M 4) x1.toNat (M 4 (7 + x1).toNat))) = M8
    intro H
    refine r_iinc h (i := 1) (v := 1) (L' := [(1, vi (x1 + 1)), (0, vr 1)]) 1 rfl (by decide) rfl (by decide +kernel : decode cX12_lays 31 = .ok (.iinc 1 1, 3)) ?_
    refine r_goto h 10 (by decide) (by decide +kernel : decode cX12_lays 34 = .ok (.goto (-24), 3)) ?_
    refine r_drop h [1, 0] rfl ?_
    exact H
set_option maxHeartbeats 4000000 in
set_option maxRecDepth 100000 in
theorem w_Mod_lays_103 {P : Mm → Prop} {K : Nat → Rr → Nat → List (Nat × AV) → List AV → Mm → Prop} (h : EK shM yX12_lays cX12_lays 2 none 2 NM NM (QV RRM P) K) (x1 : Int) (M : Mm)
    (H : (rng x1) ∧ (2 ≤ x1 → (P M)) ∧ (¬ (2 ≤ x1) → ((0 ≤ (2 + x1) ∧ (2 + x1) < 4) ∧ (0 ≤ x1 ∧ x1 < 4) ∧ ∀ M1 : Mm, M1 = (upr M 11 (up1 (M 11) x1.toNat ((M 11 (2 + x1).toNat) - 1000))) → (0 ≤ (2 + x1) ∧ (2 + x1) < 4) ∧ (0 ≤ x1 ∧ x1 < 4) ∧ ∀ M2 : Mm, M2 = (upr M1 12 (up1 (M1 12) x1.toNat ((M1 12 (2 + x1).toNat) - 1000))) → K NM RRM 103 [(0, vr 1), (1, vi (x1 + 1))] [] M2))) :
    K NM RRM 103 [(0, vr 1), (1, vi x1)] [] M := by
  refine r_iloadn h (q := 1) 1 rfl (by decide +kernel : decode cX12_lays 103 = .ok (.iload_n 1, 1)) ?_
  refine r_iconst h (v := 2) (by decide +kernel : decode cX12_lays 104 = .ok (.iconst 2, 1)) ?_
  obtain ⟨g1, H⟩ := H
  obtain ⟨H1, H2⟩ := H
  refine r_icmp_ge h 150 g1 (by decide) (by decide) (by decide +kernel : decode cX12_lays 105 = .ok (.if_icmp .ge 45, 3)) (fun hc => ?_) (fun hc => ?_)
  · have H := H1 hc
    exact r_vret h rfl (by decide +kernel : decode cX12_lays 150 = .ok (.return_, 1)) rfl ⟨rfl, rfl, H⟩
  · have H := H2 hc
    refine r_aloadn h (q := 0) 0 rfl (by decide +kernel : decode cX12_lays 108 = .ok (.aload_n 0, 1)) ?_
    refine r_getR h (r := 11) f_Mod_38 at1M rfl (by decide) (by decide +kernel : decode cX12_lays 109 = .ok (.getfield 38, 3)) ?_
    refine r_iloadn h (q := 1) 1 rfl (by decide +kernel : decode cX12_lays 112 = .ok (.iload_n 1, 1)) ?_
    refine r_aloadn h (q := 0) 0 rfl (by decide +kernel : decode cX12_lays 113 = .ok (.aload_n 0, 1)) ?_
    refine r_getR h (r := 11) f_Mod_38 at1M rfl (by decide) (by decide +kernel : decode cX12_lays 114 = .ok (.getfield 38, 3)) ?_
    refine r_iconst h (v := 2) (by decide +kernel : decode cX12_lays 117 = .ok (.iconst 2, 1)) ?_
    refine r_iloadn h (q := 1) 1 rfl (by decide +kernel : decode cX12_lays 118 = .ok (.iload_n 1, 1)) ?_
    refine r_iadd h (by decide +kernel : decode cX12_lays 119 = .ok (.iadd, 1)) ?_
    obtain ⟨g1, H⟩ := H
    refine r_iald h (2 + x1).toNat rfl atM_11 g1 (by decide) (by decide +kernel : decode cX12_lays 120 = .ok (.iaload, 1)) ?_
    refine r_sipush h (v := 1000) (by decide) (by decide +kernel : decode cX12_lays 121 = .ok (.sipush 1000, 3)) ?_
    refine r_isub h (by decide +kernel : decode cX12_lays 124 = .ok (.isub, 1)) ?_
    obtain ⟨g1, H⟩ := H
    refine r_iast h x1.toNat rfl atM_11 g1 (by decide) (by decide +kernel : decode cX12_lays 125 = .ok (.iastore, 1)) ?_
    have H := H _ rfl
    revert H
    generalize (upr M 11 (up1 (M 11) x1.toNat ((M 11 (2 + x1).toNat) - 1000))) = M1
    intro H
    refine r_aloadn h (q := 0) 0 rfl (by decide +kernel : decode cX12_lays 126 = .ok (.aload_n 0, 1)) ?_
    refine r_getR h (r := 12) f_Mod_41 at1M rfl (by decide) (by decide +kernel : decode cX12_lays 127 = .ok (.getfield 41, 3)) ?_
    refine r_iloadn h (q := 1) 1 rfl (by decide +kernel : decode cX12_lays 130 = .ok (.iload_n 1, 1)) ?_
    refine r_aloadn h (q := 0) 0 rfl (by decide +kernel : decode cX12_lays 131 = .ok (.aload_n 0, 1)) ?_
    refine r_getR h (r := 12) f_Mod_41 at1M rfl (by decide) (by decide +kernel : decode cX12_lays 132 = .ok (.getfield 41, 3)) ?_
    refine r_iconst h (v := 2) (by decide +kernel : decode cX12_lays 135 = .ok (.iconst 2, 1)) ?_
    refine r_iloadn h (q := 1) 1 rfl (by decide +kernel : decode cX12_lays 136 = .ok (.iload_n 1, 1)) ?_
    refine r_iadd h (by decide +kernel : decode cX12_lays 137 = .ok (.iadd, 1)) ?_
    obtain ⟨g1, H⟩ := H
    refine r_iald h (2 + x1).toNat rfl atM_12 g1 (by decide) (by decide +kernel : decode cX12_lays 138 = .ok (.iaload, 1)) ?_
    refine r_sipush h (v := 1000) (by decide) (by decide +kernel : decode cX12_lays 139 = .ok (.sipush 1000, 3)) ?_
    refine r_isub h (by decide +kernel : decode cX12_lays 142 = .ok (.isub, 1)) ?_
    obtain ⟨g1, H⟩ := H
    refine r_iast h x1.toNat rfl atM_12 g1 (by decide) (by decide +kernel : decode cX12_lays 143 = .ok (.iastore, 1)) ?_
    have H := H _ rfl
    revert H
    generalize (upr M1 12 (up1 (M1 12) x1.toNat ((M1 12 (2 + x1).toNat) - 1000))) = M2
    intro H
    refine r_iinc h (i := 1) (v := 1) (L' := [(1, vi (x1 + 1)), (0, vr 1)]) 1 rfl (by decide) rfl (by decide +kernel : decode cX12_lays 144 = .ok (.iinc 1 1, 3)) ?_
    refine r_goto h 103 (by decide) (by decide +kernel : decode cX12_lays 147 = .ok (.goto (-44), 3)) ?_
    refine r_drop h [1, 0] rfl ?_
    exact H
set_option maxHeartbeats 4000000 in
set_option maxRecDepth 100000 in
theorem w_Mod_aheadOf_0 {P : Int → Mm → Prop} {K : Nat → Rr → Nat → List (Nat × AV) → List AV → Mm → Prop} (h : EK shM yX12_aheadOf cX12_aheadOf 5 (some .int) 2 NM NM (QI RRM P) K) (x1 : Int) (M : Mm)
    (H : K NM RRM 4 [(0, vr 1), (1, vi x1), (2, vi (-1)), (3, vi 0)] [] M) :
    K NM RRM 0 [(0, vr 1), (1, vi x1)] [] M := by
  refine r_iconst h (v := (-1)) (by decide +kernel : decode cX12_aheadOf 0 = .ok (.iconst (-1), 1)) ?_
  refine r_istoren h (q := 2) (L' := [(2, vi (-1)), (0, vr 1), (1, vi x1)]) (by decide) rfl (by decide +kernel : decode cX12_aheadOf 1 = .ok (.istore_n 2, 1)) ?_
  refine r_iconst h (v := 0) (by decide +kernel : decode cX12_aheadOf 2 = .ok (.iconst 0, 1)) ?_
  refine r_istoren h (q := 3) (L' := [(3, vi 0), (2, vi (-1)), (0, vr 1), (1, vi x1)]) (by decide) rfl (by decide +kernel : decode cX12_aheadOf 3 = .ok (.istore_n 3, 1)) ?_
  refine r_drop h [2, 3, 1, 0] rfl ?_
  exact H
set_option maxHeartbeats 4000000 in
set_option maxRecDepth 100000 in
theorem w_Mod_aheadOf_4 {P : Int → Mm → Prop} {K : Nat → Rr → Nat → List (Nat × AV) → List AV → Mm → Prop} (h : EK shM yX12_aheadOf cX12_aheadOf 5 (some .int) 2 NM NM (QI RRM P) K) (x1 : Int) (x2 : Int) (x3 : Int) (M : Mm)
    (H : (rng x3) ∧ (rng (M 3 0)) ∧ ((M 3 0) ≤ x3 → (P (-1) M)) ∧ (¬ ((M 3 0) ≤ x3) → ((0 ≤ (5 + x3) ∧ (5 + x3) < 33) ∧ (rng (M 34 (5 + x3).toNat)) ∧ (rng x1) ∧ ((M 34 (5 + x3).toNat) ≠ x1 → (∃ P1 : Int → Mm → Prop, S_Mod_isGoing (M 34 (5 + x3).toNat) M P1 ∧ ∀ (r1 : Int) (M1 : Mm), P1 r1 M1 → (rng r1) ∧ (r1 = 0 → (K NM RRM 4 [(0, vr 1), (1, vi x1), (2, vi x2), (3, vi (x3 + 1))] [] M1)) ∧ (r1 ≠ 0 → ((0 ≤ (M 34 (5 + x3).toNat) ∧ (M 34 (5 + x3).toNat) < 14) ∧ (rng (M1 5 (M 34 (5 + x3).toNat).toNat)) ∧ ((M1 5 (M 34 (5 + x3).toNat).toNat) = 3 → (K NM RRM 4 [(0, vr 1), (1, vi x1), (2, vi x2), (3, vi (x3 + 1))] [] M1)) ∧ ((M1 5 (M 34 (5 + x3).toNat).toNat) ≠ 3 → (K NM RRM 4 [(0, vr 1), (1, vi x1), (2, vi (M 34 (5 + x3).toNat)), (3, vi (x3 + 1))] [] M1)))))) ∧ ((M 34 (5 + x3).toNat) = x1 → (P x2 M))))) :
    K NM RRM 4 [(0, vr 1), (1, vi x1), (2, vi x2), (3, vi x3)] [] M := by
  refine r_iloadn h (q := 3) 3 rfl (by decide +kernel : decode cX12_aheadOf 4 = .ok (.iload_n 3, 1)) ?_
  refine r_aloadn h (q := 0) 0 rfl (by decide +kernel : decode cX12_aheadOf 5 = .ok (.aload_n 0, 1)) ?_
  refine r_getR h (r := 3) f_Mod_13 at1M rfl (by decide) (by decide +kernel : decode cX12_aheadOf 6 = .ok (.getfield 13, 3)) ?_
  refine r_iconst h (v := 0) (by decide +kernel : decode cX12_aheadOf 9 = .ok (.iconst 0, 1)) ?_
  refine r_iald h 0 rfl atM_3 (by decide) (by decide) (by decide +kernel : decode cX12_aheadOf 10 = .ok (.iaload, 1)) ?_
  obtain ⟨g1, g2, H⟩ := H
  obtain ⟨H1, H2⟩ := H
  refine r_icmp_ge h 61 g1 g2 (by decide) (by decide +kernel : decode cX12_aheadOf 11 = .ok (.if_icmp .ge 50, 3)) (fun hc => ?_) (fun hc => ?_)
  · have H := H1 hc
    refine r_iconst h (v := (-1)) (by decide +kernel : decode cX12_aheadOf 61 = .ok (.iconst (-1), 1)) ?_
    exact r_iret h rfl (by decide +kernel : decode cX12_aheadOf 62 = .ok (.ireturn, 1)) rfl ⟨rfl, _, rfl, H⟩
  · have H := H2 hc
    refine r_aloadn h (q := 0) 0 rfl (by decide +kernel : decode cX12_aheadOf 14 = .ok (.aload_n 0, 1)) ?_
    refine r_getR h (r := 34) f_Mod_108 at1M rfl (by decide) (by decide +kernel : decode cX12_aheadOf 15 = .ok (.getfield 108, 3)) ?_
    refine r_iconst h (v := 5) (by decide +kernel : decode cX12_aheadOf 18 = .ok (.iconst 5, 1)) ?_
    refine r_iloadn h (q := 3) 3 rfl (by decide +kernel : decode cX12_aheadOf 19 = .ok (.iload_n 3, 1)) ?_
    refine r_iadd h (by decide +kernel : decode cX12_aheadOf 20 = .ok (.iadd, 1)) ?_
    obtain ⟨g1, H⟩ := H
    refine r_iald h (5 + x3).toNat rfl atM_34 g1 (by decide) (by decide +kernel : decode cX12_aheadOf 21 = .ok (.iaload, 1)) ?_
    refine r_istore h (L' := [(4, vi (M 34 (5 + x3).toNat)), (0, vr 1), (1, vi x1), (2, vi x2), (3, vi x3)]) (by decide) rfl (by decide +kernel : decode cX12_aheadOf 22 = .ok (.istore 4, 2)) ?_
    refine r_iload h 0 rfl (by decide +kernel : decode cX12_aheadOf 24 = .ok (.iload 4, 2)) ?_
    refine r_iloadn h (q := 1) 2 rfl (by decide +kernel : decode cX12_aheadOf 26 = .ok (.iload_n 1, 1)) ?_
    obtain ⟨g1, g2, H⟩ := H
    obtain ⟨H1, H2⟩ := H
    refine r_icmp_ne h 32 g1 g2 (by decide) (by decide +kernel : decode cX12_aheadOf 27 = .ok (.if_icmp .ne 5, 3)) (fun hc => ?_) (fun hc => ?_)
    · have H := H1 hc
      refine r_aloadn h (q := 0) 1 rfl (by decide +kernel : decode cX12_aheadOf 32 = .ok (.aload_n 0, 1)) ?_
      refine r_iload h 0 rfl (by decide +kernel : decode cX12_aheadOf 33 = .ok (.iload 4, 2)) ?_
      obtain ⟨P1, hSP1, H⟩ := H
      refine r_callV h (as := [vi (M 34 (5 + x3).toNat)]) (S := []) (b := 1) m_Mod_363 hSP1 (by decide) (Nat.le_refl _) rfl at1M rfl (Nat.le_of_ble_eq_true rfl) (by decide +kernel : decode cX12_aheadOf 35 = .ok (.invokevirtual 363, 3)) ?_
      rintro _ _ M1 ⟨rfl, r1, rfl, hP⟩
      have H := H r1 M1 hP
      show K NM RRM _ _ [vi r1] _
      obtain ⟨g1, H⟩ := H
      obtain ⟨H1, H2⟩ := H
      refine r_if_eq h 55 g1 (by decide) (by decide +kernel : decode cX12_aheadOf 38 = .ok (.ifCond .eq 17, 3)) (fun hc => ?_) (fun hc => ?_)
      · have H := H1 hc
        refine r_iinc h (i := 3) (v := 1) (L' := [(3, vi (x3 + 1)), (4, vi (M 34 (5 + x3).toNat)), (0, vr 1), (1, vi x1), (2, vi x2)]) 4 rfl (by decide) rfl (by decide +kernel : decode cX12_aheadOf 55 = .ok (.iinc 3 1, 3)) ?_
        refine r_goto h 4 (by decide) (by decide +kernel : decode cX12_aheadOf 58 = .ok (.goto (-54), 3)) ?_
        refine r_drop h [2, 3, 4, 0] rfl ?_
        exact H
      · have H := H2 hc
        refine r_aloadn h (q := 0) 1 rfl (by decide +kernel : decode cX12_aheadOf 41 = .ok (.aload_n 0, 1)) ?_
        refine r_getR h (r := 5) f_Mod_20 at1M rfl (by decide) (by decide +kernel : decode cX12_aheadOf 42 = .ok (.getfield 20, 3)) ?_
        refine r_iload h 0 rfl (by decide +kernel : decode cX12_aheadOf 45 = .ok (.iload 4, 2)) ?_
        obtain ⟨g1, H⟩ := H
        refine r_iald h (M 34 (5 + x3).toNat).toNat rfl atM_5 g1 (by decide) (by decide +kernel : decode cX12_aheadOf 47 = .ok (.iaload, 1)) ?_
        refine r_iconst h (v := 3) (by decide +kernel : decode cX12_aheadOf 48 = .ok (.iconst 3, 1)) ?_
        obtain ⟨g1, H⟩ := H
        obtain ⟨H1, H2⟩ := H
        refine r_icmp_eq h 55 g1 (by decide) (by decide) (by decide +kernel : decode cX12_aheadOf 49 = .ok (.if_icmp .eq 6, 3)) (fun hc => ?_) (fun hc => ?_)
        · have H := H1 hc
          refine r_iinc h (i := 3) (v := 1) (L' := [(3, vi (x3 + 1)), (4, vi (M 34 (5 + x3).toNat)), (0, vr 1), (1, vi x1), (2, vi x2)]) 4 rfl (by decide) rfl (by decide +kernel : decode cX12_aheadOf 55 = .ok (.iinc 3 1, 3)) ?_
          refine r_goto h 4 (by decide) (by decide +kernel : decode cX12_aheadOf 58 = .ok (.goto (-54), 3)) ?_
          refine r_drop h [2, 3, 4, 0] rfl ?_
          exact H
        · have H := H2 hc
          refine r_iload h 0 rfl (by decide +kernel : decode cX12_aheadOf 52 = .ok (.iload 4, 2)) ?_
          refine r_istoren h (q := 2) (L' := [(2, vi (M 34 (5 + x3).toNat)), (4, vi (M 34 (5 + x3).toNat)), (0, vr 1), (1, vi x1), (3, vi x3)]) (by decide) rfl (by decide +kernel : decode cX12_aheadOf 54 = .ok (.istore_n 2, 1)) ?_
          refine r_iinc h (i := 3) (v := 1) (L' := [(3, vi (x3 + 1)), (2, vi (M 34 (5 + x3).toNat)), (4, vi (M 34 (5 + x3).toNat)), (0, vr 1), (1, vi x1)]) 4 rfl (by decide) rfl (by decide +kernel : decode cX12_aheadOf 55 = .ok (.iinc 3 1, 3)) ?_
          refine r_goto h 4 (by decide) (by decide +kernel : decode cX12_aheadOf 58 = .ok (.goto (-54), 3)) ?_
          refine r_drop h [3, 4, 1, 0] rfl ?_
          exact H
    · have H := H2 hc
      refine r_iloadn h (q := 2) 3 rfl (by decide +kernel : decode cX12_aheadOf 30 = .ok (.iload_n 2, 1)) ?_
      exact r_iret h rfl (by decide +kernel : decode cX12_aheadOf 31 = .ok (.ireturn, 1)) rfl ⟨rfl, _, rfl, H⟩
set_option maxHeartbeats 4000000 in
set_option maxRecDepth 100000 in
theorem w_Mod_laysAt_0 {P : Mm → Prop} {K : Nat → Rr → Nat → List (Nat × AV) → List AV → Mm → Prop} (h : EK shM yX12_laysAt cX12_laysAt 5 none 2 NM NM (QV RRM P) K) (x1 : Int) (x2 : Int) (M : Mm)
    (H : ∃ P1 : Int → Mm → Prop, S_Mod_placeOf x1 M P1 ∧ ∀ (r1 : Int) (M1 : Mm), P1 r1 M1 → K NM RRM 9 [(0, vr 1), (1, vi x1), (2, vi x2), (4, vi r1)] [] M1) :
    K NM RRM 0 [(0, vr 1), (1, vi x1), (2, vi x2)] [] M := by
  refine r_aloadn h (q := 0) 0 rfl (by decide +kernel : decode cX12_laysAt 0 = .ok (.aload_n 0, 1)) ?_
  refine r_iloadn h (q := 1) 1 rfl (by decide +kernel : decode cX12_laysAt 1 = .ok (.iload_n 1, 1)) ?_
  obtain ⟨P1, hSP1, H⟩ := H
  refine r_callV h (as := [vi x1]) (S := []) (b := 1) m_Mod_387 hSP1 (by decide) (Nat.le_refl _) rfl at1M rfl (Nat.le_of_ble_eq_true rfl) (by decide +kernel : decode cX12_laysAt 2 = .ok (.invokevirtual 387, 3)) ?_
  rintro _ _ M1 ⟨rfl, r1, rfl, hP⟩
  have H := H r1 M1 hP
  show K NM RRM _ _ [vi r1] _
  refine r_istoren h (q := 3) (L' := [(3, vi r1), (0, vr 1), (1, vi x1), (2, vi x2)]) (by decide) rfl (by decide +kernel : decode cX12_laysAt 5 = .ok (.istore_n 3, 1)) ?_
  refine r_iloadn h (q := 3) 0 rfl (by decide +kernel : decode cX12_laysAt 6 = .ok (.iload_n 3, 1)) ?_
  refine r_istore h (L' := [(4, vi r1), (3, vi r1), (0, vr 1), (1, vi x1), (2, vi x2)]) (by decide) rfl (by decide +kernel : decode cX12_laysAt 7 = .ok (.istore 4, 2)) ?_
  refine r_drop h [2, 3, 4, 0] rfl ?_
  exact H
set_option maxHeartbeats 4000000 in
set_option maxRecDepth 100000 in
theorem w_Mod_laysAt_9 {P : Mm → Prop} {K : Nat → Rr → Nat → List (Nat × AV) → List AV → Mm → Prop} (h : EK shM yX12_laysAt cX12_laysAt 5 none 2 NM NM (QV RRM P) K) (x1 : Int) (x2 : Int) (x4 : Int) (M : Mm)
    (H : (rng (x4 + 1)) ∧ (rng (M 3 0)) ∧ ((M 3 0) ≤ (x4 + 1) → (K NM RRM 58 [(0, vr 1), (1, vi x1), (2, vi x2), (4, vi ((M 3 0) - 1))] [] M)) ∧ (¬ ((M 3 0) ≤ (x4 + 1)) → ((0 ≤ ((5 + x4) + 1) ∧ ((5 + x4) + 1) < 33) ∧ (0 ≤ (5 + x4) ∧ (5 + x4) < 33) ∧ ∀ M1 : Mm, M1 = (upr M 34 (up1 (M 34) (5 + x4).toNat (M 34 ((5 + x4) + 1).toNat))) → K NM RRM 9 [(0, vr 1), (1, vi x1), (2, vi x2), (4, vi (x4 + 1))] [] M1))) :
    K NM RRM 9 [(0, vr 1), (1, vi x1), (2, vi x2), (4, vi x4)] [] M := by
  refine r_iload h 3 rfl (by decide +kernel : decode cX12_laysAt 9 = .ok (.iload 4, 2)) ?_
  refine r_iconst h (v := 1) (by decide +kernel : decode cX12_laysAt 11 = .ok (.iconst 1, 1)) ?_
  refine r_iadd h (by decide +kernel : decode cX12_laysAt 12 = .ok (.iadd, 1)) ?_
  refine r_aloadn h (q := 0) 0 rfl (by decide +kernel : decode cX12_laysAt 13 = .ok (.aload_n 0, 1)) ?_
  refine r_getR h (r := 3) f_Mod_13 at1M rfl (by decide) (by decide +kernel : decode cX12_laysAt 14 = .ok (.getfield 13, 3)) ?_
  refine r_iconst h (v := 0) (by decide +kernel : decode cX12_laysAt 17 = .ok (.iconst 0, 1)) ?_
  refine r_iald h 0 rfl atM_3 (by decide) (by decide) (by decide +kernel : decode cX12_laysAt 18 = .ok (.iaload, 1)) ?_
  obtain ⟨g1, g2, H⟩ := H
  obtain ⟨H1, H2⟩ := H
  refine r_icmp_ge h 48 g1 g2 (by decide) (by decide +kernel : decode cX12_laysAt 19 = .ok (.if_icmp .ge 29, 3)) (fun hc => ?_) (fun hc => ?_)
  · have H := H1 hc
    refine r_aloadn h (q := 0) 0 rfl (by decide +kernel : decode cX12_laysAt 48 = .ok (.aload_n 0, 1)) ?_
    refine r_getR h (r := 3) f_Mod_13 at1M rfl (by decide) (by decide +kernel : decode cX12_laysAt 49 = .ok (.getfield 13, 3)) ?_
    refine r_iconst h (v := 0) (by decide +kernel : decode cX12_laysAt 52 = .ok (.iconst 0, 1)) ?_
    refine r_iald h 0 rfl atM_3 (by decide) (by decide) (by decide +kernel : decode cX12_laysAt 53 = .ok (.iaload, 1)) ?_
    refine r_iconst h (v := 1) (by decide +kernel : decode cX12_laysAt 54 = .ok (.iconst 1, 1)) ?_
    refine r_isub h (by decide +kernel : decode cX12_laysAt 55 = .ok (.isub, 1)) ?_
    refine r_istore h (L' := [(4, vi ((M 3 0) - 1)), (0, vr 1), (1, vi x1), (2, vi x2)]) (by decide) rfl (by decide +kernel : decode cX12_laysAt 56 = .ok (.istore 4, 2)) ?_
    refine r_drop h [1, 2, 3, 0] rfl ?_
    exact H
  · have H := H2 hc
    refine r_aloadn h (q := 0) 0 rfl (by decide +kernel : decode cX12_laysAt 22 = .ok (.aload_n 0, 1)) ?_
    refine r_getR h (r := 34) f_Mod_108 at1M rfl (by decide) (by decide +kernel : decode cX12_laysAt 23 = .ok (.getfield 108, 3)) ?_
    refine r_iconst h (v := 5) (by decide +kernel : decode cX12_laysAt 26 = .ok (.iconst 5, 1)) ?_
    refine r_iload h 3 rfl (by decide +kernel : decode cX12_laysAt 27 = .ok (.iload 4, 2)) ?_
    refine r_iadd h (by decide +kernel : decode cX12_laysAt 29 = .ok (.iadd, 1)) ?_
    refine r_aloadn h (q := 0) 0 rfl (by decide +kernel : decode cX12_laysAt 30 = .ok (.aload_n 0, 1)) ?_
    refine r_getR h (r := 34) f_Mod_108 at1M rfl (by decide) (by decide +kernel : decode cX12_laysAt 31 = .ok (.getfield 108, 3)) ?_
    refine r_iconst h (v := 5) (by decide +kernel : decode cX12_laysAt 34 = .ok (.iconst 5, 1)) ?_
    refine r_iload h 3 rfl (by decide +kernel : decode cX12_laysAt 35 = .ok (.iload 4, 2)) ?_
    refine r_iadd h (by decide +kernel : decode cX12_laysAt 37 = .ok (.iadd, 1)) ?_
    refine r_iconst h (v := 1) (by decide +kernel : decode cX12_laysAt 38 = .ok (.iconst 1, 1)) ?_
    refine r_iadd h (by decide +kernel : decode cX12_laysAt 39 = .ok (.iadd, 1)) ?_
    obtain ⟨g1, H⟩ := H
    refine r_iald h ((5 + x4) + 1).toNat rfl atM_34 g1 (by decide) (by decide +kernel : decode cX12_laysAt 40 = .ok (.iaload, 1)) ?_
    obtain ⟨g1, H⟩ := H
    refine r_iast h (5 + x4).toNat rfl atM_34 g1 (by decide) (by decide +kernel : decode cX12_laysAt 41 = .ok (.iastore, 1)) ?_
    have H := H _ rfl
    revert H
    generalize (upr M 34 (up1 (M 34) (5 + x4).toNat (M 34 ((5 + x4) + 1).toNat))) = M1
    intro H
    refine r_iinc h (i := 4) (v := 1) (L' := [(4, vi (x4 + 1)), (0, vr 1), (1, vi x1), (2, vi x2)]) 3 rfl (by decide) rfl (by decide +kernel : decode cX12_laysAt 42 = .ok (.iinc 4 1, 3)) ?_
    refine r_goto h 9 (by decide) (by decide +kernel : decode cX12_laysAt 45 = .ok (.goto (-36), 3)) ?_
    refine r_drop h [1, 2, 3, 0] rfl ?_
    exact H
set_option maxHeartbeats 4000000 in
set_option maxRecDepth 100000 in
theorem w_Mod_laysAt_58 {P : Mm → Prop} {K : Nat → Rr → Nat → List (Nat × AV) → List AV → Mm → Prop} (h : EK shM yX12_laysAt cX12_laysAt 5 none 2 NM NM (QV RRM P) K) (x1 : Int) (x2 : Int) (x4 : Int) (M : Mm)
    (H : (rng x4) ∧ (rng x2) ∧ (x4 ≤ x2 → ((0 ≤ (5 + x2) ∧ (5 + x2) < 33) ∧ ∀ M1 : Mm, M1 = (upr M 34 (up1 (M 34) (5 + x2).toNat x1)) → P M1)) ∧ (¬ (x4 ≤ x2) → ((0 ≤ ((5 + x4) - 1) ∧ ((5 + x4) - 1) < 33) ∧ (0 ≤ (5 + x4) ∧ (5 + x4) < 33) ∧ ∀ M2 : Mm, M2 = (upr M 34 (up1 (M 34) (5 + x4).toNat (M 34 ((5 + x4) - 1).toNat))) → K NM RRM 58 [(0, vr 1), (1, vi x1), (2, vi x2), (4, vi (x4 + (-1)))] [] M2))) :
    K NM RRM 58 [(0, vr 1), (1, vi x1), (2, vi x2), (4, vi x4)] [] M := by
  refine r_iload h 3 rfl (by decide +kernel : decode cX12_laysAt 58 = .ok (.iload 4, 2)) ?_
  refine r_iloadn h (q := 2) 2 rfl (by decide +kernel : decode cX12_laysAt 60 = .ok (.iload_n 2, 1)) ?_
  obtain ⟨g1, g2, H⟩ := H
  obtain ⟨H1, H2⟩ := H
  refine r_icmp_le h 90 g1 g2 (by decide) (by decide +kernel : decode cX12_laysAt 61 = .ok (.if_icmp .le 29, 3)) (fun hc => ?_) (fun hc => ?_)
  · have H := H1 hc
    refine r_aloadn h (q := 0) 0 rfl (by decide +kernel : decode cX12_laysAt 90 = .ok (.aload_n 0, 1)) ?_
    refine r_getR h (r := 34) f_Mod_108 at1M rfl (by decide) (by decide +kernel : decode cX12_laysAt 91 = .ok (.getfield 108, 3)) ?_
    refine r_iconst h (v := 5) (by decide +kernel : decode cX12_laysAt 94 = .ok (.iconst 5, 1)) ?_
    refine r_iloadn h (q := 2) 2 rfl (by decide +kernel : decode cX12_laysAt 95 = .ok (.iload_n 2, 1)) ?_
    refine r_iadd h (by decide +kernel : decode cX12_laysAt 96 = .ok (.iadd, 1)) ?_
    refine r_iloadn h (q := 1) 1 rfl (by decide +kernel : decode cX12_laysAt 97 = .ok (.iload_n 1, 1)) ?_
    obtain ⟨g1, H⟩ := H
    refine r_iast h (5 + x2).toNat rfl atM_34 g1 (by decide) (by decide +kernel : decode cX12_laysAt 98 = .ok (.iastore, 1)) ?_
    have H := H _ rfl
    revert H
    generalize (upr M 34 (up1 (M 34) (5 + x2).toNat x1)) = M1
    intro H
    exact r_vret h rfl (by decide +kernel : decode cX12_laysAt 99 = .ok (.return_, 1)) rfl ⟨rfl, rfl, H⟩
  · have H := H2 hc
    refine r_aloadn h (q := 0) 0 rfl (by decide +kernel : decode cX12_laysAt 64 = .ok (.aload_n 0, 1)) ?_
    refine r_getR h (r := 34) f_Mod_108 at1M rfl (by decide) (by decide +kernel : decode cX12_laysAt 65 = .ok (.getfield 108, 3)) ?_
    refine r_iconst h (v := 5) (by decide +kernel : decode cX12_laysAt 68 = .ok (.iconst 5, 1)) ?_
    refine r_iload h 3 rfl (by decide +kernel : decode cX12_laysAt 69 = .ok (.iload 4, 2)) ?_
    refine r_iadd h (by decide +kernel : decode cX12_laysAt 71 = .ok (.iadd, 1)) ?_
    refine r_aloadn h (q := 0) 0 rfl (by decide +kernel : decode cX12_laysAt 72 = .ok (.aload_n 0, 1)) ?_
    refine r_getR h (r := 34) f_Mod_108 at1M rfl (by decide) (by decide +kernel : decode cX12_laysAt 73 = .ok (.getfield 108, 3)) ?_
    refine r_iconst h (v := 5) (by decide +kernel : decode cX12_laysAt 76 = .ok (.iconst 5, 1)) ?_
    refine r_iload h 3 rfl (by decide +kernel : decode cX12_laysAt 77 = .ok (.iload 4, 2)) ?_
    refine r_iadd h (by decide +kernel : decode cX12_laysAt 79 = .ok (.iadd, 1)) ?_
    refine r_iconst h (v := 1) (by decide +kernel : decode cX12_laysAt 80 = .ok (.iconst 1, 1)) ?_
    refine r_isub h (by decide +kernel : decode cX12_laysAt 81 = .ok (.isub, 1)) ?_
    obtain ⟨g1, H⟩ := H
    refine r_iald h ((5 + x4) - 1).toNat rfl atM_34 g1 (by decide) (by decide +kernel : decode cX12_laysAt 82 = .ok (.iaload, 1)) ?_
    obtain ⟨g1, H⟩ := H
    refine r_iast h (5 + x4).toNat rfl atM_34 g1 (by decide) (by decide +kernel : decode cX12_laysAt 83 = .ok (.iastore, 1)) ?_
    have H := H _ rfl
    revert H
    generalize (upr M 34 (up1 (M 34) (5 + x4).toNat (M 34 ((5 + x4) - 1).toNat))) = M2
    intro H
    refine r_iinc h (i := 4) (v := (-1)) (L' := [(4, vi (x4 + (-1))), (0, vr 1), (1, vi x1), (2, vi x2)]) 3 rfl (by decide) rfl (by decide +kernel : decode cX12_laysAt 84 = .ok (.iinc 4 (-1), 3)) ?_
    refine r_goto h 58 (by decide) (by decide +kernel : decode cX12_laysAt 87 = .ok (.goto (-29), 3)) ?_
    refine r_drop h [1, 2, 3, 0] rfl ?_
    exact H
set_option maxHeartbeats 4000000 in
set_option maxRecDepth 100000 in
theorem w_Mod_house_0 {P : Int → Mm → Prop} {K : Nat → Rr → Nat → List (Nat × AV) → List AV → Mm → Prop} (h : EK shM yX12_house cX12_house 3 (some .int) 2 NM NM (QI RRM P) K) (x1 : Int) (x2 : Int) (M : Mm)
    (H : ∀ M1 : Mm, M1 = (upr M 1 (up1 (M 1) 0 0)) → ∃ P2 : Int → Mm → Prop, S_Mod_isHouse x1 M1 P2 ∧ ∀ (r1 : Int) (M2 : Mm), P2 r1 M2 → (rng r1) ∧ (r1 = 0 → (P (-1) M2)) ∧ (r1 ≠ 0 → (∃ P3 : Int → Mm → Prop, S_Mod_within x2 0 6 M2 P3 ∧ ∀ (r2 : Int) (M3 : Mm), P3 r2 M3 → (rng r2) ∧ (r2 ≠ 0 → ((rng x2) ∧ (3 ≤ x2 → ((rng x2) ∧ (5 ≤ x2 → ((rng x2) ∧ (x2 ≠ 5 → (∃ P4 : Int → Mm → Prop, S_Mod_placeOf x1 M3 P4 ∧ ∀ (r3 : Int) (M4 : Mm), P4 r3 M4 → P r3 M4)) ∧ (x2 = 5 → (P (andI (shrI (M3 34 4) x1) 1) M3)))) ∧ (¬ (5 ≤ x2) → ((rng x2) ∧ (x2 ≠ 3 → ((0 ≤ (26 + x1) ∧ (26 + x1) < 33) ∧ P (M3 34 (26 + x1).toNat) M3)) ∧ (x2 = 3 → ((0 ≤ x1 ∧ x1 < 14) ∧ P (M3 8 x1.toNat) M3)))))) ∧ (¬ (3 ≤ x2) → ((rng x2) ∧ (x2 ≠ 0 → ((rng x2) ∧ (x2 ≠ 1 → ((0 ≤ (19 + x1) ∧ (19 + x1) < 33) ∧ P (M3 34 (19 + x1).toNat) M3)) ∧ (x2 = 1 → ((0 ≤ (12 + x1) ∧ (12 + x1) < 33) ∧ P (M3 34 (12 + x1).toNat) M3)))) ∧ (x2 = 0 → ((0 ≤ x1 ∧ x1 < 14) ∧ P (M3 5 x1.toNat) M3)))))) ∧ (r2 = 0 → (P (-1) M3))))) :
    K NM RRM 0 [(0, vr 1), (1, vi x1), (2, vi x2)] [] M := by
  refine r_aloadn h (q := 0) 0 rfl (by decide +kernel : decode cX12_house 0 = .ok (.aload_n 0, 1)) ?_
  refine r_iconst h (v := 0) (by decide +kernel : decode cX12_house 1 = .ok (.iconst 0, 1)) ?_
  refine r_putI h f_Mod_147 at1M rfl rfl (by decide +kernel : decode cX12_house 2 = .ok (.putfield 147, 3)) ?_
  have H := H _ rfl
  revert H
  generalize (upr M 1 (up1 (M 1) 0 0)) = M1
  intro H
  refine r_aloadn h (q := 0) 0 rfl (by decide +kernel : decode cX12_house 5 = .ok (.aload_n 0, 1)) ?_
  refine r_iloadn h (q := 1) 1 rfl (by decide +kernel : decode cX12_house 6 = .ok (.iload_n 1, 1)) ?_
  obtain ⟨P2, hSP2, H⟩ := H
  refine r_callV h (as := [vi x1]) (S := []) (b := 1) m_Mod_390 hSP2 (by decide) (Nat.le_refl _) rfl at1M rfl (Nat.le_of_ble_eq_true rfl) (by decide +kernel : decode cX12_house 7 = .ok (.invokevirtual 390, 3)) ?_
  rintro _ _ M2 ⟨rfl, r1, rfl, hP⟩
  have H := H r1 M2 hP
  show K NM RRM _ _ [vi r1] _
  obtain ⟨g1, H⟩ := H
  obtain ⟨H1, H2⟩ := H
  refine r_if_eq h 23 g1 (by decide) (by decide +kernel : decode cX12_house 10 = .ok (.ifCond .eq 13, 3)) (fun hc => ?_) (fun hc => ?_)
  · have H := H1 hc
    refine r_iconst h (v := (-1)) (by decide +kernel : decode cX12_house 23 = .ok (.iconst (-1), 1)) ?_
    exact r_iret h rfl (by decide +kernel : decode cX12_house 24 = .ok (.ireturn, 1)) rfl ⟨rfl, _, rfl, H⟩
  · have H := H2 hc
    refine r_iloadn h (q := 2) 2 rfl (by decide +kernel : decode cX12_house 13 = .ok (.iload_n 2, 1)) ?_
    refine r_iconst h (v := 0) (by decide +kernel : decode cX12_house 14 = .ok (.iconst 0, 1)) ?_
    refine r_bipush h (v := 6) (by decide) (by decide +kernel : decode cX12_house 15 = .ok (.bipush 6, 2)) ?_
    obtain ⟨P3, hSP3, H⟩ := H
    refine r_callS h (as := [vi x2, vi 0, vi 6]) (S := []) m_Mod_275 hSP3 (by decide) (Nat.le_refl _) rfl rfl (Nat.le_of_ble_eq_true rfl) (by decide +kernel : decode cX12_house 17 = .ok (.invokestatic 275, 3)) ?_
    rintro _ _ M3 ⟨rfl, r2, rfl, hP⟩
    have H := H r2 M3 hP
    show K NM RRM _ _ [vi r2] _
    obtain ⟨g1, H⟩ := H
    obtain ⟨H1, H2⟩ := H
    refine r_if_ne h 25 g1 (by decide) (by decide +kernel : decode cX12_house 20 = .ok (.ifCond .ne 5, 3)) (fun hc => ?_) (fun hc => ?_)
    · have H := H1 hc
      refine r_iloadn h (q := 2) 2 rfl (by decide +kernel : decode cX12_house 25 = .ok (.iload_n 2, 1)) ?_
      refine r_iconst h (v := 3) (by decide +kernel : decode cX12_house 26 = .ok (.iconst 3, 1)) ?_
      obtain ⟨g1, H⟩ := H
      obtain ⟨H1, H2⟩ := H
      refine r_icmp_ge h 70 g1 (by decide) (by decide) (by decide +kernel : decode cX12_house 27 = .ok (.if_icmp .ge 43, 3)) (fun hc => ?_) (fun hc => ?_)
      · have H := H1 hc
        refine r_iloadn h (q := 2) 2 rfl (by decide +kernel : decode cX12_house 70 = .ok (.iload_n 2, 1)) ?_
        refine r_iconst h (v := 5) (by decide +kernel : decode cX12_house 71 = .ok (.iconst 5, 1)) ?_
        obtain ⟨g1, H⟩ := H
        obtain ⟨H1, H2⟩ := H
        refine r_icmp_ge h 99 g1 (by decide) (by decide) (by decide +kernel : decode cX12_house 72 = .ok (.if_icmp .ge 27, 3)) (fun hc => ?_) (fun hc => ?_)
        · have H := H1 hc
          refine r_iloadn h (q := 2) 2 rfl (by decide +kernel : decode cX12_house 99 = .ok (.iload_n 2, 1)) ?_
          refine r_iconst h (v := 5) (by decide +kernel : decode cX12_house 100 = .ok (.iconst 5, 1)) ?_
          obtain ⟨g1, H⟩ := H
          obtain ⟨H1, H2⟩ := H
          refine r_icmp_ne h 117 g1 (by decide) (by decide) (by decide +kernel : decode cX12_house 101 = .ok (.if_icmp .ne 16, 3)) (fun hc => ?_) (fun hc => ?_)
          · have H := H1 hc
            refine r_aloadn h (q := 0) 0 rfl (by decide +kernel : decode cX12_house 117 = .ok (.aload_n 0, 1)) ?_
            refine r_iloadn h (q := 1) 1 rfl (by decide +kernel : decode cX12_house 118 = .ok (.iload_n 1, 1)) ?_
            obtain ⟨P4, hSP4, H⟩ := H
            refine r_callV h (as := [vi x1]) (S := []) (b := 1) m_Mod_387 hSP4 (by decide) (Nat.le_refl _) rfl at1M rfl (Nat.le_of_ble_eq_true rfl) (by decide +kernel : decode cX12_house 119 = .ok (.invokevirtual 387, 3)) ?_
            rintro _ _ M4 ⟨rfl, r3, rfl, hP⟩
            have H := H r3 M4 hP
            show K NM RRM _ _ [vi r3] _
            exact r_iret h rfl (by decide +kernel : decode cX12_house 122 = .ok (.ireturn, 1)) rfl ⟨rfl, _, rfl, H⟩
          · have H := H2 hc
            refine r_aloadn h (q := 0) 0 rfl (by decide +kernel : decode cX12_house 104 = .ok (.aload_n 0, 1)) ?_
            refine r_getR h (r := 34) f_Mod_108 at1M rfl (by decide) (by decide +kernel : decode cX12_house 105 = .ok (.getfield 108, 3)) ?_
            refine r_iconst h (v := 4) (by decide +kernel : decode cX12_house 108 = .ok (.iconst 4, 1)) ?_
            refine r_iald h 4 rfl atM_34 (by decide) (by decide) (by decide +kernel : decode cX12_house 109 = .ok (.iaload, 1)) ?_
            refine r_iloadn h (q := 1) 1 rfl (by decide +kernel : decode cX12_house 110 = .ok (.iload_n 1, 1)) ?_
            refine r_ishr h (by decide +kernel : decode cX12_house 111 = .ok (.ishr, 1)) ?_
            refine r_iconst h (v := 1) (by decide +kernel : decode cX12_house 112 = .ok (.iconst 1, 1)) ?_
            refine r_iand h (by decide +kernel : decode cX12_house 113 = .ok (.iand, 1)) ?_
            refine r_goto h 122 (by decide) (by decide +kernel : decode cX12_house 114 = .ok (.goto 8, 3)) ?_
            exact r_iret h rfl (by decide +kernel : decode cX12_house 122 = .ok (.ireturn, 1)) rfl ⟨rfl, _, rfl, H⟩
        · have H := H2 hc
          refine r_iloadn h (q := 2) 2 rfl (by decide +kernel : decode cX12_house 75 = .ok (.iload_n 2, 1)) ?_
          refine r_iconst h (v := 3) (by decide +kernel : decode cX12_house 76 = .ok (.iconst 3, 1)) ?_
          obtain ⟨g1, H⟩ := H
          obtain ⟨H1, H2⟩ := H
          refine r_icmp_ne h 89 g1 (by decide) (by decide) (by decide +kernel : decode cX12_house 77 = .ok (.if_icmp .ne 12, 3)) (fun hc => ?_) (fun hc => ?_)
          · have H := H1 hc
            refine r_aloadn h (q := 0) 0 rfl (by decide +kernel : decode cX12_house 89 = .ok (.aload_n 0, 1)) ?_
            refine r_getR h (r := 34) f_Mod_108 at1M rfl (by decide) (by decide +kernel : decode cX12_house 90 = .ok (.getfield 108, 3)) ?_
            refine r_bipush h (v := 26) (by decide) (by decide +kernel : decode cX12_house 93 = .ok (.bipush 26, 2)) ?_
            refine r_iloadn h (q := 1) 1 rfl (by decide +kernel : decode cX12_house 95 = .ok (.iload_n 1, 1)) ?_
            refine r_iadd h (by decide +kernel : decode cX12_house 96 = .ok (.iadd, 1)) ?_
            obtain ⟨g1, H⟩ := H
            refine r_iald h (26 + x1).toNat rfl atM_34 g1 (by decide) (by decide +kernel : decode cX12_house 97 = .ok (.iaload, 1)) ?_
            exact r_iret h rfl (by decide +kernel : decode cX12_house 98 = .ok (.ireturn, 1)) rfl ⟨rfl, _, rfl, H⟩
          · have H := H2 hc
            refine r_aloadn h (q := 0) 0 rfl (by decide +kernel : decode cX12_house 80 = .ok (.aload_n 0, 1)) ?_
            refine r_getR h (r := 8) f_Mod_29 at1M rfl (by decide) (by decide +kernel : decode cX12_house 81 = .ok (.getfield 29, 3)) ?_
            refine r_iloadn h (q := 1) 1 rfl (by decide +kernel : decode cX12_house 84 = .ok (.iload_n 1, 1)) ?_
            obtain ⟨g1, H⟩ := H
            refine r_iald h x1.toNat rfl atM_8 g1 (by decide) (by decide +kernel : decode cX12_house 85 = .ok (.iaload, 1)) ?_
            refine r_goto h 98 (by decide) (by decide +kernel : decode cX12_house 86 = .ok (.goto 12, 3)) ?_
            exact r_iret h rfl (by decide +kernel : decode cX12_house 98 = .ok (.ireturn, 1)) rfl ⟨rfl, _, rfl, H⟩
      · have H := H2 hc
        refine r_iloadn h (q := 2) 2 rfl (by decide +kernel : decode cX12_house 30 = .ok (.iload_n 2, 1)) ?_
        obtain ⟨g1, H⟩ := H
        obtain ⟨H1, H2⟩ := H
        refine r_if_ne h 43 g1 (by decide) (by decide +kernel : decode cX12_house 31 = .ok (.ifCond .ne 12, 3)) (fun hc => ?_) (fun hc => ?_)
        · have H := H1 hc
          refine r_iloadn h (q := 2) 2 rfl (by decide +kernel : decode cX12_house 43 = .ok (.iload_n 2, 1)) ?_
          refine r_iconst h (v := 1) (by decide +kernel : decode cX12_house 44 = .ok (.iconst 1, 1)) ?_
          obtain ⟨g1, H⟩ := H
          obtain ⟨H1, H2⟩ := H
          refine r_icmp_ne h 60 g1 (by decide) (by decide) (by decide +kernel : decode cX12_house 45 = .ok (.if_icmp .ne 15, 3)) (fun hc => ?_) (fun hc => ?_)
          · have H := H1 hc
            refine r_aloadn h (q := 0) 0 rfl (by decide +kernel : decode cX12_house 60 = .ok (.aload_n 0, 1)) ?_
            refine r_getR h (r := 34) f_Mod_108 at1M rfl (by decide) (by decide +kernel : decode cX12_house 61 = .ok (.getfield 108, 3)) ?_
            refine r_bipush h (v := 19) (by decide) (by decide +kernel : decode cX12_house 64 = .ok (.bipush 19, 2)) ?_
            refine r_iloadn h (q := 1) 1 rfl (by decide +kernel : decode cX12_house 66 = .ok (.iload_n 1, 1)) ?_
            refine r_iadd h (by decide +kernel : decode cX12_house 67 = .ok (.iadd, 1)) ?_
            obtain ⟨g1, H⟩ := H
            refine r_iald h (19 + x1).toNat rfl atM_34 g1 (by decide) (by decide +kernel : decode cX12_house 68 = .ok (.iaload, 1)) ?_
            exact r_iret h rfl (by decide +kernel : decode cX12_house 69 = .ok (.ireturn, 1)) rfl ⟨rfl, _, rfl, H⟩
          · have H := H2 hc
            refine r_aloadn h (q := 0) 0 rfl (by decide +kernel : decode cX12_house 48 = .ok (.aload_n 0, 1)) ?_
            refine r_getR h (r := 34) f_Mod_108 at1M rfl (by decide) (by decide +kernel : decode cX12_house 49 = .ok (.getfield 108, 3)) ?_
            refine r_bipush h (v := 12) (by decide) (by decide +kernel : decode cX12_house 52 = .ok (.bipush 12, 2)) ?_
            refine r_iloadn h (q := 1) 1 rfl (by decide +kernel : decode cX12_house 54 = .ok (.iload_n 1, 1)) ?_
            refine r_iadd h (by decide +kernel : decode cX12_house 55 = .ok (.iadd, 1)) ?_
            obtain ⟨g1, H⟩ := H
            refine r_iald h (12 + x1).toNat rfl atM_34 g1 (by decide) (by decide +kernel : decode cX12_house 56 = .ok (.iaload, 1)) ?_
            refine r_goto h 69 (by decide) (by decide +kernel : decode cX12_house 57 = .ok (.goto 12, 3)) ?_
            exact r_iret h rfl (by decide +kernel : decode cX12_house 69 = .ok (.ireturn, 1)) rfl ⟨rfl, _, rfl, H⟩
        · have H := H2 hc
          refine r_aloadn h (q := 0) 0 rfl (by decide +kernel : decode cX12_house 34 = .ok (.aload_n 0, 1)) ?_
          refine r_getR h (r := 5) f_Mod_20 at1M rfl (by decide) (by decide +kernel : decode cX12_house 35 = .ok (.getfield 20, 3)) ?_
          refine r_iloadn h (q := 1) 1 rfl (by decide +kernel : decode cX12_house 38 = .ok (.iload_n 1, 1)) ?_
          obtain ⟨g1, H⟩ := H
          refine r_iald h x1.toNat rfl atM_5 g1 (by decide) (by decide +kernel : decode cX12_house 39 = .ok (.iaload, 1)) ?_
          refine r_goto h 69 (by decide) (by decide +kernel : decode cX12_house 40 = .ok (.goto 29, 3)) ?_
          exact r_iret h rfl (by decide +kernel : decode cX12_house 69 = .ok (.ireturn, 1)) rfl ⟨rfl, _, rfl, H⟩
    · have H := H2 hc
      refine r_iconst h (v := (-1)) (by decide +kernel : decode cX12_house 23 = .ok (.iconst (-1), 1)) ?_
      exact r_iret h rfl (by decide +kernel : decode cX12_house 24 = .ok (.ireturn, 1)) rfl ⟨rfl, _, rfl, H⟩
theorem W_Mod_house (x1 : Int) (x2 : Int) (M : Mm) {P : Int → Mm → Prop} (H : ∀ M1 : Mm, M1 = (upr M 1 (up1 (M 1) 0 0)) → ∃ P2 : Int → Mm → Prop, S_Mod_isHouse x1 M1 P2 ∧ ∀ (r1 : Int) (M2 : Mm), P2 r1 M2 → (rng r1) ∧ (r1 = 0 → (P (-1) M2)) ∧ (r1 ≠ 0 → (∃ P3 : Int → Mm → Prop, S_Mod_within x2 0 6 M2 P3 ∧ ∀ (r2 : Int) (M3 : Mm), P3 r2 M3 → (rng r2) ∧ (r2 ≠ 0 → ((rng x2) ∧ (3 ≤ x2 → ((rng x2) ∧ (5 ≤ x2 → ((rng x2) ∧ (x2 ≠ 5 → (∃ P4 : Int → Mm → Prop, S_Mod_placeOf x1 M3 P4 ∧ ∀ (r3 : Int) (M4 : Mm), P4 r3 M4 → P r3 M4)) ∧ (x2 = 5 → (P (andI (shrI (M3 34 4) x1) 1) M3)))) ∧ (¬ (5 ≤ x2) → ((rng x2) ∧ (x2 ≠ 3 → ((0 ≤ (26 + x1) ∧ (26 + x1) < 33) ∧ P (M3 34 (26 + x1).toNat) M3)) ∧ (x2 = 3 → ((0 ≤ x1 ∧ x1 < 14) ∧ P (M3 8 x1.toNat) M3)))))) ∧ (¬ (3 ≤ x2) → ((rng x2) ∧ (x2 ≠ 0 → ((rng x2) ∧ (x2 ≠ 1 → ((0 ≤ (19 + x1) ∧ (19 + x1) < 33) ∧ P (M3 34 (19 + x1).toNat) M3)) ∧ (x2 = 1 → ((0 ≤ (12 + x1) ∧ (12 + x1) < 33) ∧ P (M3 34 (12 + x1).toNat) M3)))) ∧ (x2 = 0 → ((0 ≤ x1 ∧ x1 < 14) ∧ P (M3 5 x1.toNat) M3)))))) ∧ (r2 = 0 → (P (-1) M3))))) : S_Mod_house x1 x2 M P := e_Mod_house x1 x2 M (fun _ h => w_Mod_house_0 h x1 x2 M H)
set_option maxHeartbeats 4000000 in
set_option maxRecDepth 100000 in
theorem w_Mod_order_0 {P : Int → Mm → Prop} {K : Nat → Rr → Nat → List (Nat × AV) → List AV → Mm → Prop} (h : EK shM yX12_order cX12_order 2 (some .int) 2 NM NM (QI RRM P) K) (x1 : Int) (M : Mm)
    (H : ∀ M1 : Mm, M1 = (upr M 1 (up1 (M 1) 0 0)) → ∃ P2 : Int → Mm → Prop, S_Mod_isHouse x1 M1 P2 ∧ ∀ (r1 : Int) (M2 : Mm), P2 r1 M2 → (rng r1) ∧ (r1 = 0 → (P (-1) M2)) ∧ (r1 ≠ 0 → ((0 ≤ (5 + x1) ∧ (5 + x1) < 33) ∧ P (M2 34 (5 + x1).toNat) M2))) :
    K NM RRM 0 [(0, vr 1), (1, vi x1)] [] M := by
  refine r_aloadn h (q := 0) 0 rfl (by decide +kernel : decode cX12_order 0 = .ok (.aload_n 0, 1)) ?_
  refine r_iconst h (v := 0) (by decide +kernel : decode cX12_order 1 = .ok (.iconst 0, 1)) ?_
  refine r_putI h f_Mod_147 at1M rfl rfl (by decide +kernel : decode cX12_order 2 = .ok (.putfield 147, 3)) ?_
  have H := H _ rfl
  revert H
  generalize (upr M 1 (up1 (M 1) 0 0)) = M1
  intro H
  refine r_aloadn h (q := 0) 0 rfl (by decide +kernel : decode cX12_order 5 = .ok (.aload_n 0, 1)) ?_
  refine r_iloadn h (q := 1) 1 rfl (by decide +kernel : decode cX12_order 6 = .ok (.iload_n 1, 1)) ?_
  obtain ⟨P2, hSP2, H⟩ := H
  refine r_callV h (as := [vi x1]) (S := []) (b := 1) m_Mod_390 hSP2 (by decide) (Nat.le_refl _) rfl at1M rfl (Nat.le_of_ble_eq_true rfl) (by decide +kernel : decode cX12_order 7 = .ok (.invokevirtual 390, 3)) ?_
  rintro _ _ M2 ⟨rfl, r1, rfl, hP⟩
  have H := H r1 M2 hP
  show K NM RRM _ _ [vi r1] _
  obtain ⟨g1, H⟩ := H
  obtain ⟨H1, H2⟩ := H
  refine r_if_eq h 24 g1 (by decide) (by decide +kernel : decode cX12_order 10 = .ok (.ifCond .eq 14, 3)) (fun hc => ?_) (fun hc => ?_)
  · have H := H1 hc
    refine r_iconst h (v := (-1)) (by decide +kernel : decode cX12_order 24 = .ok (.iconst (-1), 1)) ?_
    exact r_iret h rfl (by decide +kernel : decode cX12_order 25 = .ok (.ireturn, 1)) rfl ⟨rfl, _, rfl, H⟩
  · have H := H2 hc
    refine r_aloadn h (q := 0) 0 rfl (by decide +kernel : decode cX12_order 13 = .ok (.aload_n 0, 1)) ?_
    refine r_getR h (r := 34) f_Mod_108 at1M rfl (by decide) (by decide +kernel : decode cX12_order 14 = .ok (.getfield 108, 3)) ?_
    refine r_iconst h (v := 5) (by decide +kernel : decode cX12_order 17 = .ok (.iconst 5, 1)) ?_
    refine r_iloadn h (q := 1) 1 rfl (by decide +kernel : decode cX12_order 18 = .ok (.iload_n 1, 1)) ?_
    refine r_iadd h (by decide +kernel : decode cX12_order 19 = .ok (.iadd, 1)) ?_
    obtain ⟨g1, H⟩ := H
    refine r_iald h (5 + x1).toNat rfl atM_34 g1 (by decide) (by decide +kernel : decode cX12_order 20 = .ok (.iaload, 1)) ?_
    refine r_goto h 25 (by decide) (by decide +kernel : decode cX12_order 21 = .ok (.goto 4, 3)) ?_
    exact r_iret h rfl (by decide +kernel : decode cX12_order 25 = .ok (.ireturn, 1)) rfl ⟨rfl, _, rfl, H⟩
theorem W_Mod_order (x1 : Int) (M : Mm) {P : Int → Mm → Prop} (H : ∀ M1 : Mm, M1 = (upr M 1 (up1 (M 1) 0 0)) → ∃ P2 : Int → Mm → Prop, S_Mod_isHouse x1 M1 P2 ∧ ∀ (r1 : Int) (M2 : Mm), P2 r1 M2 → (rng r1) ∧ (r1 = 0 → (P (-1) M2)) ∧ (r1 ≠ 0 → ((0 ≤ (5 + x1) ∧ (5 + x1) < 33) ∧ P (M2 34 (5 + x1).toNat) M2))) : S_Mod_order x1 M P := e_Mod_order x1 M (fun _ h => w_Mod_order_0 h x1 M H)
set_option maxHeartbeats 4000000 in
set_option maxRecDepth 100000 in
theorem w_Mod_keeps_0 {P : Mm → Prop} {K : Nat → Rr → Nat → List (Nat × AV) → List AV → Mm → Prop} (h : EK shM yX12_keeps cX12_keeps 2 none 2 NM NM (QV RRM P) K)  (M : Mm)
    (H : (rng (M 1 50)) ∧ ((M 1 50) ≠ 16 → (K NM RRM 49 [(0, vr 1)] [] M)) ∧ ((M 1 50) = 16 → (K NM RRM 11 [(0, vr 1), (1, vi 0)] [] M))) :
    K NM RRM 0 [(0, vr 1)] [] M := by
  refine r_aloadn h (q := 0) 0 rfl (by decide +kernel : decode cX12_keeps 0 = .ok (.aload_n 0, 1)) ?_
  refine r_getI h f_Mod_340 at1M (by decide +kernel : decode cX12_keeps 1 = .ok (.getfield 340, 3)) ?_
  refine r_bipush h (v := 16) (by decide) (by decide +kernel : decode cX12_keeps 4 = .ok (.bipush 16, 2)) ?_
  obtain ⟨g1, H⟩ := H
  obtain ⟨H1, H2⟩ := H
  refine r_icmp_ne h 49 g1 (by decide) (by decide) (by decide +kernel : decode cX12_keeps 6 = .ok (.if_icmp .ne 43, 3)) (fun hc => ?_) (fun hc => ?_)
  · have H := H1 hc
    exact H
  · have H := H2 hc
    refine r_iconst h (v := 0) (by decide +kernel : decode cX12_keeps 9 = .ok (.iconst 0, 1)) ?_
    refine r_istoren h (q := 1) (L' := [(1, vi 0), (0, vr 1)]) (by decide) rfl (by decide +kernel : decode cX12_keeps 10 = .ok (.istore_n 1, 1)) ?_
    refine r_drop h [1, 0] rfl ?_
    exact H
set_option maxHeartbeats 4000000 in
set_option maxRecDepth 100000 in
theorem w_Mod_keeps_49 {P : Mm → Prop} {K : Nat → Rr → Nat → List (Nat × AV) → List AV → Mm → Prop} (h : EK shM yX12_keeps cX12_keeps 2 none 2 NM NM (QV RRM P) K)  (M : Mm)
    (H : ∃ P1 : Mm → Prop, S_Mod_copies 34 33 0 37 528 (33 * (M 1 50)) M P1 ∧ ∀ M1 : Mm, P1 M1 → ∀ M2 : Mm, M2 = (upr M1 1 (up1 (M1 1) 50 ((M1 1 50) + 1))) → P M2) :
    K NM RRM 49 [(0, vr 1)] [] M := by
  refine r_aloadn h (q := 0) 0 rfl (by decide +kernel : decode cX12_keeps 49 = .ok (.aload_n 0, 1)) ?_
  refine r_getR h (r := 34) f_Mod_108 at1M rfl (by decide) (by decide +kernel : decode cX12_keeps 50 = .ok (.getfield 108, 3)) ?_
  refine r_iconst h (v := 0) (by decide +kernel : decode cX12_keeps 53 = .ok (.iconst 0, 1)) ?_
  refine r_aloadn h (q := 0) 0 rfl (by decide +kernel : decode cX12_keeps 54 = .ok (.aload_n 0, 1)) ?_
  refine r_getR h (r := 37) f_Mod_117 at1M rfl (by decide) (by decide +kernel : decode cX12_keeps 55 = .ok (.getfield 117, 3)) ?_
  refine r_bipush h (v := 33) (by decide) (by decide +kernel : decode cX12_keeps 58 = .ok (.bipush 33, 2)) ?_
  refine r_aloadn h (q := 0) 0 rfl (by decide +kernel : decode cX12_keeps 60 = .ok (.aload_n 0, 1)) ?_
  refine r_getI h f_Mod_340 at1M (by decide +kernel : decode cX12_keeps 61 = .ok (.getfield 340, 3)) ?_
  refine r_imul h (by decide +kernel : decode cX12_keeps 64 = .ok (.imul, 1)) ?_
  obtain ⟨P1, hSP1, H⟩ := H
  refine r_callS h (as := [vr 34, vi 0, vr 37, vi (33 * (M 1 50))]) (S := []) m_Mod_393 hSP1 (by decide) (Nat.le_refl _) rfl rfl (Nat.le_of_ble_eq_true rfl) (by decide +kernel : decode cX12_keeps 65 = .ok (.invokestatic 393, 3)) ?_
  rintro _ _ M1 ⟨rfl, rfl, hP⟩
  have H := H M1 hP
  show K NM RRM _ _ [] _
  refine r_aloadn h (q := 0) 0 rfl (by decide +kernel : decode cX12_keeps 68 = .ok (.aload_n 0, 1)) ?_
  refine r_dup h rfl (by decide +kernel : decode cX12_keeps 69 = .ok (.dup, 1)) ?_
  refine r_getI h f_Mod_340 at1M (by decide +kernel : decode cX12_keeps 70 = .ok (.getfield 340, 3)) ?_
  refine r_iconst h (v := 1) (by decide +kernel : decode cX12_keeps 73 = .ok (.iconst 1, 1)) ?_
  refine r_iadd h (by decide +kernel : decode cX12_keeps 74 = .ok (.iadd, 1)) ?_
  refine r_putI h f_Mod_340 at1M rfl rfl (by decide +kernel : decode cX12_keeps 75 = .ok (.putfield 340, 3)) ?_
  have H := H _ rfl
  revert H
  generalize (upr M1 1 (up1 (M1 1) 50 ((M1 1 50) + 1))) = M2
  intro H
  exact r_vret h rfl (by decide +kernel : decode cX12_keeps 78 = .ok (.return_, 1)) rfl ⟨rfl, rfl, H⟩
set_option maxHeartbeats 4000000 in
set_option maxRecDepth 100000 in
theorem w_Mod_keeps_11 {P : Mm → Prop} {K : Nat → Rr → Nat → List (Nat × AV) → List AV → Mm → Prop} (h : EK shM yX12_keeps cX12_keeps 2 none 2 NM NM (QV RRM P) K) (x1 : Int) (M : Mm)
    (H : (rng x1) ∧ (495 ≤ x1 → (∀ M1 : Mm, M1 = (upr M 1 (up1 (M 1) 50 ((M 1 50) - 1))) → K NM RRM 49 [(0, vr 1)] [] M1)) ∧ (¬ (495 ≤ x1) → ((0 ≤ (x1 + 33) ∧ (x1 + 33) < 528) ∧ (0 ≤ x1 ∧ x1 < 528) ∧ ∀ M2 : Mm, M2 = (upr M 37 (up1 (M 37) x1.toNat (M 37 (x1 + 33).toNat))) → K NM RRM 11 [(0, vr 1), (1, vi (x1 + 1))] [] M2))) :
    K NM RRM 11 [(0, vr 1), (1, vi x1)] [] M := by
  refine r_iloadn h (q := 1) 1 rfl (by decide +kernel : decode cX12_keeps 11 = .ok (.iload_n 1, 1)) ?_
  refine r_sipush h (v := 495) (by decide) (by decide +kernel : decode cX12_keeps 12 = .ok (.sipush 495, 3)) ?_
  obtain ⟨g1, H⟩ := H
  obtain ⟨H1, H2⟩ := H
  refine r_icmp_ge h 39 g1 (by decide) (by decide) (by decide +kernel : decode cX12_keeps 15 = .ok (.if_icmp .ge 24, 3)) (fun hc => ?_) (fun hc => ?_)
  · have H := H1 hc
    refine r_aloadn h (q := 0) 0 rfl (by decide +kernel : decode cX12_keeps 39 = .ok (.aload_n 0, 1)) ?_
    refine r_dup h rfl (by decide +kernel : decode cX12_keeps 40 = .ok (.dup, 1)) ?_
    refine r_getI h f_Mod_340 at1M (by decide +kernel : decode cX12_keeps 41 = .ok (.getfield 340, 3)) ?_
    refine r_iconst h (v := 1) (by decide +kernel : decode cX12_keeps 44 = .ok (.iconst 1, 1)) ?_
    refine r_isub h (by decide +kernel : decode cX12_keeps 45 = .ok (.isub, 1)) ?_
    refine r_putI h f_Mod_340 at1M rfl rfl (by decide +kernel : decode cX12_keeps 46 = .ok (.putfield 340, 3)) ?_
    have H := H _ rfl
    revert H
    generalize (upr M 1 (up1 (M 1) 50 ((M 1 50) - 1))) = M1
    intro H
    refine r_drop h [0] rfl ?_
    exact H
  · have H := H2 hc
    refine r_aloadn h (q := 0) 0 rfl (by decide +kernel : decode cX12_keeps 18 = .ok (.aload_n 0, 1)) ?_
    refine r_getR h (r := 37) f_Mod_117 at1M rfl (by decide) (by decide +kernel : decode cX12_keeps 19 = .ok (.getfield 117, 3)) ?_
    refine r_iloadn h (q := 1) 1 rfl (by decide +kernel : decode cX12_keeps 22 = .ok (.iload_n 1, 1)) ?_
    refine r_aloadn h (q := 0) 0 rfl (by decide +kernel : decode cX12_keeps 23 = .ok (.aload_n 0, 1)) ?_
    refine r_getR h (r := 37) f_Mod_117 at1M rfl (by decide) (by decide +kernel : decode cX12_keeps 24 = .ok (.getfield 117, 3)) ?_
    refine r_iloadn h (q := 1) 1 rfl (by decide +kernel : decode cX12_keeps 27 = .ok (.iload_n 1, 1)) ?_
    refine r_bipush h (v := 33) (by decide) (by decide +kernel : decode cX12_keeps 28 = .ok (.bipush 33, 2)) ?_
    refine r_iadd h (by decide +kernel : decode cX12_keeps 30 = .ok (.iadd, 1)) ?_
    obtain ⟨g1, H⟩ := H
    refine r_iald h (x1 + 33).toNat rfl atM_37 g1 (by decide) (by decide +kernel : decode cX12_keeps 31 = .ok (.iaload, 1)) ?_
    obtain ⟨g1, H⟩ := H
    refine r_iast h x1.toNat rfl atM_37 g1 (by decide) (by decide +kernel : decode cX12_keeps 32 = .ok (.iastore, 1)) ?_
    have H := H _ rfl
    revert H
    generalize (upr M 37 (up1 (M 37) x1.toNat (M 37 (x1 + 33).toNat))) = M2
    intro H
    refine r_iinc h (i := 1) (v := 1) (L' := [(1, vi (x1 + 1)), (0, vr 1)]) 1 rfl (by decide) rfl (by decide +kernel : decode cX12_keeps 33 = .ok (.iinc 1 1, 3)) ?_
    refine r_goto h 11 (by decide) (by decide +kernel : decode cX12_keeps 36 = .ok (.goto (-25), 3)) ?_
    refine r_drop h [1, 0] rfl ?_
    exact H
set_option maxHeartbeats 4000000 in
set_option maxRecDepth 100000 in
theorem w_Mod_undo_0 {P : Int → Mm → Prop} {K : Nat → Rr → Nat → List (Nat × AV) → List AV → Mm → Prop} (h : EK shM yX12_undo cX12_undo 1 (some .boolean) 2 NM NM (QI RRM P) K)  (M : Mm)
    (H : ∀ M1 : Mm, M1 = (upr M 1 (up1 (M 1) 0 0)) → (rng (M1 1 50)) ∧ ((M1 1 50) ≠ 0 → (∀ M2 : Mm, M2 = (upr M1 1 (up1 (M1 1) 50 ((M1 1 50) - 1))) → ∃ P3 : Mm → Prop, S_Mod_copies 37 528 (33 * (M2 1 50)) 34 33 0 M2 P3 ∧ ∀ M3 : Mm, P3 M3 → P 1 M3)) ∧ ((M1 1 50) = 0 → (P 0 M1))) :
    K NM RRM 0 [(0, vr 1)] [] M := by
  refine r_aloadn h (q := 0) 0 rfl (by decide +kernel : decode cX12_undo 0 = .ok (.aload_n 0, 1)) ?_
  refine r_iconst h (v := 0) (by decide +kernel : decode cX12_undo 1 = .ok (.iconst 0, 1)) ?_
  refine r_putI h f_Mod_147 at1M rfl rfl (by decide +kernel : decode cX12_undo 2 = .ok (.putfield 147, 3)) ?_
  have H := H _ rfl
  revert H
  generalize (upr M 1 (up1 (M 1) 0 0)) = M1
  intro H
  refine r_aloadn h (q := 0) 0 rfl (by decide +kernel : decode cX12_undo 5 = .ok (.aload_n 0, 1)) ?_
  refine r_getI h f_Mod_340 at1M (by decide +kernel : decode cX12_undo 6 = .ok (.getfield 340, 3)) ?_
  obtain ⟨g1, H⟩ := H
  obtain ⟨H1, H2⟩ := H
  refine r_if_ne h 14 g1 (by decide) (by decide +kernel : decode cX12_undo 9 = .ok (.ifCond .ne 5, 3)) (fun hc => ?_) (fun hc => ?_)
  · have H := H1 hc
    refine r_aloadn h (q := 0) 0 rfl (by decide +kernel : decode cX12_undo 14 = .ok (.aload_n 0, 1)) ?_
    refine r_dup h rfl (by decide +kernel : decode cX12_undo 15 = .ok (.dup, 1)) ?_
    refine r_getI h f_Mod_340 at1M (by decide +kernel : decode cX12_undo 16 = .ok (.getfield 340, 3)) ?_
    refine r_iconst h (v := 1) (by decide +kernel : decode cX12_undo 19 = .ok (.iconst 1, 1)) ?_
    refine r_isub h (by decide +kernel : decode cX12_undo 20 = .ok (.isub, 1)) ?_
    refine r_putI h f_Mod_340 at1M rfl rfl (by decide +kernel : decode cX12_undo 21 = .ok (.putfield 340, 3)) ?_
    have H := H _ rfl
    revert H
    generalize (upr M1 1 (up1 (M1 1) 50 ((M1 1 50) - 1))) = M2
    intro H
    refine r_aloadn h (q := 0) 0 rfl (by decide +kernel : decode cX12_undo 24 = .ok (.aload_n 0, 1)) ?_
    refine r_getR h (r := 37) f_Mod_117 at1M rfl (by decide) (by decide +kernel : decode cX12_undo 25 = .ok (.getfield 117, 3)) ?_
    refine r_bipush h (v := 33) (by decide) (by decide +kernel : decode cX12_undo 28 = .ok (.bipush 33, 2)) ?_
    refine r_aloadn h (q := 0) 0 rfl (by decide +kernel : decode cX12_undo 30 = .ok (.aload_n 0, 1)) ?_
    refine r_getI h f_Mod_340 at1M (by decide +kernel : decode cX12_undo 31 = .ok (.getfield 340, 3)) ?_
    refine r_imul h (by decide +kernel : decode cX12_undo 34 = .ok (.imul, 1)) ?_
    refine r_aloadn h (q := 0) 0 rfl (by decide +kernel : decode cX12_undo 35 = .ok (.aload_n 0, 1)) ?_
    refine r_getR h (r := 34) f_Mod_108 at1M rfl (by decide) (by decide +kernel : decode cX12_undo 36 = .ok (.getfield 108, 3)) ?_
    refine r_iconst h (v := 0) (by decide +kernel : decode cX12_undo 39 = .ok (.iconst 0, 1)) ?_
    obtain ⟨P3, hSP3, H⟩ := H
    refine r_callS h (as := [vr 37, vi (33 * (M2 1 50)), vr 34, vi 0]) (S := []) m_Mod_393 hSP3 (by decide) (Nat.le_refl _) rfl rfl (Nat.le_of_ble_eq_true rfl) (by decide +kernel : decode cX12_undo 40 = .ok (.invokestatic 393, 3)) ?_
    rintro _ _ M3 ⟨rfl, rfl, hP⟩
    have H := H M3 hP
    show K NM RRM _ _ [] _
    refine r_iconst h (v := 1) (by decide +kernel : decode cX12_undo 43 = .ok (.iconst 1, 1)) ?_
    exact r_zret h rfl (by decide) (by decide +kernel : decode cX12_undo 44 = .ok (.ireturn, 1)) rfl ⟨rfl, _, rfl, H⟩
  · have H := H2 hc
    refine r_iconst h (v := 0) (by decide +kernel : decode cX12_undo 12 = .ok (.iconst 0, 1)) ?_
    exact r_zret h rfl (by decide) (by decide +kernel : decode cX12_undo 13 = .ok (.ireturn, 1)) rfl ⟨rfl, _, rfl, H⟩
theorem W_Mod_undo  (M : Mm) {P : Int → Mm → Prop} (H : ∀ M1 : Mm, M1 = (upr M 1 (up1 (M 1) 0 0)) → (rng (M1 1 50)) ∧ ((M1 1 50) ≠ 0 → (∀ M2 : Mm, M2 = (upr M1 1 (up1 (M1 1) 50 ((M1 1 50) - 1))) → ∃ P3 : Mm → Prop, S_Mod_copies 37 528 (33 * (M2 1 50)) 34 33 0 M2 P3 ∧ ∀ M3 : Mm, P3 M3 → P 1 M3)) ∧ ((M1 1 50) = 0 → (P 0 M1))) : S_Mod_undo  M P := e_Mod_undo  M (fun _ h => w_Mod_undo_0 h  M H)
set_option maxHeartbeats 4000000 in
set_option maxRecDepth 100000 in
theorem w_Mod_isSomeDry_0 {P : Int → Mm → Prop} {K : Nat → Rr → Nat → List (Nat × AV) → List AV → Mm → Prop} (h : EK shM yX12_isSomeDry cX12_isSomeDry 3 (some .boolean) 2 NM NM (QI RRM P) K) (x1 : Int) (M : Mm)
    (H : K NM RRM 2 [(0, vr 1), (1, vi x1), (2, vi 0)] [] M) :
    K NM RRM 0 [(0, vr 1), (1, vi x1)] [] M := by
  refine r_iconst h (v := 0) (by decide +kernel : decode cX12_isSomeDry 0 = .ok (.iconst 0, 1)) ?_
  refine r_istoren h (q := 2) (L' := [(2, vi 0), (0, vr 1), (1, vi x1)]) (by decide) rfl (by decide +kernel : decode cX12_isSomeDry 1 = .ok (.istore_n 2, 1)) ?_
  refine r_drop h [1, 2, 0] rfl ?_
  exact H
set_option maxHeartbeats 4000000 in
set_option maxRecDepth 100000 in
theorem w_Mod_isSomeDry_2 {P : Int → Mm → Prop} {K : Nat → Rr → Nat → List (Nat × AV) → List AV → Mm → Prop} (h : EK shM yX12_isSomeDry cX12_isSomeDry 3 (some .boolean) 2 NM NM (QI RRM P) K) (x1 : Int) (x2 : Int) (M : Mm)
    (H : (rng x2) ∧ (rng (M 3 0)) ∧ ((M 3 0) ≤ x2 → (P 0 M)) ∧ (¬ ((M 3 0) ≤ x2) → (∃ P1 : Int → Mm → Prop, S_Mod_isGoing x2 M P1 ∧ ∀ (r1 : Int) (M1 : Mm), P1 r1 M1 → (rng r1) ∧ (r1 = 0 → (K NM RRM 2 [(0, vr 1), (1, vi x1), (2, vi (x2 + 1))] [] M1)) ∧ (r1 ≠ 0 → ((0 ≤ (19 + x2) ∧ (19 + x2) < 33) ∧ (rng (M1 34 (19 + x2).toNat)) ∧ (rng x1) ∧ (x1 < (M1 34 (19 + x2).toNat) → (K NM RRM 2 [(0, vr 1), (1, vi x1), (2, vi (x2 + 1))] [] M1)) ∧ (¬ (x1 < (M1 34 (19 + x2).toNat)) → (P 1 M1))))))) :
    K NM RRM 2 [(0, vr 1), (1, vi x1), (2, vi x2)] [] M := by
  refine r_iloadn h (q := 2) 2 rfl (by decide +kernel : decode cX12_isSomeDry 2 = .ok (.iload_n 2, 1)) ?_
  refine r_aloadn h (q := 0) 0 rfl (by decide +kernel : decode cX12_isSomeDry 3 = .ok (.aload_n 0, 1)) ?_
  refine r_getR h (r := 3) f_Mod_13 at1M rfl (by decide) (by decide +kernel : decode cX12_isSomeDry 4 = .ok (.getfield 13, 3)) ?_
  refine r_iconst h (v := 0) (by decide +kernel : decode cX12_isSomeDry 7 = .ok (.iconst 0, 1)) ?_
  refine r_iald h 0 rfl atM_3 (by decide) (by decide) (by decide +kernel : decode cX12_isSomeDry 8 = .ok (.iaload, 1)) ?_
  obtain ⟨g1, g2, H⟩ := H
  obtain ⟨H1, H2⟩ := H
  refine r_icmp_ge h 41 g1 g2 (by decide) (by decide +kernel : decode cX12_isSomeDry 9 = .ok (.if_icmp .ge 32, 3)) (fun hc => ?_) (fun hc => ?_)
  · have H := H1 hc
    refine r_iconst h (v := 0) (by decide +kernel : decode cX12_isSomeDry 41 = .ok (.iconst 0, 1)) ?_
    exact r_zret h rfl (by decide) (by decide +kernel : decode cX12_isSomeDry 42 = .ok (.ireturn, 1)) rfl ⟨rfl, _, rfl, H⟩
  · have H := H2 hc
    refine r_aloadn h (q := 0) 0 rfl (by decide +kernel : decode cX12_isSomeDry 12 = .ok (.aload_n 0, 1)) ?_
    refine r_iloadn h (q := 2) 2 rfl (by decide +kernel : decode cX12_isSomeDry 13 = .ok (.iload_n 2, 1)) ?_
    obtain ⟨P1, hSP1, H⟩ := H
    refine r_callV h (as := [vi x2]) (S := []) (b := 1) m_Mod_363 hSP1 (by decide) (Nat.le_refl _) rfl at1M rfl (Nat.le_of_ble_eq_true rfl) (by decide +kernel : decode cX12_isSomeDry 14 = .ok (.invokevirtual 363, 3)) ?_
    rintro _ _ M1 ⟨rfl, r1, rfl, hP⟩
    have H := H r1 M1 hP
    show K NM RRM _ _ [vi r1] _
    obtain ⟨g1, H⟩ := H
    obtain ⟨H1, H2⟩ := H
    refine r_if_eq h 35 g1 (by decide) (by decide +kernel : decode cX12_isSomeDry 17 = .ok (.ifCond .eq 18, 3)) (fun hc => ?_) (fun hc => ?_)
    · have H := H1 hc
      refine r_iinc h (i := 2) (v := 1) (L' := [(2, vi (x2 + 1)), (0, vr 1), (1, vi x1)]) 2 rfl (by decide) rfl (by decide +kernel : decode cX12_isSomeDry 35 = .ok (.iinc 2 1, 3)) ?_
      refine r_goto h 2 (by decide) (by decide +kernel : decode cX12_isSomeDry 38 = .ok (.goto (-36), 3)) ?_
      refine r_drop h [1, 2, 0] rfl ?_
      exact H
    · have H := H2 hc
      refine r_aloadn h (q := 0) 0 rfl (by decide +kernel : decode cX12_isSomeDry 20 = .ok (.aload_n 0, 1)) ?_
      refine r_getR h (r := 34) f_Mod_108 at1M rfl (by decide) (by decide +kernel : decode cX12_isSomeDry 21 = .ok (.getfield 108, 3)) ?_
      refine r_bipush h (v := 19) (by decide) (by decide +kernel : decode cX12_isSomeDry 24 = .ok (.bipush 19, 2)) ?_
      refine r_iloadn h (q := 2) 2 rfl (by decide +kernel : decode cX12_isSomeDry 26 = .ok (.iload_n 2, 1)) ?_
      refine r_iadd h (by decide +kernel : decode cX12_isSomeDry 27 = .ok (.iadd, 1)) ?_
      obtain ⟨g1, H⟩ := H
      refine r_iald h (19 + x2).toNat rfl atM_34 g1 (by decide) (by decide +kernel : decode cX12_isSomeDry 28 = .ok (.iaload, 1)) ?_
      refine r_iloadn h (q := 1) 1 rfl (by decide +kernel : decode cX12_isSomeDry 29 = .ok (.iload_n 1, 1)) ?_
      obtain ⟨g1, g2, H⟩ := H
      obtain ⟨H1, H2⟩ := H
      refine r_icmp_gt h 35 g1 g2 (by decide) (by decide +kernel : decode cX12_isSomeDry 30 = .ok (.if_icmp .gt 5, 3)) (fun hc => ?_) (fun hc => ?_)
      · have H := H1 hc
        refine r_iinc h (i := 2) (v := 1) (L' := [(2, vi (x2 + 1)), (0, vr 1), (1, vi x1)]) 2 rfl (by decide) rfl (by decide +kernel : decode cX12_isSomeDry 35 = .ok (.iinc 2 1, 3)) ?_
        refine r_goto h 2 (by decide) (by decide +kernel : decode cX12_isSomeDry 38 = .ok (.goto (-36), 3)) ?_
        refine r_drop h [1, 2, 0] rfl ?_
        exact H
      · have H := H2 hc
        refine r_iconst h (v := 1) (by decide +kernel : decode cX12_isSomeDry 33 = .ok (.iconst 1, 1)) ?_
        exact r_zret h rfl (by decide) (by decide +kernel : decode cX12_isSomeDry 34 = .ok (.ireturn, 1)) rfl ⟨rfl, _, rfl, H⟩
set_option maxHeartbeats 4000000 in
set_option maxRecDepth 100000 in
theorem w_Mod_hear_0 {P : Int → Mm → Prop} {K : Nat → Rr → Nat → List (Nat × AV) → List AV → Mm → Prop} (h : EK shM yX12_hear cX12_hear 2 (some .boolean) 2 NM NM (QI RRM P) K) (x1 : Int) (M : Mm)
    (H : ∀ M1 : Mm, M1 = (upr M 1 (up1 (M 1) 0 0)) → ∃ P2 : Int → Mm → Prop, S_Mod_within x1 0 693 M1 P2 ∧ ∀ (r1 : Int) (M2 : Mm), P2 r1 M2 → (rng r1) ∧ (r1 ≠ 0 → (∀ M3 : Mm, M3 = (upr M2 30 (up1 (M2 30) 0 x1)) → P 1 M3)) ∧ (r1 = 0 → (P 0 M2))) :
    K NM RRM 0 [(0, vr 1), (1, vi x1)] [] M := by
  refine r_aloadn h (q := 0) 0 rfl (by decide +kernel : decode cX12_hear 0 = .ok (.aload_n 0, 1)) ?_
  refine r_iconst h (v := 0) (by decide +kernel : decode cX12_hear 1 = .ok (.iconst 0, 1)) ?_
  refine r_putI h f_Mod_147 at1M rfl rfl (by decide +kernel : decode cX12_hear 2 = .ok (.putfield 147, 3)) ?_
  have H := H _ rfl
  revert H
  generalize (upr M 1 (up1 (M 1) 0 0)) = M1
  intro H
  refine r_iloadn h (q := 1) 1 rfl (by decide +kernel : decode cX12_hear 5 = .ok (.iload_n 1, 1)) ?_
  refine r_iconst h (v := 0) (by decide +kernel : decode cX12_hear 6 = .ok (.iconst 0, 1)) ?_
  refine r_sipush h (v := 693) (by decide) (by decide +kernel : decode cX12_hear 7 = .ok (.sipush 693, 3)) ?_
  obtain ⟨P2, hSP2, H⟩ := H
  refine r_callS h (as := [vi x1, vi 0, vi 693]) (S := []) m_Mod_275 hSP2 (by decide) (Nat.le_refl _) rfl rfl (Nat.le_of_ble_eq_true rfl) (by decide +kernel : decode cX12_hear 10 = .ok (.invokestatic 275, 3)) ?_
  rintro _ _ M2 ⟨rfl, r1, rfl, hP⟩
  have H := H r1 M2 hP
  show K NM RRM _ _ [vi r1] _
  obtain ⟨g1, H⟩ := H
  obtain ⟨H1, H2⟩ := H
  refine r_if_ne h 18 g1 (by decide) (by decide +kernel : decode cX12_hear 13 = .ok (.ifCond .ne 5, 3)) (fun hc => ?_) (fun hc => ?_)
  · have H := H1 hc
    refine r_aloadn h (q := 0) 0 rfl (by decide +kernel : decode cX12_hear 18 = .ok (.aload_n 0, 1)) ?_
    refine r_getR h (r := 30) f_Mod_96 at1M rfl (by decide) (by decide +kernel : decode cX12_hear 19 = .ok (.getfield 96, 3)) ?_
    refine r_iconst h (v := 0) (by decide +kernel : decode cX12_hear 22 = .ok (.iconst 0, 1)) ?_
    refine r_iloadn h (q := 1) 1 rfl (by decide +kernel : decode cX12_hear 23 = .ok (.iload_n 1, 1)) ?_
    refine r_iast h 0 rfl atM_30 (by decide) (by decide) (by decide +kernel : decode cX12_hear 24 = .ok (.iastore, 1)) ?_
    have H := H _ rfl
    revert H
    generalize (upr M2 30 (up1 (M2 30) 0 x1)) = M3
    intro H
    refine r_iconst h (v := 1) (by decide +kernel : decode cX12_hear 25 = .ok (.iconst 1, 1)) ?_
    exact r_zret h rfl (by decide) (by decide +kernel : decode cX12_hear 26 = .ok (.ireturn, 1)) rfl ⟨rfl, _, rfl, H⟩
  · have H := H2 hc
    refine r_iconst h (v := 0) (by decide +kernel : decode cX12_hear 16 = .ok (.iconst 0, 1)) ?_
    exact r_zret h rfl (by decide) (by decide +kernel : decode cX12_hear 17 = .ok (.ireturn, 1)) rfl ⟨rfl, _, rfl, H⟩
theorem W_Mod_hear (x1 : Int) (M : Mm) {P : Int → Mm → Prop} (H : ∀ M1 : Mm, M1 = (upr M 1 (up1 (M 1) 0 0)) → ∃ P2 : Int → Mm → Prop, S_Mod_within x1 0 693 M1 P2 ∧ ∀ (r1 : Int) (M2 : Mm), P2 r1 M2 → (rng r1) ∧ (r1 ≠ 0 → (∀ M3 : Mm, M3 = (upr M2 30 (up1 (M2 30) 0 x1)) → P 1 M3)) ∧ (r1 = 0 → (P 0 M2))) : S_Mod_hear x1 M P := e_Mod_hear x1 M (fun _ h => w_Mod_hear_0 h x1 M H)
set_option maxHeartbeats 4000000 in
set_option maxRecDepth 100000 in
theorem w_Mod_see_0 {P : Int → Mm → Prop} {K : Nat → Rr → Nat → List (Nat × AV) → List AV → Mm → Prop} (h : EK shM yX12_see cX12_see 3 (some .boolean) 2 NM NM (QI RRM P) K) (x1 : Int) (x2 : Int) (M : Mm)
    (H : ∀ M1 : Mm, M1 = (upr M 1 (up1 (M 1) 0 0)) → ∃ P2 : Int → Mm → Prop, S_Mod_isHouse x1 M1 P2 ∧ ∀ (r1 : Int) (M2 : Mm), P2 r1 M2 → (rng r1) ∧ (r1 = 0 → (P 0 M2)) ∧ (r1 ≠ 0 → (∃ P3 : Int → Mm → Prop, S_Mod_isHouse x2 M2 P3 ∧ ∀ (r2 : Int) (M3 : Mm), P3 r2 M3 → (rng r2) ∧ (r2 = 0 → (P 0 M3)) ∧ (r2 ≠ 0 → ((rng x1) ∧ (rng x2) ∧ (x1 = x2 → (P 0 M3)) ∧ (x1 ≠ x2 → ((rng (M3 31 0)) ∧ ((M3 31 0) ≠ 8 → ((0 ≤ (M3 31 0) ∧ (M3 31 0) < 40) ∧ ∀ M4 : Mm, M4 = (upr M3 32 (up1 (M3 32) (M3 31 0).toNat x1)) → (0 ≤ (M4 31 0) ∧ (M4 31 0) < 40) ∧ ∀ M5 : Mm, M5 = (upr M4 33 (up1 (M4 33) (M4 31 0).toNat x2)) → ∀ M6 : Mm, M6 = (upr M5 31 (up1 (M5 31) 0 ((M5 31 0) + 1))) → P 1 M6)) ∧ ((M3 31 0) = 8 → (P 0 M3))))))))) :
    K NM RRM 0 [(0, vr 1), (1, vi x1), (2, vi x2)] [] M := by
  refine r_aloadn h (q := 0) 0 rfl (by decide +kernel : decode cX12_see 0 = .ok (.aload_n 0, 1)) ?_
  refine r_iconst h (v := 0) (by decide +kernel : decode cX12_see 1 = .ok (.iconst 0, 1)) ?_
  refine r_putI h f_Mod_147 at1M rfl rfl (by decide +kernel : decode cX12_see 2 = .ok (.putfield 147, 3)) ?_
  have H := H _ rfl
  revert H
  generalize (upr M 1 (up1 (M 1) 0 0)) = M1
  intro H
  refine r_aloadn h (q := 0) 0 rfl (by decide +kernel : decode cX12_see 5 = .ok (.aload_n 0, 1)) ?_
  refine r_iloadn h (q := 1) 1 rfl (by decide +kernel : decode cX12_see 6 = .ok (.iload_n 1, 1)) ?_
  obtain ⟨P2, hSP2, H⟩ := H
  refine r_callV h (as := [vi x1]) (S := []) (b := 1) m_Mod_390 hSP2 (by decide) (Nat.le_refl _) rfl at1M rfl (Nat.le_of_ble_eq_true rfl) (by decide +kernel : decode cX12_see 7 = .ok (.invokevirtual 390, 3)) ?_
  rintro _ _ M2 ⟨rfl, r1, rfl, hP⟩
  have H := H r1 M2 hP
  show K NM RRM _ _ [vi r1] _
  obtain ⟨g1, H⟩ := H
  obtain ⟨H1, H2⟩ := H
  refine r_if_eq h 37 g1 (by decide) (by decide +kernel : decode cX12_see 10 = .ok (.ifCond .eq 27, 3)) (fun hc => ?_) (fun hc => ?_)
  · have H := H1 hc
    refine r_iconst h (v := 0) (by decide +kernel : decode cX12_see 37 = .ok (.iconst 0, 1)) ?_
    exact r_zret h rfl (by decide) (by decide +kernel : decode cX12_see 38 = .ok (.ireturn, 1)) rfl ⟨rfl, _, rfl, H⟩
  · have H := H2 hc
    refine r_aloadn h (q := 0) 0 rfl (by decide +kernel : decode cX12_see 13 = .ok (.aload_n 0, 1)) ?_
    refine r_iloadn h (q := 2) 2 rfl (by decide +kernel : decode cX12_see 14 = .ok (.iload_n 2, 1)) ?_
    obtain ⟨P3, hSP3, H⟩ := H
    refine r_callV h (as := [vi x2]) (S := []) (b := 1) m_Mod_390 hSP3 (by decide) (Nat.le_refl _) rfl at1M rfl (Nat.le_of_ble_eq_true rfl) (by decide +kernel : decode cX12_see 15 = .ok (.invokevirtual 390, 3)) ?_
    rintro _ _ M3 ⟨rfl, r2, rfl, hP⟩
    have H := H r2 M3 hP
    show K NM RRM _ _ [vi r2] _
    obtain ⟨g1, H⟩ := H
    obtain ⟨H1, H2⟩ := H
    refine r_if_eq h 37 g1 (by decide) (by decide +kernel : decode cX12_see 18 = .ok (.ifCond .eq 19, 3)) (fun hc => ?_) (fun hc => ?_)
    · have H := H1 hc
      refine r_iconst h (v := 0) (by decide +kernel : decode cX12_see 37 = .ok (.iconst 0, 1)) ?_
      exact r_zret h rfl (by decide) (by decide +kernel : decode cX12_see 38 = .ok (.ireturn, 1)) rfl ⟨rfl, _, rfl, H⟩
    · have H := H2 hc
      refine r_iloadn h (q := 1) 1 rfl (by decide +kernel : decode cX12_see 21 = .ok (.iload_n 1, 1)) ?_
      refine r_iloadn h (q := 2) 2 rfl (by decide +kernel : decode cX12_see 22 = .ok (.iload_n 2, 1)) ?_
      obtain ⟨g1, g2, H⟩ := H
      obtain ⟨H1, H2⟩ := H
      refine r_icmp_eq h 37 g1 g2 (by decide) (by decide +kernel : decode cX12_see 23 = .ok (.if_icmp .eq 14, 3)) (fun hc => ?_) (fun hc => ?_)
      · have H := H1 hc
        refine r_iconst h (v := 0) (by decide +kernel : decode cX12_see 37 = .ok (.iconst 0, 1)) ?_
        exact r_zret h rfl (by decide) (by decide +kernel : decode cX12_see 38 = .ok (.ireturn, 1)) rfl ⟨rfl, _, rfl, H⟩
      · have H := H2 hc
        refine r_aloadn h (q := 0) 0 rfl (by decide +kernel : decode cX12_see 26 = .ok (.aload_n 0, 1)) ?_
        refine r_getR h (r := 31) f_Mod_99 at1M rfl (by decide) (by decide +kernel : decode cX12_see 27 = .ok (.getfield 99, 3)) ?_
        refine r_iconst h (v := 0) (by decide +kernel : decode cX12_see 30 = .ok (.iconst 0, 1)) ?_
        refine r_iald h 0 rfl atM_31 (by decide) (by decide) (by decide +kernel : decode cX12_see 31 = .ok (.iaload, 1)) ?_
        refine r_bipush h (v := 8) (by decide) (by decide +kernel : decode cX12_see 32 = .ok (.bipush 8, 2)) ?_
        obtain ⟨g1, H⟩ := H
        obtain ⟨H1, H2⟩ := H
        refine r_icmp_ne h 39 g1 (by decide) (by decide) (by decide +kernel : decode cX12_see 34 = .ok (.if_icmp .ne 5, 3)) (fun hc => ?_) (fun hc => ?_)
        · have H := H1 hc
          refine r_aloadn h (q := 0) 0 rfl (by decide +kernel : decode cX12_see 39 = .ok (.aload_n 0, 1)) ?_
          refine r_getR h (r := 32) f_Mod_102 at1M rfl (by decide) (by decide +kernel : decode cX12_see 40 = .ok (.getfield 102, 3)) ?_
          refine r_aloadn h (q := 0) 0 rfl (by decide +kernel : decode cX12_see 43 = .ok (.aload_n 0, 1)) ?_
          refine r_getR h (r := 31) f_Mod_99 at1M rfl (by decide) (by decide +kernel : decode cX12_see 44 = .ok (.getfield 99, 3)) ?_
          refine r_iconst h (v := 0) (by decide +kernel : decode cX12_see 47 = .ok (.iconst 0, 1)) ?_
          refine r_iald h 0 rfl atM_31 (by decide) (by decide) (by decide +kernel : decode cX12_see 48 = .ok (.iaload, 1)) ?_
          refine r_iloadn h (q := 1) 1 rfl (by decide +kernel : decode cX12_see 49 = .ok (.iload_n 1, 1)) ?_
          obtain ⟨g1, H⟩ := H
          refine r_iast h (M3 31 0).toNat rfl atM_32 g1 (by decide) (by decide +kernel : decode cX12_see 50 = .ok (.iastore, 1)) ?_
          have H := H _ rfl
          revert H
          generalize (upr M3 32 (up1 (M3 32) (M3 31 0).toNat x1)) = M4
          intro H
          refine r_aloadn h (q := 0) 0 rfl (by decide +kernel : decode cX12_see 51 = .ok (.aload_n 0, 1)) ?_
          refine r_getR h (r := 33) f_Mod_105 at1M rfl (by decide) (by decide +kernel : decode cX12_see 52 = .ok (.getfield 105, 3)) ?_
          refine r_aloadn h (q := 0) 0 rfl (by decide +kernel : decode cX12_see 55 = .ok (.aload_n 0, 1)) ?_
          refine r_getR h (r := 31) f_Mod_99 at1M rfl (by decide) (by decide +kernel : decode cX12_see 56 = .ok (.getfield 99, 3)) ?_
          refine r_iconst h (v := 0) (by decide +kernel : decode cX12_see 59 = .ok (.iconst 0, 1)) ?_
          refine r_iald h 0 rfl atM_31 (by decide) (by decide) (by decide +kernel : decode cX12_see 60 = .ok (.iaload, 1)) ?_
          refine r_iloadn h (q := 2) 2 rfl (by decide +kernel : decode cX12_see 61 = .ok (.iload_n 2, 1)) ?_
          obtain ⟨g1, H⟩ := H
          refine r_iast h (M4 31 0).toNat rfl atM_33 g1 (by decide) (by decide +kernel : decode cX12_see 62 = .ok (.iastore, 1)) ?_
          have H := H _ rfl
          revert H
          generalize (upr M4 33 (up1 (M4 33) (M4 31 0).toNat x2)) = M5
          intro H
          refine r_aloadn h (q := 0) 0 rfl (by decide +kernel : decode cX12_see 63 = .ok (.aload_n 0, 1)) ?_
          refine r_getR h (r := 31) f_Mod_99 at1M rfl (by decide) (by decide +kernel : decode cX12_see 64 = .ok (.getfield 99, 3)) ?_
          refine r_iconst h (v := 0) (by decide +kernel : decode cX12_see 67 = .ok (.iconst 0, 1)) ?_
          refine r_dup2 h rfl rfl (by decide +kernel : decode cX12_see 68 = .ok (.dup2, 1)) ?_
          refine r_iald h 0 rfl atM_31 (by decide) (by decide) (by decide +kernel : decode cX12_see 69 = .ok (.iaload, 1)) ?_
          refine r_iconst h (v := 1) (by decide +kernel : decode cX12_see 70 = .ok (.iconst 1, 1)) ?_
          refine r_iadd h (by decide +kernel : decode cX12_see 71 = .ok (.iadd, 1)) ?_
          refine r_iast h 0 rfl atM_31 (by decide) (by decide) (by decide +kernel : decode cX12_see 72 = .ok (.iastore, 1)) ?_
          have H := H _ rfl
          revert H
          generalize (upr M5 31 (up1 (M5 31) 0 ((M5 31 0) + 1))) = M6
          intro H
          refine r_iconst h (v := 1) (by decide +kernel : decode cX12_see 73 = .ok (.iconst 1, 1)) ?_
          exact r_zret h rfl (by decide) (by decide +kernel : decode cX12_see 74 = .ok (.ireturn, 1)) rfl ⟨rfl, _, rfl, H⟩
        · have H := H2 hc
          refine r_iconst h (v := 0) (by decide +kernel : decode cX12_see 37 = .ok (.iconst 0, 1)) ?_
          exact r_zret h rfl (by decide) (by decide +kernel : decode cX12_see 38 = .ok (.ireturn, 1)) rfl ⟨rfl, _, rfl, H⟩
theorem W_Mod_see (x1 : Int) (x2 : Int) (M : Mm) {P : Int → Mm → Prop} (H : ∀ M1 : Mm, M1 = (upr M 1 (up1 (M 1) 0 0)) → ∃ P2 : Int → Mm → Prop, S_Mod_isHouse x1 M1 P2 ∧ ∀ (r1 : Int) (M2 : Mm), P2 r1 M2 → (rng r1) ∧ (r1 = 0 → (P 0 M2)) ∧ (r1 ≠ 0 → (∃ P3 : Int → Mm → Prop, S_Mod_isHouse x2 M2 P3 ∧ ∀ (r2 : Int) (M3 : Mm), P3 r2 M3 → (rng r2) ∧ (r2 = 0 → (P 0 M3)) ∧ (r2 ≠ 0 → ((rng x1) ∧ (rng x2) ∧ (x1 = x2 → (P 0 M3)) ∧ (x1 ≠ x2 → ((rng (M3 31 0)) ∧ ((M3 31 0) ≠ 8 → ((0 ≤ (M3 31 0) ∧ (M3 31 0) < 40) ∧ ∀ M4 : Mm, M4 = (upr M3 32 (up1 (M3 32) (M3 31 0).toNat x1)) → (0 ≤ (M4 31 0) ∧ (M4 31 0) < 40) ∧ ∀ M5 : Mm, M5 = (upr M4 33 (up1 (M4 33) (M4 31 0).toNat x2)) → ∀ M6 : Mm, M6 = (upr M5 31 (up1 (M5 31) 0 ((M5 31 0) + 1))) → P 1 M6)) ∧ ((M3 31 0) = 8 → (P 0 M3))))))))) : S_Mod_see x1 x2 M P := e_Mod_see x1 x2 M (fun _ h => w_Mod_see_0 h x1 x2 M H)
set_option maxHeartbeats 4000000 in
set_option maxRecDepth 100000 in
theorem w_Mod_laysOrders_0 {P : Int → Mm → Prop} {K : Nat → Rr → Nat → List (Nat × AV) → List AV → Mm → Prop} (h : EK shM yX12_laysOrders cX12_laysOrders 5 (some .int) 2 NM NM (QI RRM P) K)  (M : Mm)
    (H : K NM RRM 9 [(0, vr 1), (1, vi (M 3 0)), (2, vi 0)] [] M) :
    K NM RRM 0 [(0, vr 1)] [] M := by
  refine r_aloadn h (q := 0) 0 rfl (by decide +kernel : decode cX12_laysOrders 0 = .ok (.aload_n 0, 1)) ?_
  refine r_getR h (r := 3) f_Mod_13 at1M rfl (by decide) (by decide +kernel : decode cX12_laysOrders 1 = .ok (.getfield 13, 3)) ?_
  refine r_iconst h (v := 0) (by decide +kernel : decode cX12_laysOrders 4 = .ok (.iconst 0, 1)) ?_
  refine r_iald h 0 rfl atM_3 (by decide) (by decide) (by decide +kernel : decode cX12_laysOrders 5 = .ok (.iaload, 1)) ?_
  refine r_istoren h (q := 1) (L' := [(1, vi (M 3 0)), (0, vr 1)]) (by decide) rfl (by decide +kernel : decode cX12_laysOrders 6 = .ok (.istore_n 1, 1)) ?_
  refine r_iconst h (v := 0) (by decide +kernel : decode cX12_laysOrders 7 = .ok (.iconst 0, 1)) ?_
  refine r_istoren h (q := 2) (L' := [(2, vi 0), (1, vi (M 3 0)), (0, vr 1)]) (by decide) rfl (by decide +kernel : decode cX12_laysOrders 8 = .ok (.istore_n 2, 1)) ?_
  refine r_drop h [2, 1, 0] rfl ?_
  exact H
set_option maxHeartbeats 4000000 in
set_option maxRecDepth 100000 in
theorem w_Mod_laysOrders_9 {P : Int → Mm → Prop} {K : Nat → Rr → Nat → List (Nat × AV) → List AV → Mm → Prop} (h : EK shM yX12_laysOrders cX12_laysOrders 5 (some .int) 2 NM NM (QI RRM P) K) (x1 : Int) (x2 : Int) (M : Mm)
    (H : (rng x2) ∧ (7 ≤ x2 → (K NM RRM 30 [(0, vr 1), (1, vi x1), (2, vi 0)] [] M)) ∧ (¬ (7 ≤ x2) → ((0 ≤ x2 ∧ x2 < 7) ∧ ∀ M1 : Mm, M1 = (upr M 41 (up1 (M 41) x2.toNat 0)) → K NM RRM 9 [(0, vr 1), (1, vi x1), (2, vi (x2 + 1))] [] M1))) :
    K NM RRM 9 [(0, vr 1), (1, vi x1), (2, vi x2)] [] M := by
  refine r_iloadn h (q := 2) 2 rfl (by decide +kernel : decode cX12_laysOrders 9 = .ok (.iload_n 2, 1)) ?_
  refine r_bipush h (v := 7) (by decide) (by decide +kernel : decode cX12_laysOrders 10 = .ok (.bipush 7, 2)) ?_
  obtain ⟨g1, H⟩ := H
  obtain ⟨H1, H2⟩ := H
  refine r_icmp_ge h 28 g1 (by decide) (by decide) (by decide +kernel : decode cX12_laysOrders 12 = .ok (.if_icmp .ge 16, 3)) (fun hc => ?_) (fun hc => ?_)
  · have H := H1 hc
    refine r_iconst h (v := 0) (by decide +kernel : decode cX12_laysOrders 28 = .ok (.iconst 0, 1)) ?_
    refine r_istoren h (q := 2) (L' := [(2, vi 0), (0, vr 1), (1, vi x1)]) (by decide) rfl (by decide +kernel : decode cX12_laysOrders 29 = .ok (.istore_n 2, 1)) ?_
    refine r_drop h [1, 2, 0] rfl ?_
    exact H
  · have H := H2 hc
    refine r_aloadn h (q := 0) 0 rfl (by decide +kernel : decode cX12_laysOrders 15 = .ok (.aload_n 0, 1)) ?_
    refine r_getR h (r := 41) f_Mod_129 at1M rfl (by decide) (by decide +kernel : decode cX12_laysOrders 16 = .ok (.getfield 129, 3)) ?_
    refine r_iloadn h (q := 2) 2 rfl (by decide +kernel : decode cX12_laysOrders 19 = .ok (.iload_n 2, 1)) ?_
    refine r_iconst h (v := 0) (by decide +kernel : decode cX12_laysOrders 20 = .ok (.iconst 0, 1)) ?_
    obtain ⟨g1, H⟩ := H
    refine r_iast h x2.toNat rfl atM_41 g1 (by decide) (by decide +kernel : decode cX12_laysOrders 21 = .ok (.iastore, 1)) ?_
    have H := H _ rfl
    revert H
    generalize (upr M 41 (up1 (M 41) x2.toNat 0)) = M1
    intro H
    refine r_iinc h (i := 2) (v := 1) (L' := [(2, vi (x2 + 1)), (0, vr 1), (1, vi x1)]) 2 rfl (by decide) rfl (by decide +kernel : decode cX12_laysOrders 22 = .ok (.iinc 2 1, 3)) ?_
    refine r_goto h 9 (by decide) (by decide +kernel : decode cX12_laysOrders 25 = .ok (.goto (-16), 3)) ?_
    refine r_drop h [1, 2, 0] rfl ?_
    exact H
set_option maxHeartbeats 4000000 in
set_option maxRecDepth 100000 in
theorem w_Mod_laysOrders_30 {P : Int → Mm → Prop} {K : Nat → Rr → Nat → List (Nat × AV) → List AV → Mm → Prop} (h : EK shM yX12_laysOrders cX12_laysOrders 5 (some .int) 2 NM NM (QI RRM P) K) (x1 : Int) (x2 : Int) (M : Mm)
    (H : (rng x2) ∧ (rng (M 31 0)) ∧ ((M 31 0) ≤ x2 → (K NM RRM 76 [(0, vr 1), (1, vi x1), (2, vi ((shlI 1 x1) - 1)), (3, vi 0)] [] M)) ∧ (¬ ((M 31 0) ≤ x2) → ((0 ≤ x2 ∧ x2 < 40) ∧ (0 ≤ (M 33 x2.toNat) ∧ (M 33 x2.toNat) < 7) ∧ (0 ≤ x2 ∧ x2 < 40) ∧ (0 ≤ (M 33 x2.toNat) ∧ (M 33 x2.toNat) < 7) ∧ ∀ M1 : Mm, M1 = (upr M 41 (up1 (M 41) (M 33 x2.toNat).toNat (orI (M 41 (M 33 x2.toNat).toNat) (shlI 1 (M 32 x2.toNat))))) → K NM RRM 30 [(0, vr 1), (1, vi x1), (2, vi (x2 + 1))] [] M1))) :
    K NM RRM 30 [(0, vr 1), (1, vi x1), (2, vi x2)] [] M := by
  refine r_iloadn h (q := 2) 2 rfl (by decide +kernel : decode cX12_laysOrders 30 = .ok (.iload_n 2, 1)) ?_
  refine r_aloadn h (q := 0) 0 rfl (by decide +kernel : decode cX12_laysOrders 31 = .ok (.aload_n 0, 1)) ?_
  refine r_getR h (r := 31) f_Mod_99 at1M rfl (by decide) (by decide +kernel : decode cX12_laysOrders 32 = .ok (.getfield 99, 3)) ?_
  refine r_iconst h (v := 0) (by decide +kernel : decode cX12_laysOrders 35 = .ok (.iconst 0, 1)) ?_
  refine r_iald h 0 rfl atM_31 (by decide) (by decide) (by decide +kernel : decode cX12_laysOrders 36 = .ok (.iaload, 1)) ?_
  obtain ⟨g1, g2, H⟩ := H
  obtain ⟨H1, H2⟩ := H
  refine r_icmp_ge h 68 g1 g2 (by decide) (by decide +kernel : decode cX12_laysOrders 37 = .ok (.if_icmp .ge 31, 3)) (fun hc => ?_) (fun hc => ?_)
  · have H := H1 hc
    refine r_iconst h (v := 1) (by decide +kernel : decode cX12_laysOrders 68 = .ok (.iconst 1, 1)) ?_
    refine r_iloadn h (q := 1) 1 rfl (by decide +kernel : decode cX12_laysOrders 69 = .ok (.iload_n 1, 1)) ?_
    refine r_ishl h (by decide +kernel : decode cX12_laysOrders 70 = .ok (.ishl, 1)) ?_
    refine r_iconst h (v := 1) (by decide +kernel : decode cX12_laysOrders 71 = .ok (.iconst 1, 1)) ?_
    refine r_isub h (by decide +kernel : decode cX12_laysOrders 72 = .ok (.isub, 1)) ?_
    refine r_istoren h (q := 2) (L' := [(2, vi ((shlI 1 x1) - 1)), (0, vr 1), (1, vi x1)]) (by decide) rfl (by decide +kernel : decode cX12_laysOrders 73 = .ok (.istore_n 2, 1)) ?_
    refine r_iconst h (v := 0) (by decide +kernel : decode cX12_laysOrders 74 = .ok (.iconst 0, 1)) ?_
    refine r_istoren h (q := 3) (L' := [(3, vi 0), (2, vi ((shlI 1 x1) - 1)), (0, vr 1), (1, vi x1)]) (by decide) rfl (by decide +kernel : decode cX12_laysOrders 75 = .ok (.istore_n 3, 1)) ?_
    refine r_drop h [2, 3, 1, 0] rfl ?_
    exact H
  · have H := H2 hc
    refine r_aloadn h (q := 0) 0 rfl (by decide +kernel : decode cX12_laysOrders 40 = .ok (.aload_n 0, 1)) ?_
    refine r_getR h (r := 41) f_Mod_129 at1M rfl (by decide) (by decide +kernel : decode cX12_laysOrders 41 = .ok (.getfield 129, 3)) ?_
    refine r_aloadn h (q := 0) 0 rfl (by decide +kernel : decode cX12_laysOrders 44 = .ok (.aload_n 0, 1)) ?_
    refine r_getR h (r := 33) f_Mod_105 at1M rfl (by decide) (by decide +kernel : decode cX12_laysOrders 45 = .ok (.getfield 105, 3)) ?_
    refine r_iloadn h (q := 2) 2 rfl (by decide +kernel : decode cX12_laysOrders 48 = .ok (.iload_n 2, 1)) ?_
    obtain ⟨g1, H⟩ := H
    refine r_iald h x2.toNat rfl atM_33 g1 (by decide) (by decide +kernel : decode cX12_laysOrders 49 = .ok (.iaload, 1)) ?_
    refine r_dup2 h rfl rfl (by decide +kernel : decode cX12_laysOrders 50 = .ok (.dup2, 1)) ?_
    obtain ⟨g1, H⟩ := H
    refine r_iald h (M 33 x2.toNat).toNat rfl atM_41 g1 (by decide) (by decide +kernel : decode cX12_laysOrders 51 = .ok (.iaload, 1)) ?_
    refine r_iconst h (v := 1) (by decide +kernel : decode cX12_laysOrders 52 = .ok (.iconst 1, 1)) ?_
    refine r_aloadn h (q := 0) 0 rfl (by decide +kernel : decode cX12_laysOrders 53 = .ok (.aload_n 0, 1)) ?_
    refine r_getR h (r := 32) f_Mod_102 at1M rfl (by decide) (by decide +kernel : decode cX12_laysOrders 54 = .ok (.getfield 102, 3)) ?_
    refine r_iloadn h (q := 2) 2 rfl (by decide +kernel : decode cX12_laysOrders 57 = .ok (.iload_n 2, 1)) ?_
    obtain ⟨g1, H⟩ := H
    refine r_iald h x2.toNat rfl atM_32 g1 (by decide) (by decide +kernel : decode cX12_laysOrders 58 = .ok (.iaload, 1)) ?_
    refine r_ishl h (by decide +kernel : decode cX12_laysOrders 59 = .ok (.ishl, 1)) ?_
    refine r_ior h (by decide +kernel : decode cX12_laysOrders 60 = .ok (.ior, 1)) ?_
    obtain ⟨g1, H⟩ := H
    refine r_iast h (M 33 x2.toNat).toNat rfl atM_41 g1 (by decide) (by decide +kernel : decode cX12_laysOrders 61 = .ok (.iastore, 1)) ?_
    have H := H _ rfl
    revert H
    generalize (upr M 41 (up1 (M 41) (M 33 x2.toNat).toNat (orI (M 41 (M 33 x2.toNat).toNat) (shlI 1 (M 32 x2.toNat))))) = M1
    intro H
    refine r_iinc h (i := 2) (v := 1) (L' := [(2, vi (x2 + 1)), (0, vr 1), (1, vi x1)]) 2 rfl (by decide) rfl (by decide +kernel : decode cX12_laysOrders 62 = .ok (.iinc 2 1, 3)) ?_
    refine r_goto h 30 (by decide) (by decide +kernel : decode cX12_laysOrders 65 = .ok (.goto (-35), 3)) ?_
    refine r_drop h [1, 2, 0] rfl ?_
    exact H
set_option maxHeartbeats 4000000 in
set_option maxRecDepth 100000 in
theorem w_Mod_laysOrders_76 {P : Int → Mm → Prop} {K : Nat → Rr → Nat → List (Nat × AV) → List AV → Mm → Prop} (h : EK shM yX12_laysOrders cX12_laysOrders 5 (some .int) 2 NM NM (QI RRM P) K) (x1 : Int) (x2 : Int) (x3 : Int) (M : Mm)
    (H : (rng x3) ∧ (rng x2) ∧ (x2 < x3 → (K NM RRM 104 [(0, vr 1), (1, vi x1), (2, vi x2), (3, vi 0)] [] M)) ∧ (¬ (x2 < x3) → ((rng x3) ∧ (x3 ≠ 0 → ((0 ≤ x3 ∧ x3 < 128) ∧ ∀ M1 : Mm, M1 = (upr M 42 (up1 (M 42) x3.toNat 0)) → K NM RRM 76 [(0, vr 1), (1, vi x1), (2, vi x2), (3, vi (x3 + 1))] [] M1)) ∧ (x3 = 0 → ((0 ≤ x3 ∧ x3 < 128) ∧ ∀ M2 : Mm, M2 = (upr M 42 (up1 (M 42) x3.toNat 1)) → K NM RRM 76 [(0, vr 1), (1, vi x1), (2, vi x2), (3, vi (x3 + 1))] [] M2))))) :
    K NM RRM 76 [(0, vr 1), (1, vi x1), (2, vi x2), (3, vi x3)] [] M := by
  refine r_iloadn h (q := 3) 3 rfl (by decide +kernel : decode cX12_laysOrders 76 = .ok (.iload_n 3, 1)) ?_
  refine r_iloadn h (q := 2) 2 rfl (by decide +kernel : decode cX12_laysOrders 77 = .ok (.iload_n 2, 1)) ?_
  obtain ⟨g1, g2, H⟩ := H
  obtain ⟨H1, H2⟩ := H
  refine r_icmp_gt h 102 g1 g2 (by decide) (by decide +kernel : decode cX12_laysOrders 78 = .ok (.if_icmp .gt 24, 3)) (fun hc => ?_) (fun hc => ?_)
  · have H := H1 hc
    refine r_iconst h (v := 0) (by decide +kernel : decode cX12_laysOrders 102 = .ok (.iconst 0, 1)) ?_
    refine r_istoren h (q := 3) (L' := [(3, vi 0), (0, vr 1), (1, vi x1), (2, vi x2)]) (by decide) rfl (by decide +kernel : decode cX12_laysOrders 103 = .ok (.istore_n 3, 1)) ?_
    refine r_drop h [1, 2, 3, 0] rfl ?_
    exact H
  · have H := H2 hc
    refine r_aloadn h (q := 0) 0 rfl (by decide +kernel : decode cX12_laysOrders 81 = .ok (.aload_n 0, 1)) ?_
    refine r_getR h (r := 42) f_Mod_132 at1M rfl (by decide) (by decide +kernel : decode cX12_laysOrders 82 = .ok (.getfield 132, 3)) ?_
    refine r_iloadn h (q := 3) 3 rfl (by decide +kernel : decode cX12_laysOrders 85 = .ok (.iload_n 3, 1)) ?_
    refine r_iloadn h (q := 3) 3 rfl (by decide +kernel : decode cX12_laysOrders 86 = .ok (.iload_n 3, 1)) ?_
    obtain ⟨g1, H⟩ := H
    obtain ⟨H1, H2⟩ := H
    refine r_if_ne h 94 g1 (by decide) (by decide +kernel : decode cX12_laysOrders 87 = .ok (.ifCond .ne 7, 3)) (fun hc => ?_) (fun hc => ?_)
    · have H := H1 hc
      refine r_iconst h (v := 0) (by decide +kernel : decode cX12_laysOrders 94 = .ok (.iconst 0, 1)) ?_
      obtain ⟨g1, H⟩ := H
      refine r_iast h x3.toNat rfl atM_42 g1 (by decide) (by decide +kernel : decode cX12_laysOrders 95 = .ok (.iastore, 1)) ?_
      have H := H _ rfl
      revert H
      generalize (upr M 42 (up1 (M 42) x3.toNat 0)) = M1
      intro H
      refine r_iinc h (i := 3) (v := 1) (L' := [(3, vi (x3 + 1)), (0, vr 1), (1, vi x1), (2, vi x2)]) 3 rfl (by decide) rfl (by decide +kernel : decode cX12_laysOrders 96 = .ok (.iinc 3 1, 3)) ?_
      refine r_goto h 76 (by decide) (by decide +kernel : decode cX12_laysOrders 99 = .ok (.goto (-23), 3)) ?_
      refine r_drop h [1, 2, 3, 0] rfl ?_
      exact H
    · have H := H2 hc
      refine r_iconst h (v := 1) (by decide +kernel : decode cX12_laysOrders 90 = .ok (.iconst 1, 1)) ?_
      refine r_goto h 95 (by decide) (by decide +kernel : decode cX12_laysOrders 91 = .ok (.goto 4, 3)) ?_
      obtain ⟨g1, H⟩ := H
      refine r_iast h x3.toNat rfl atM_42 g1 (by decide) (by decide +kernel : decode cX12_laysOrders 95 = .ok (.iastore, 1)) ?_
      have H := H _ rfl
      revert H
      generalize (upr M 42 (up1 (M 42) x3.toNat 1)) = M2
      intro H
      refine r_iinc h (i := 3) (v := 1) (L' := [(3, vi (x3 + 1)), (0, vr 1), (1, vi x1), (2, vi x2)]) 3 rfl (by decide) rfl (by decide +kernel : decode cX12_laysOrders 96 = .ok (.iinc 3 1, 3)) ?_
      refine r_goto h 76 (by decide) (by decide +kernel : decode cX12_laysOrders 99 = .ok (.goto (-23), 3)) ?_
      refine r_drop h [1, 2, 3, 0] rfl ?_
      exact H
set_option maxHeartbeats 4000000 in
set_option maxRecDepth 100000 in
theorem w_Mod_laysOrders_104 {P : Int → Mm → Prop} {K : Nat → Rr → Nat → List (Nat × AV) → List AV → Mm → Prop} (h : EK shM yX12_laysOrders cX12_laysOrders 5 (some .int) 2 NM NM (QI RRM P) K) (x1 : Int) (x2 : Int) (x3 : Int) (M : Mm)
    (H : (rng x3) ∧ (rng x2) ∧ (x2 < x3 → (K NM RRM 162 [(0, vr 1), (1, vi x1), (2, vi x2), (3, vi x2)] [] M)) ∧ (¬ (x2 < x3) → (K NM RRM 112 [(0, vr 1), (1, vi x1), (2, vi x2), (3, vi x3), (4, vi 0)] [] M))) :
    K NM RRM 104 [(0, vr 1), (1, vi x1), (2, vi x2), (3, vi x3)] [] M := by
  refine r_iloadn h (q := 3) 3 rfl (by decide +kernel : decode cX12_laysOrders 104 = .ok (.iload_n 3, 1)) ?_
  refine r_iloadn h (q := 2) 2 rfl (by decide +kernel : decode cX12_laysOrders 105 = .ok (.iload_n 2, 1)) ?_
  obtain ⟨g1, g2, H⟩ := H
  obtain ⟨H1, H2⟩ := H
  refine r_icmp_gt h 160 g1 g2 (by decide) (by decide +kernel : decode cX12_laysOrders 106 = .ok (.if_icmp .gt 54, 3)) (fun hc => ?_) (fun hc => ?_)
  · have H := H1 hc
    refine r_iloadn h (q := 2) 2 rfl (by decide +kernel : decode cX12_laysOrders 160 = .ok (.iload_n 2, 1)) ?_
    refine r_istoren h (q := 3) (L' := [(3, vi x2), (0, vr 1), (1, vi x1), (2, vi x2)]) (by decide) rfl (by decide +kernel : decode cX12_laysOrders 161 = .ok (.istore_n 3, 1)) ?_
    refine r_drop h [1, 2, 3, 0] rfl ?_
    exact H
  · have H := H2 hc
    refine r_iconst h (v := 0) (by decide +kernel : decode cX12_laysOrders 109 = .ok (.iconst 0, 1)) ?_
    refine r_istore h (L' := [(4, vi 0), (0, vr 1), (1, vi x1), (2, vi x2), (3, vi x3)]) (by decide) rfl (by decide +kernel : decode cX12_laysOrders 110 = .ok (.istore 4, 2)) ?_
    refine r_drop h [1, 2, 3, 4, 0] rfl ?_
    exact H
set_option maxHeartbeats 4000000 in
set_option maxRecDepth 100000 in
theorem w_Mod_laysOrders_162 {P : Int → Mm → Prop} {K : Nat → Rr → Nat → List (Nat × AV) → List AV → Mm → Prop} (h : EK shM yX12_laysOrders cX12_laysOrders 5 (some .int) 2 NM NM (QI RRM P) K) (x1 : Int) (x2 : Int) (x3 : Int) (M : Mm)
    (H : (rng x3) ∧ (x3 < 0 → ((0 ≤ x2 ∧ x2 < 128) ∧ P (M 42 x2.toNat) M)) ∧ (¬ (x3 < 0) → ((rng x3) ∧ (rng x2) ∧ (x3 ≠ x2 → ((0 ≤ x3 ∧ x3 < 128) ∧ ∀ M1 : Mm, M1 = (upr M 43 (up1 (M 43) x3.toNat 0)) → K NM RRM 185 [(0, vr 1), (1, vi x1), (2, vi x2), (3, vi x3), (4, vi 0)] [] M1)) ∧ (x3 = x2 → ((0 ≤ x3 ∧ x3 < 128) ∧ ∀ M2 : Mm, M2 = (upr M 43 (up1 (M 43) x3.toNat 1)) → K NM RRM 185 [(0, vr 1), (1, vi x1), (2, vi x2), (3, vi x3), (4, vi 0)] [] M2))))) :
    K NM RRM 162 [(0, vr 1), (1, vi x1), (2, vi x2), (3, vi x3)] [] M := by
  refine r_iloadn h (q := 3) 3 rfl (by decide +kernel : decode cX12_laysOrders 162 = .ok (.iload_n 3, 1)) ?_
  obtain ⟨g1, H⟩ := H
  obtain ⟨H1, H2⟩ := H
  refine r_if_lt h 233 g1 (by decide) (by decide +kernel : decode cX12_laysOrders 163 = .ok (.ifCond .lt 70, 3)) (fun hc => ?_) (fun hc => ?_)
  · have H := H1 hc
    refine r_aloadn h (q := 0) 0 rfl (by decide +kernel : decode cX12_laysOrders 233 = .ok (.aload_n 0, 1)) ?_
    refine r_getR h (r := 42) f_Mod_132 at1M rfl (by decide) (by decide +kernel : decode cX12_laysOrders 234 = .ok (.getfield 132, 3)) ?_
    refine r_iloadn h (q := 2) 2 rfl (by decide +kernel : decode cX12_laysOrders 237 = .ok (.iload_n 2, 1)) ?_
    obtain ⟨g1, H⟩ := H
    refine r_iald h x2.toNat rfl atM_42 g1 (by decide) (by decide +kernel : decode cX12_laysOrders 238 = .ok (.iaload, 1)) ?_
    exact r_iret h rfl (by decide +kernel : decode cX12_laysOrders 239 = .ok (.ireturn, 1)) rfl ⟨rfl, _, rfl, H⟩
  · have H := H2 hc
    refine r_aloadn h (q := 0) 0 rfl (by decide +kernel : decode cX12_laysOrders 166 = .ok (.aload_n 0, 1)) ?_
    refine r_getR h (r := 43) f_Mod_135 at1M rfl (by decide) (by decide +kernel : decode cX12_laysOrders 167 = .ok (.getfield 135, 3)) ?_
    refine r_iloadn h (q := 3) 3 rfl (by decide +kernel : decode cX12_laysOrders 170 = .ok (.iload_n 3, 1)) ?_
    refine r_iloadn h (q := 3) 3 rfl (by decide +kernel : decode cX12_laysOrders 171 = .ok (.iload_n 3, 1)) ?_
    refine r_iloadn h (q := 2) 2 rfl (by decide +kernel : decode cX12_laysOrders 172 = .ok (.iload_n 2, 1)) ?_
    obtain ⟨g1, g2, H⟩ := H
    obtain ⟨H1, H2⟩ := H
    refine r_icmp_ne h 180 g1 g2 (by decide) (by decide +kernel : decode cX12_laysOrders 173 = .ok (.if_icmp .ne 7, 3)) (fun hc => ?_) (fun hc => ?_)
    · have H := H1 hc
      refine r_iconst h (v := 0) (by decide +kernel : decode cX12_laysOrders 180 = .ok (.iconst 0, 1)) ?_
      obtain ⟨g1, H⟩ := H
      refine r_iast h x3.toNat rfl atM_43 g1 (by decide) (by decide +kernel : decode cX12_laysOrders 181 = .ok (.iastore, 1)) ?_
      have H := H _ rfl
      revert H
      generalize (upr M 43 (up1 (M 43) x3.toNat 0)) = M1
      intro H
      refine r_iconst h (v := 0) (by decide +kernel : decode cX12_laysOrders 182 = .ok (.iconst 0, 1)) ?_
      refine r_istore h (L' := [(4, vi 0), (0, vr 1), (1, vi x1), (2, vi x2), (3, vi x3)]) (by decide) rfl (by decide +kernel : decode cX12_laysOrders 183 = .ok (.istore 4, 2)) ?_
      refine r_drop h [1, 2, 3, 4, 0] rfl ?_
      exact H
    · have H := H2 hc
      refine r_iconst h (v := 1) (by decide +kernel : decode cX12_laysOrders 176 = .ok (.iconst 1, 1)) ?_
      refine r_goto h 181 (by decide) (by decide +kernel : decode cX12_laysOrders 177 = .ok (.goto 4, 3)) ?_
      obtain ⟨g1, H⟩ := H
      refine r_iast h x3.toNat rfl atM_43 g1 (by decide) (by decide +kernel : decode cX12_laysOrders 181 = .ok (.iastore, 1)) ?_
      have H := H _ rfl
      revert H
      generalize (upr M 43 (up1 (M 43) x3.toNat 1)) = M2
      intro H
      refine r_iconst h (v := 0) (by decide +kernel : decode cX12_laysOrders 182 = .ok (.iconst 0, 1)) ?_
      refine r_istore h (L' := [(4, vi 0), (0, vr 1), (1, vi x1), (2, vi x2), (3, vi x3)]) (by decide) rfl (by decide +kernel : decode cX12_laysOrders 183 = .ok (.istore 4, 2)) ?_
      refine r_drop h [1, 2, 3, 4, 0] rfl ?_
      exact H
set_option maxHeartbeats 4000000 in
set_option maxRecDepth 100000 in
theorem w_Mod_laysOrders_112 {P : Int → Mm → Prop} {K : Nat → Rr → Nat → List (Nat × AV) → List AV → Mm → Prop} (h : EK shM yX12_laysOrders cX12_laysOrders 5 (some .int) 2 NM NM (QI RRM P) K) (x1 : Int) (x2 : Int) (x3 : Int) (x4 : Int) (M : Mm)
    (H : (rng x4) ∧ (rng x1) ∧ (x1 ≤ x4 → (K NM RRM 104 [(0, vr 1), (1, vi x1), (2, vi x2), (3, vi (x3 + 1))] [] M)) ∧ (¬ (x1 ≤ x4) → (∃ P1 : Int → Mm → Prop, S_Mod_mayFollow x3 x4 M P1 ∧ ∀ (r1 : Int) (M1 : Mm), P1 r1 M1 → (rng r1) ∧ (r1 = 0 → (K NM RRM 112 [(0, vr 1), (1, vi x1), (2, vi x2), (3, vi x3), (4, vi (x4 + 1))] [] M1)) ∧ (r1 ≠ 0 → ((0 ≤ (orI x3 (shlI 1 x4)) ∧ (orI x3 (shlI 1 x4)) < 128) ∧ (0 ≤ x3 ∧ x3 < 128) ∧ (0 ≤ (orI x3 (shlI 1 x4)) ∧ (orI x3 (shlI 1 x4)) < 128) ∧ ∀ M2 : Mm, M2 = (upr M1 42 (up1 (M1 42) (orI x3 (shlI 1 x4)).toNat ((M1 42 (orI x3 (shlI 1 x4)).toNat) + (M1 42 x3.toNat)))) → K NM RRM 112 [(0, vr 1), (1, vi x1), (2, vi x2), (3, vi x3), (4, vi (x4 + 1))] [] M2))))) :
    K NM RRM 112 [(0, vr 1), (1, vi x1), (2, vi x2), (3, vi x3), (4, vi x4)] [] M := by
  refine r_iload h 4 rfl (by decide +kernel : decode cX12_laysOrders 112 = .ok (.iload 4, 2)) ?_
  refine r_iloadn h (q := 1) 1 rfl (by decide +kernel : decode cX12_laysOrders 114 = .ok (.iload_n 1, 1)) ?_
  obtain ⟨g1, g2, H⟩ := H
  obtain ⟨H1, H2⟩ := H
  refine r_icmp_ge h 154 g1 g2 (by decide) (by decide +kernel : decode cX12_laysOrders 115 = .ok (.if_icmp .ge 39, 3)) (fun hc => ?_) (fun hc => ?_)
  · have H := H1 hc
    refine r_iinc h (i := 3) (v := 1) (L' := [(3, vi (x3 + 1)), (0, vr 1), (1, vi x1), (2, vi x2), (4, vi x4)]) 3 rfl (by decide) rfl (by decide +kernel : decode cX12_laysOrders 154 = .ok (.iinc 3 1, 3)) ?_
    refine r_goto h 104 (by decide) (by decide +kernel : decode cX12_laysOrders 157 = .ok (.goto (-53), 3)) ?_
    refine r_drop h [1, 2, 3, 0] rfl ?_
    exact H
  · have H := H2 hc
    refine r_aloadn h (q := 0) 0 rfl (by decide +kernel : decode cX12_laysOrders 118 = .ok (.aload_n 0, 1)) ?_
    refine r_iloadn h (q := 3) 3 rfl (by decide +kernel : decode cX12_laysOrders 119 = .ok (.iload_n 3, 1)) ?_
    refine r_iload h 4 rfl (by decide +kernel : decode cX12_laysOrders 120 = .ok (.iload 4, 2)) ?_
    obtain ⟨P1, hSP1, H⟩ := H
    refine r_callV h (as := [vi x3, vi x4]) (S := []) (b := 1) m_Mod_450 hSP1 (by decide) (Nat.le_refl _) rfl at1M rfl (Nat.le_of_ble_eq_true rfl) (by decide +kernel : decode cX12_laysOrders 122 = .ok (.invokevirtual 450, 3)) ?_
    rintro _ _ M1 ⟨rfl, r1, rfl, hP⟩
    have H := H r1 M1 hP
    show K NM RRM _ _ [vi r1] _
    obtain ⟨g1, H⟩ := H
    obtain ⟨H1, H2⟩ := H
    refine r_if_eq h 148 g1 (by decide) (by decide +kernel : decode cX12_laysOrders 125 = .ok (.ifCond .eq 23, 3)) (fun hc => ?_) (fun hc => ?_)
    · have H := H1 hc
      refine r_iinc h (i := 4) (v := 1) (L' := [(4, vi (x4 + 1)), (0, vr 1), (1, vi x1), (2, vi x2), (3, vi x3)]) 4 rfl (by decide) rfl (by decide +kernel : decode cX12_laysOrders 148 = .ok (.iinc 4 1, 3)) ?_
      refine r_goto h 112 (by decide) (by decide +kernel : decode cX12_laysOrders 151 = .ok (.goto (-39), 3)) ?_
      refine r_drop h [1, 2, 3, 4, 0] rfl ?_
      exact H
    · have H := H2 hc
      refine r_aloadn h (q := 0) 0 rfl (by decide +kernel : decode cX12_laysOrders 128 = .ok (.aload_n 0, 1)) ?_
      refine r_getR h (r := 42) f_Mod_132 at1M rfl (by decide) (by decide +kernel : decode cX12_laysOrders 129 = .ok (.getfield 132, 3)) ?_
      refine r_iloadn h (q := 3) 3 rfl (by decide +kernel : decode cX12_laysOrders 132 = .ok (.iload_n 3, 1)) ?_
      refine r_iconst h (v := 1) (by decide +kernel : decode cX12_laysOrders 133 = .ok (.iconst 1, 1)) ?_
      refine r_iload h 4 rfl (by decide +kernel : decode cX12_laysOrders 134 = .ok (.iload 4, 2)) ?_
      refine r_ishl h (by decide +kernel : decode cX12_laysOrders 136 = .ok (.ishl, 1)) ?_
      refine r_ior h (by decide +kernel : decode cX12_laysOrders 137 = .ok (.ior, 1)) ?_
      refine r_dup2 h rfl rfl (by decide +kernel : decode cX12_laysOrders 138 = .ok (.dup2, 1)) ?_
      obtain ⟨g1, H⟩ := H
      refine r_iald h (orI x3 (shlI 1 x4)).toNat rfl atM_42 g1 (by decide) (by decide +kernel : decode cX12_laysOrders 139 = .ok (.iaload, 1)) ?_
      refine r_aloadn h (q := 0) 0 rfl (by decide +kernel : decode cX12_laysOrders 140 = .ok (.aload_n 0, 1)) ?_
      refine r_getR h (r := 42) f_Mod_132 at1M rfl (by decide) (by decide +kernel : decode cX12_laysOrders 141 = .ok (.getfield 132, 3)) ?_
      refine r_iloadn h (q := 3) 3 rfl (by decide +kernel : decode cX12_laysOrders 144 = .ok (.iload_n 3, 1)) ?_
      obtain ⟨g1, H⟩ := H
      refine r_iald h x3.toNat rfl atM_42 g1 (by decide) (by decide +kernel : decode cX12_laysOrders 145 = .ok (.iaload, 1)) ?_
      refine r_iadd h (by decide +kernel : decode cX12_laysOrders 146 = .ok (.iadd, 1)) ?_
      obtain ⟨g1, H⟩ := H
      refine r_iast h (orI x3 (shlI 1 x4)).toNat rfl atM_42 g1 (by decide) (by decide +kernel : decode cX12_laysOrders 147 = .ok (.iastore, 1)) ?_
      have H := H _ rfl
      revert H
      generalize (upr M1 42 (up1 (M1 42) (orI x3 (shlI 1 x4)).toNat ((M1 42 (orI x3 (shlI 1 x4)).toNat) + (M1 42 x3.toNat)))) = M2
      intro H
      refine r_iinc h (i := 4) (v := 1) (L' := [(4, vi (x4 + 1)), (0, vr 1), (1, vi x1), (2, vi x2), (3, vi x3)]) 4 rfl (by decide) rfl (by decide +kernel : decode cX12_laysOrders 148 = .ok (.iinc 4 1, 3)) ?_
      refine r_goto h 112 (by decide) (by decide +kernel : decode cX12_laysOrders 151 = .ok (.goto (-39), 3)) ?_
      refine r_drop h [1, 2, 3, 4, 0] rfl ?_
      exact H
set_option maxHeartbeats 4000000 in
set_option maxRecDepth 100000 in
theorem w_Mod_laysOrders_185 {P : Int → Mm → Prop} {K : Nat → Rr → Nat → List (Nat × AV) → List AV → Mm → Prop} (h : EK shM yX12_laysOrders cX12_laysOrders 5 (some .int) 2 NM NM (QI RRM P) K) (x1 : Int) (x2 : Int) (x3 : Int) (x4 : Int) (M : Mm)
    (H : (rng x4) ∧ (rng x1) ∧ (x1 ≤ x4 → (K NM RRM 162 [(0, vr 1), (1, vi x1), (2, vi x2), (3, vi (x3 + (-1)))] [] M)) ∧ (¬ (x1 ≤ x4) → (∃ P1 : Int → Mm → Prop, S_Mod_mayFollow x3 x4 M P1 ∧ ∀ (r1 : Int) (M1 : Mm), P1 r1 M1 → (rng r1) ∧ (r1 = 0 → (K NM RRM 185 [(0, vr 1), (1, vi x1), (2, vi x2), (3, vi x3), (4, vi (x4 + 1))] [] M1)) ∧ (r1 ≠ 0 → ((0 ≤ x3 ∧ x3 < 128) ∧ (0 ≤ (orI x3 (shlI 1 x4)) ∧ (orI x3 (shlI 1 x4)) < 128) ∧ (0 ≤ x3 ∧ x3 < 128) ∧ ∀ M2 : Mm, M2 = (upr M1 43 (up1 (M1 43) x3.toNat ((M1 43 x3.toNat) + (M1 43 (orI x3 (shlI 1 x4)).toNat)))) → K NM RRM 185 [(0, vr 1), (1, vi x1), (2, vi x2), (3, vi x3), (4, vi (x4 + 1))] [] M2))))) :
    K NM RRM 185 [(0, vr 1), (1, vi x1), (2, vi x2), (3, vi x3), (4, vi x4)] [] M := by
  refine r_iload h 4 rfl (by decide +kernel : decode cX12_laysOrders 185 = .ok (.iload 4, 2)) ?_
  refine r_iloadn h (q := 1) 1 rfl (by decide +kernel : decode cX12_laysOrders 187 = .ok (.iload_n 1, 1)) ?_
  obtain ⟨g1, g2, H⟩ := H
  obtain ⟨H1, H2⟩ := H
  refine r_icmp_ge h 227 g1 g2 (by decide) (by decide +kernel : decode cX12_laysOrders 188 = .ok (.if_icmp .ge 39, 3)) (fun hc => ?_) (fun hc => ?_)
  · have H := H1 hc
    refine r_iinc h (i := 3) (v := (-1)) (L' := [(3, vi (x3 + (-1))), (0, vr 1), (1, vi x1), (2, vi x2), (4, vi x4)]) 3 rfl (by decide) rfl (by decide +kernel : decode cX12_laysOrders 227 = .ok (.iinc 3 (-1), 3)) ?_
    refine r_goto h 162 (by decide) (by decide +kernel : decode cX12_laysOrders 230 = .ok (.goto (-68), 3)) ?_
    refine r_drop h [1, 2, 3, 0] rfl ?_
    exact H
  · have H := H2 hc
    refine r_aloadn h (q := 0) 0 rfl (by decide +kernel : decode cX12_laysOrders 191 = .ok (.aload_n 0, 1)) ?_
    refine r_iloadn h (q := 3) 3 rfl (by decide +kernel : decode cX12_laysOrders 192 = .ok (.iload_n 3, 1)) ?_
    refine r_iload h 4 rfl (by decide +kernel : decode cX12_laysOrders 193 = .ok (.iload 4, 2)) ?_
    obtain ⟨P1, hSP1, H⟩ := H
    refine r_callV h (as := [vi x3, vi x4]) (S := []) (b := 1) m_Mod_450 hSP1 (by decide) (Nat.le_refl _) rfl at1M rfl (Nat.le_of_ble_eq_true rfl) (by decide +kernel : decode cX12_laysOrders 195 = .ok (.invokevirtual 450, 3)) ?_
    rintro _ _ M1 ⟨rfl, r1, rfl, hP⟩
    have H := H r1 M1 hP
    show K NM RRM _ _ [vi r1] _
    obtain ⟨g1, H⟩ := H
    obtain ⟨H1, H2⟩ := H
    refine r_if_eq h 221 g1 (by decide) (by decide +kernel : decode cX12_laysOrders 198 = .ok (.ifCond .eq 23, 3)) (fun hc => ?_) (fun hc => ?_)
    · have H := H1 hc
      refine r_iinc h (i := 4) (v := 1) (L' := [(4, vi (x4 + 1)), (0, vr 1), (1, vi x1), (2, vi x2), (3, vi x3)]) 4 rfl (by decide) rfl (by decide +kernel : decode cX12_laysOrders 221 = .ok (.iinc 4 1, 3)) ?_
      refine r_goto h 185 (by decide) (by decide +kernel : decode cX12_laysOrders 224 = .ok (.goto (-39), 3)) ?_
      refine r_drop h [1, 2, 3, 4, 0] rfl ?_
      exact H
    · have H := H2 hc
      refine r_aloadn h (q := 0) 0 rfl (by decide +kernel : decode cX12_laysOrders 201 = .ok (.aload_n 0, 1)) ?_
      refine r_getR h (r := 43) f_Mod_135 at1M rfl (by decide) (by decide +kernel : decode cX12_laysOrders 202 = .ok (.getfield 135, 3)) ?_
      refine r_iloadn h (q := 3) 3 rfl (by decide +kernel : decode cX12_laysOrders 205 = .ok (.iload_n 3, 1)) ?_
      refine r_dup2 h rfl rfl (by decide +kernel : decode cX12_laysOrders 206 = .ok (.dup2, 1)) ?_
      obtain ⟨g1, H⟩ := H
      refine r_iald h x3.toNat rfl atM_43 g1 (by decide) (by decide +kernel : decode cX12_laysOrders 207 = .ok (.iaload, 1)) ?_
      refine r_aloadn h (q := 0) 0 rfl (by decide +kernel : decode cX12_laysOrders 208 = .ok (.aload_n 0, 1)) ?_
      refine r_getR h (r := 43) f_Mod_135 at1M rfl (by decide) (by decide +kernel : decode cX12_laysOrders 209 = .ok (.getfield 135, 3)) ?_
      refine r_iloadn h (q := 3) 3 rfl (by decide +kernel : decode cX12_laysOrders 212 = .ok (.iload_n 3, 1)) ?_
      refine r_iconst h (v := 1) (by decide +kernel : decode cX12_laysOrders 213 = .ok (.iconst 1, 1)) ?_
      refine r_iload h 4 rfl (by decide +kernel : decode cX12_laysOrders 214 = .ok (.iload 4, 2)) ?_
      refine r_ishl h (by decide +kernel : decode cX12_laysOrders 216 = .ok (.ishl, 1)) ?_
      refine r_ior h (by decide +kernel : decode cX12_laysOrders 217 = .ok (.ior, 1)) ?_
      obtain ⟨g1, H⟩ := H
      refine r_iald h (orI x3 (shlI 1 x4)).toNat rfl atM_43 g1 (by decide) (by decide +kernel : decode cX12_laysOrders 218 = .ok (.iaload, 1)) ?_
      refine r_iadd h (by decide +kernel : decode cX12_laysOrders 219 = .ok (.iadd, 1)) ?_
      obtain ⟨g1, H⟩ := H
      refine r_iast h x3.toNat rfl atM_43 g1 (by decide) (by decide +kernel : decode cX12_laysOrders 220 = .ok (.iastore, 1)) ?_
      have H := H _ rfl
      revert H
      generalize (upr M1 43 (up1 (M1 43) x3.toNat ((M1 43 x3.toNat) + (M1 43 (orI x3 (shlI 1 x4)).toNat)))) = M2
      intro H
      refine r_iinc h (i := 4) (v := 1) (L' := [(4, vi (x4 + 1)), (0, vr 1), (1, vi x1), (2, vi x2), (3, vi x3)]) 4 rfl (by decide) rfl (by decide +kernel : decode cX12_laysOrders 221 = .ok (.iinc 4 1, 3)) ?_
      refine r_goto h 185 (by decide) (by decide +kernel : decode cX12_laysOrders 224 = .ok (.goto (-39), 3)) ?_
      refine r_drop h [1, 2, 3, 4, 0] rfl ?_
      exact H
set_option maxHeartbeats 4000000 in
set_option maxRecDepth 100000 in
theorem w_Mod_laysAheads_0 {P : Mm → Prop} {K : Nat → Rr → Nat → List (Nat × AV) → List AV → Mm → Prop} (h : EK shM yX12_laysAheads cX12_laysAheads 5 none 2 NM NM (QV RRM P) K)  (M : Mm)
    (H : K NM RRM 2 [(0, vr 1), (1, vi 0)] [] M) :
    K NM RRM 0 [(0, vr 1)] [] M := by
  refine r_iconst h (v := 0) (by decide +kernel : decode cX12_laysAheads 0 = .ok (.iconst 0, 1)) ?_
  refine r_istoren h (q := 1) (L' := [(1, vi 0), (0, vr 1)]) (by decide) rfl (by decide +kernel : decode cX12_laysAheads 1 = .ok (.istore_n 1, 1)) ?_
  refine r_drop h [1, 0] rfl ?_
  exact H
set_option maxHeartbeats 4000000 in
set_option maxRecDepth 100000 in
theorem w_Mod_laysAheads_2 {P : Mm → Prop} {K : Nat → Rr → Nat → List (Nat × AV) → List AV → Mm → Prop} (h : EK shM yX12_laysAheads cX12_laysAheads 5 none 2 NM NM (QV RRM P) K) (x1 : Int) (M : Mm)
    (H : (rng x1) ∧ (49 ≤ x1 → (K NM RRM 23 [(0, vr 1), (1, vi 0)] [] M)) ∧ (¬ (49 ≤ x1) → ((0 ≤ x1 ∧ x1 < 49) ∧ ∀ M1 : Mm, M1 = (upr M 44 (up1 (M 44) x1.toNat 0)) → K NM RRM 2 [(0, vr 1), (1, vi (x1 + 1))] [] M1))) :
    K NM RRM 2 [(0, vr 1), (1, vi x1)] [] M := by
  refine r_iloadn h (q := 1) 1 rfl (by decide +kernel : decode cX12_laysAheads 2 = .ok (.iload_n 1, 1)) ?_
  refine r_bipush h (v := 49) (by decide) (by decide +kernel : decode cX12_laysAheads 3 = .ok (.bipush 49, 2)) ?_
  obtain ⟨g1, H⟩ := H
  obtain ⟨H1, H2⟩ := H
  refine r_icmp_ge h 21 g1 (by decide) (by decide) (by decide +kernel : decode cX12_laysAheads 5 = .ok (.if_icmp .ge 16, 3)) (fun hc => ?_) (fun hc => ?_)
  · have H := H1 hc
    refine r_iconst h (v := 0) (by decide +kernel : decode cX12_laysAheads 21 = .ok (.iconst 0, 1)) ?_
    refine r_istoren h (q := 1) (L' := [(1, vi 0), (0, vr 1)]) (by decide) rfl (by decide +kernel : decode cX12_laysAheads 22 = .ok (.istore_n 1, 1)) ?_
    refine r_drop h [1, 0] rfl ?_
    exact H
  · have H := H2 hc
    refine r_aloadn h (q := 0) 0 rfl (by decide +kernel : decode cX12_laysAheads 8 = .ok (.aload_n 0, 1)) ?_
    refine r_getR h (r := 44) f_Mod_138 at1M rfl (by decide) (by decide +kernel : decode cX12_laysAheads 9 = .ok (.getfield 138, 3)) ?_
    refine r_iloadn h (q := 1) 1 rfl (by decide +kernel : decode cX12_laysAheads 12 = .ok (.iload_n 1, 1)) ?_
    refine r_iconst h (v := 0) (by decide +kernel : decode cX12_laysAheads 13 = .ok (.iconst 0, 1)) ?_
    obtain ⟨g1, H⟩ := H
    refine r_iast h x1.toNat rfl atM_44 g1 (by decide) (by decide +kernel : decode cX12_laysAheads 14 = .ok (.iastore, 1)) ?_
    have H := H _ rfl
    revert H
    generalize (upr M 44 (up1 (M 44) x1.toNat 0)) = M1
    intro H
    refine r_iinc h (i := 1) (v := 1) (L' := [(1, vi (x1 + 1)), (0, vr 1)]) 1 rfl (by decide) rfl (by decide +kernel : decode cX12_laysAheads 15 = .ok (.iinc 1 1, 3)) ?_
    refine r_goto h 2 (by decide) (by decide +kernel : decode cX12_laysAheads 18 = .ok (.goto (-16), 3)) ?_
    refine r_drop h [1, 0] rfl ?_
    exact H
set_option maxHeartbeats 4000000 in
set_option maxRecDepth 100000 in
theorem w_Mod_laysAheads_23 {P : Mm → Prop} {K : Nat → Rr → Nat → List (Nat × AV) → List AV → Mm → Prop} (h : EK shM yX12_laysAheads cX12_laysAheads 5 none 2 NM NM (QV RRM P) K) (x1 : Int) (M : Mm)
    (H : (rng x1) ∧ ((shlI 1 (M 3 0)) ≤ x1 → (P M)) ∧ (¬ ((shlI 1 (M 3 0)) ≤ x1) → (K NM RRM 37 [(0, vr 1), (1, vi x1), (2, vi 0)] [] M))) :
    K NM RRM 23 [(0, vr 1), (1, vi x1)] [] M := by
  refine r_iloadn h (q := 1) 1 rfl (by decide +kernel : decode cX12_laysAheads 23 = .ok (.iload_n 1, 1)) ?_
  refine r_iconst h (v := 1) (by decide +kernel : decode cX12_laysAheads 24 = .ok (.iconst 1, 1)) ?_
  refine r_aloadn h (q := 0) 0 rfl (by decide +kernel : decode cX12_laysAheads 25 = .ok (.aload_n 0, 1)) ?_
  refine r_getR h (r := 3) f_Mod_13 at1M rfl (by decide) (by decide +kernel : decode cX12_laysAheads 26 = .ok (.getfield 13, 3)) ?_
  refine r_iconst h (v := 0) (by decide +kernel : decode cX12_laysAheads 29 = .ok (.iconst 0, 1)) ?_
  refine r_iald h 0 rfl atM_3 (by decide) (by decide) (by decide +kernel : decode cX12_laysAheads 30 = .ok (.iaload, 1)) ?_
  refine r_ishl h (by decide +kernel : decode cX12_laysAheads 31 = .ok (.ishl, 1)) ?_
  obtain ⟨g1, H⟩ := H
  obtain ⟨H1, H2⟩ := H
  refine r_icmp_ge h 139 g1 (rng_toInt _) (by decide) (by decide +kernel : decode cX12_laysAheads 32 = .ok (.if_icmp .ge 107, 3)) (fun hc => ?_) (fun hc => ?_)
  · have H := H1 hc
    exact r_vret h rfl (by decide +kernel : decode cX12_laysAheads 139 = .ok (.return_, 1)) rfl ⟨rfl, rfl, H⟩
  · have H := H2 hc
    refine r_iconst h (v := 0) (by decide +kernel : decode cX12_laysAheads 35 = .ok (.iconst 0, 1)) ?_
    refine r_istoren h (q := 2) (L' := [(2, vi 0), (0, vr 1), (1, vi x1)]) (by decide) rfl (by decide +kernel : decode cX12_laysAheads 36 = .ok (.istore_n 2, 1)) ?_
    refine r_drop h [1, 2, 0] rfl ?_
    exact H
set_option maxHeartbeats 4000000 in
set_option maxRecDepth 100000 in
theorem w_Mod_laysAheads_37 {P : Mm → Prop} {K : Nat → Rr → Nat → List (Nat × AV) → List AV → Mm → Prop} (h : EK shM yX12_laysAheads cX12_laysAheads 5 none 2 NM NM (QV RRM P) K) (x1 : Int) (x2 : Int) (M : Mm)
    (H : (rng x2) ∧ (rng (M 3 0)) ∧ ((M 3 0) ≤ x2 → (K NM RRM 23 [(0, vr 1), (1, vi (x1 + 1))] [] M)) ∧ (¬ ((M 3 0) ≤ x2) → (∃ P1 : Int → Mm → Prop, S_Mod_mayFollow x1 x2 M P1 ∧ ∀ (r1 : Int) (M1 : Mm), P1 r1 M1 → (rng r1) ∧ (r1 ≠ 0 → ((0 ≤ x1 ∧ x1 < 128) ∧ (0 ≤ (orI x1 (shlI 1 x2)) ∧ (orI x1 (shlI 1 x2)) < 128) ∧ K NM RRM 80 [(0, vr 1), (1, vi x1), (2, vi x2), (3, vi ((M1 42 x1.toNat) * (M1 43 (orI x1 (shlI 1 x2)).toNat))), (4, vi 0)] [] M1)) ∧ (r1 = 0 → (K NM RRM 37 [(0, vr 1), (1, vi x1), (2, vi (x2 + 1))] [] M1))))) :
    K NM RRM 37 [(0, vr 1), (1, vi x1), (2, vi x2)] [] M := by
  refine r_iloadn h (q := 2) 2 rfl (by decide +kernel : decode cX12_laysAheads 37 = .ok (.iload_n 2, 1)) ?_
  refine r_aloadn h (q := 0) 0 rfl (by decide +kernel : decode cX12_laysAheads 38 = .ok (.aload_n 0, 1)) ?_
  refine r_getR h (r := 3) f_Mod_13 at1M rfl (by decide) (by decide +kernel : decode cX12_laysAheads 39 = .ok (.getfield 13, 3)) ?_
  refine r_iconst h (v := 0) (by decide +kernel : decode cX12_laysAheads 42 = .ok (.iconst 0, 1)) ?_
  refine r_iald h 0 rfl atM_3 (by decide) (by decide) (by decide +kernel : decode cX12_laysAheads 43 = .ok (.iaload, 1)) ?_
  obtain ⟨g1, g2, H⟩ := H
  obtain ⟨H1, H2⟩ := H
  refine r_icmp_ge h 133 g1 g2 (by decide) (by decide +kernel : decode cX12_laysAheads 44 = .ok (.if_icmp .ge 89, 3)) (fun hc => ?_) (fun hc => ?_)
  · have H := H1 hc
    refine r_iinc h (i := 1) (v := 1) (L' := [(1, vi (x1 + 1)), (0, vr 1), (2, vi x2)]) 1 rfl (by decide) rfl (by decide +kernel : decode cX12_laysAheads 133 = .ok (.iinc 1 1, 3)) ?_
    refine r_goto h 23 (by decide) (by decide +kernel : decode cX12_laysAheads 136 = .ok (.goto (-113), 3)) ?_
    refine r_drop h [1, 0] rfl ?_
    exact H
  · have H := H2 hc
    refine r_aloadn h (q := 0) 0 rfl (by decide +kernel : decode cX12_laysAheads 47 = .ok (.aload_n 0, 1)) ?_
    refine r_iloadn h (q := 1) 1 rfl (by decide +kernel : decode cX12_laysAheads 48 = .ok (.iload_n 1, 1)) ?_
    refine r_iloadn h (q := 2) 2 rfl (by decide +kernel : decode cX12_laysAheads 49 = .ok (.iload_n 2, 1)) ?_
    obtain ⟨P1, hSP1, H⟩ := H
    refine r_callV h (as := [vi x1, vi x2]) (S := []) (b := 1) m_Mod_450 hSP1 (by decide) (Nat.le_refl _) rfl at1M rfl (Nat.le_of_ble_eq_true rfl) (by decide +kernel : decode cX12_laysAheads 50 = .ok (.invokevirtual 450, 3)) ?_
    rintro _ _ M1 ⟨rfl, r1, rfl, hP⟩
    have H := H r1 M1 hP
    show K NM RRM _ _ [vi r1] _
    obtain ⟨g1, H⟩ := H
    obtain ⟨H1, H2⟩ := H
    refine r_if_ne h 59 g1 (by decide) (by decide +kernel : decode cX12_laysAheads 53 = .ok (.ifCond .ne 6, 3)) (fun hc => ?_) (fun hc => ?_)
    · have H := H1 hc
      refine r_aloadn h (q := 0) 0 rfl (by decide +kernel : decode cX12_laysAheads 59 = .ok (.aload_n 0, 1)) ?_
      refine r_getR h (r := 42) f_Mod_132 at1M rfl (by decide) (by decide +kernel : decode cX12_laysAheads 60 = .ok (.getfield 132, 3)) ?_
      refine r_iloadn h (q := 1) 1 rfl (by decide +kernel : decode cX12_laysAheads 63 = .ok (.iload_n 1, 1)) ?_
      obtain ⟨g1, H⟩ := H
      refine r_iald h x1.toNat rfl atM_42 g1 (by decide) (by decide +kernel : decode cX12_laysAheads 64 = .ok (.iaload, 1)) ?_
      refine r_aloadn h (q := 0) 0 rfl (by decide +kernel : decode cX12_laysAheads 65 = .ok (.aload_n 0, 1)) ?_
      refine r_getR h (r := 43) f_Mod_135 at1M rfl (by decide) (by decide +kernel : decode cX12_laysAheads 66 = .ok (.getfield 135, 3)) ?_
      refine r_iloadn h (q := 1) 1 rfl (by decide +kernel : decode cX12_laysAheads 69 = .ok (.iload_n 1, 1)) ?_
      refine r_iconst h (v := 1) (by decide +kernel : decode cX12_laysAheads 70 = .ok (.iconst 1, 1)) ?_
      refine r_iloadn h (q := 2) 2 rfl (by decide +kernel : decode cX12_laysAheads 71 = .ok (.iload_n 2, 1)) ?_
      refine r_ishl h (by decide +kernel : decode cX12_laysAheads 72 = .ok (.ishl, 1)) ?_
      refine r_ior h (by decide +kernel : decode cX12_laysAheads 73 = .ok (.ior, 1)) ?_
      obtain ⟨g1, H⟩ := H
      refine r_iald h (orI x1 (shlI 1 x2)).toNat rfl atM_43 g1 (by decide) (by decide +kernel : decode cX12_laysAheads 74 = .ok (.iaload, 1)) ?_
      refine r_imul h (by decide +kernel : decode cX12_laysAheads 75 = .ok (.imul, 1)) ?_
      refine r_istoren h (q := 3) (L' := [(3, vi ((M1 42 x1.toNat) * (M1 43 (orI x1 (shlI 1 x2)).toNat))), (0, vr 1), (1, vi x1), (2, vi x2)]) (by decide) rfl (by decide +kernel : decode cX12_laysAheads 76 = .ok (.istore_n 3, 1)) ?_
      refine r_iconst h (v := 0) (by decide +kernel : decode cX12_laysAheads 77 = .ok (.iconst 0, 1)) ?_
      refine r_istore h (L' := [(4, vi 0), (3, vi ((M1 42 x1.toNat) * (M1 43 (orI x1 (shlI 1 x2)).toNat))), (0, vr 1), (1, vi x1), (2, vi x2)]) (by decide) rfl (by decide +kernel : decode cX12_laysAheads 78 = .ok (.istore 4, 2)) ?_
      refine r_drop h [2, 3, 4, 1, 0] rfl ?_
      exact H
    · have H := H2 hc
      refine r_goto h 127 (by decide) (by decide +kernel : decode cX12_laysAheads 56 = .ok (.goto 71, 3)) ?_
      refine r_iinc h (i := 2) (v := 1) (L' := [(2, vi (x2 + 1)), (0, vr 1), (1, vi x1)]) 2 rfl (by decide) rfl (by decide +kernel : decode cX12_laysAheads 127 = .ok (.iinc 2 1, 3)) ?_
      refine r_goto h 37 (by decide) (by decide +kernel : decode cX12_laysAheads 130 = .ok (.goto (-93), 3)) ?_
      refine r_drop h [1, 2, 0] rfl ?_
      exact H
set_option maxHeartbeats 4000000 in
set_option maxRecDepth 100000 in
theorem w_Mod_laysAheads_80 {P : Mm → Prop} {K : Nat → Rr → Nat → List (Nat × AV) → List AV → Mm → Prop} (h : EK shM yX12_laysAheads cX12_laysAheads 5 none 2 NM NM (QV RRM P) K) (x1 : Int) (x2 : Int) (x3 : Int) (x4 : Int) (M : Mm)
    (H : (rng x4) ∧ (rng (M 3 0)) ∧ ((M 3 0) ≤ x4 → (K NM RRM 37 [(0, vr 1), (1, vi x1), (2, vi (x2 + 1))] [] M)) ∧ (¬ ((M 3 0) ≤ x4) → ((0 ≤ ((7 * x4) + x2) ∧ ((7 * x4) + x2) < 49) ∧ ((andI (shrI x1 x4) 1) ≠ 1 → ((0 ≤ ((7 * x4) + x2) ∧ ((7 * x4) + x2) < 49) ∧ ∀ M1 : Mm, M1 = (upr M 44 (up1 (M 44) ((7 * x4) + x2).toNat ((M 44 ((7 * x4) + x2).toNat) + 0))) → K NM RRM 80 [(0, vr 1), (1, vi x1), (2, vi x2), (3, vi x3), (4, vi (x4 + 1))] [] M1)) ∧ ((andI (shrI x1 x4) 1) = 1 → ((0 ≤ ((7 * x4) + x2) ∧ ((7 * x4) + x2) < 49) ∧ ∀ M2 : Mm, M2 = (upr M 44 (up1 (M 44) ((7 * x4) + x2).toNat ((M 44 ((7 * x4) + x2).toNat) + x3))) → K NM RRM 80 [(0, vr 1), (1, vi x1), (2, vi x2), (3, vi x3), (4, vi (x4 + 1))] [] M2))))) :
    K NM RRM 80 [(0, vr 1), (1, vi x1), (2, vi x2), (3, vi x3), (4, vi x4)] [] M := by
  refine r_iload h 4 rfl (by decide +kernel : decode cX12_laysAheads 80 = .ok (.iload 4, 2)) ?_
  refine r_aloadn h (q := 0) 0 rfl (by decide +kernel : decode cX12_laysAheads 82 = .ok (.aload_n 0, 1)) ?_
  refine r_getR h (r := 3) f_Mod_13 at1M rfl (by decide) (by decide +kernel : decode cX12_laysAheads 83 = .ok (.getfield 13, 3)) ?_
  refine r_iconst h (v := 0) (by decide +kernel : decode cX12_laysAheads 86 = .ok (.iconst 0, 1)) ?_
  refine r_iald h 0 rfl atM_3 (by decide) (by decide) (by decide +kernel : decode cX12_laysAheads 87 = .ok (.iaload, 1)) ?_
  obtain ⟨g1, g2, H⟩ := H
  obtain ⟨H1, H2⟩ := H
  refine r_icmp_ge h 127 g1 g2 (by decide) (by decide +kernel : decode cX12_laysAheads 88 = .ok (.if_icmp .ge 39, 3)) (fun hc => ?_) (fun hc => ?_)
  · have H := H1 hc
    refine r_iinc h (i := 2) (v := 1) (L' := [(2, vi (x2 + 1)), (0, vr 1), (1, vi x1), (3, vi x3), (4, vi x4)]) 2 rfl (by decide) rfl (by decide +kernel : decode cX12_laysAheads 127 = .ok (.iinc 2 1, 3)) ?_
    refine r_goto h 37 (by decide) (by decide +kernel : decode cX12_laysAheads 130 = .ok (.goto (-93), 3)) ?_
    refine r_drop h [1, 2, 0] rfl ?_
    exact H
  · have H := H2 hc
    refine r_aloadn h (q := 0) 0 rfl (by decide +kernel : decode cX12_laysAheads 91 = .ok (.aload_n 0, 1)) ?_
    refine r_getR h (r := 44) f_Mod_138 at1M rfl (by decide) (by decide +kernel : decode cX12_laysAheads 92 = .ok (.getfield 138, 3)) ?_
    refine r_bipush h (v := 7) (by decide) (by decide +kernel : decode cX12_laysAheads 95 = .ok (.bipush 7, 2)) ?_
    refine r_iload h 4 rfl (by decide +kernel : decode cX12_laysAheads 97 = .ok (.iload 4, 2)) ?_
    refine r_imul h (by decide +kernel : decode cX12_laysAheads 99 = .ok (.imul, 1)) ?_
    refine r_iloadn h (q := 2) 2 rfl (by decide +kernel : decode cX12_laysAheads 100 = .ok (.iload_n 2, 1)) ?_
    refine r_iadd h (by decide +kernel : decode cX12_laysAheads 101 = .ok (.iadd, 1)) ?_
    refine r_dup2 h rfl rfl (by decide +kernel : decode cX12_laysAheads 102 = .ok (.dup2, 1)) ?_
    obtain ⟨g1, H⟩ := H
    refine r_iald h ((7 * x4) + x2).toNat rfl atM_44 g1 (by decide) (by decide +kernel : decode cX12_laysAheads 103 = .ok (.iaload, 1)) ?_
    refine r_iloadn h (q := 1) 1 rfl (by decide +kernel : decode cX12_laysAheads 104 = .ok (.iload_n 1, 1)) ?_
    refine r_iload h 4 rfl (by decide +kernel : decode cX12_laysAheads 105 = .ok (.iload 4, 2)) ?_
    refine r_ishr h (by decide +kernel : decode cX12_laysAheads 107 = .ok (.ishr, 1)) ?_
    refine r_iconst h (v := 1) (by decide +kernel : decode cX12_laysAheads 108 = .ok (.iconst 1, 1)) ?_
    refine r_iand h (by decide +kernel : decode cX12_laysAheads 109 = .ok (.iand, 1)) ?_
    refine r_iconst h (v := 1) (by decide +kernel : decode cX12_laysAheads 110 = .ok (.iconst 1, 1)) ?_
    obtain ⟨H1, H2⟩ := H
    refine r_icmp_ne h 118 (rng_toInt _) (by decide) (by decide) (by decide +kernel : decode cX12_laysAheads 111 = .ok (.if_icmp .ne 7, 3)) (fun hc => ?_) (fun hc => ?_)
    · have H := H1 hc
      refine r_iconst h (v := 0) (by decide +kernel : decode cX12_laysAheads 118 = .ok (.iconst 0, 1)) ?_
      refine r_iadd h (by decide +kernel : decode cX12_laysAheads 119 = .ok (.iadd, 1)) ?_
      obtain ⟨g1, H⟩ := H
      refine r_iast h ((7 * x4) + x2).toNat rfl atM_44 g1 (by decide) (by decide +kernel : decode cX12_laysAheads 120 = .ok (.iastore, 1)) ?_
      have H := H _ rfl
      revert H
      generalize (upr M 44 (up1 (M 44) ((7 * x4) + x2).toNat ((M 44 ((7 * x4) + x2).toNat) + 0))) = M1
      intro H
      refine r_iinc h (i := 4) (v := 1) (L' := [(4, vi (x4 + 1)), (0, vr 1), (1, vi x1), (2, vi x2), (3, vi x3)]) 4 rfl (by decide) rfl (by decide +kernel : decode cX12_laysAheads 121 = .ok (.iinc 4 1, 3)) ?_
      refine r_goto h 80 (by decide) (by decide +kernel : decode cX12_laysAheads 124 = .ok (.goto (-44), 3)) ?_
      refine r_drop h [1, 2, 3, 4, 0] rfl ?_
      exact H
    · have H := H2 hc
      refine r_iloadn h (q := 3) 3 rfl (by decide +kernel : decode cX12_laysAheads 114 = .ok (.iload_n 3, 1)) ?_
      refine r_goto h 119 (by decide) (by decide +kernel : decode cX12_laysAheads 115 = .ok (.goto 4, 3)) ?_
      refine r_iadd h (by decide +kernel : decode cX12_laysAheads 119 = .ok (.iadd, 1)) ?_
      obtain ⟨g1, H⟩ := H
      refine r_iast h ((7 * x4) + x2).toNat rfl atM_44 g1 (by decide) (by decide +kernel : decode cX12_laysAheads 120 = .ok (.iastore, 1)) ?_
      have H := H _ rfl
      revert H
      generalize (upr M 44 (up1 (M 44) ((7 * x4) + x2).toNat ((M 44 ((7 * x4) + x2).toNat) + x3))) = M2
      intro H
      refine r_iinc h (i := 4) (v := 1) (L' := [(4, vi (x4 + 1)), (0, vr 1), (1, vi x1), (2, vi x2), (3, vi x3)]) 4 rfl (by decide) rfl (by decide +kernel : decode cX12_laysAheads 121 = .ok (.iinc 4 1, 3)) ?_
      refine r_goto h 80 (by decide) (by decide +kernel : decode cX12_laysAheads 124 = .ok (.goto (-44), 3)) ?_
      refine r_drop h [1, 2, 3, 4, 0] rfl ?_
      exact H
set_option maxHeartbeats 4000000 in
set_option maxRecDepth 100000 in
theorem w_Mod_share_0 {P : Int → Mm → Prop} {K : Nat → Rr → Nat → List (Nat × AV) → List AV → Mm → Prop} (h : EK shM yX12_share cX12_share 6 (some .int) 2 NM NM (QI RRM P) K) (x1 : Int) (M : Mm)
    (H : ∀ M1 : Mm, M1 = (upr M 1 (up1 (M 1) 0 0)) → ∃ P2 : Int → Mm → Prop, S_Mod_isHouse x1 M1 P2 ∧ ∀ (r1 : Int) (M2 : Mm), P2 r1 M2 → (rng r1) ∧ (r1 = 0 → (P (-1) M2)) ∧ (r1 ≠ 0 → (∃ P3 : Int → Mm → Prop, S_Mod_isGoing x1 M2 P3 ∧ ∀ (r2 : Int) (M3 : Mm), P3 r2 M3 → (rng r2) ∧ (r2 ≠ 0 → (K NM RRM 27 [(0, vr 1), (1, vi x1), (2, vi 0), (3, vi 1)] [] M3)) ∧ (r2 = 0 → (P (-1) M3))))) :
    K NM RRM 0 [(0, vr 1), (1, vi x1)] [] M := by
  refine r_aloadn h (q := 0) 0 rfl (by decide +kernel : decode cX12_share 0 = .ok (.aload_n 0, 1)) ?_
  refine r_iconst h (v := 0) (by decide +kernel : decode cX12_share 1 = .ok (.iconst 0, 1)) ?_
  refine r_putI h f_Mod_147 at1M rfl rfl (by decide +kernel : decode cX12_share 2 = .ok (.putfield 147, 3)) ?_
  have H := H _ rfl
  revert H
  generalize (upr M 1 (up1 (M 1) 0 0)) = M1
  intro H
  refine r_aloadn h (q := 0) 0 rfl (by decide +kernel : decode cX12_share 5 = .ok (.aload_n 0, 1)) ?_
  refine r_iloadn h (q := 1) 1 rfl (by decide +kernel : decode cX12_share 6 = .ok (.iload_n 1, 1)) ?_
  obtain ⟨P2, hSP2, H⟩ := H
  refine r_callV h (as := [vi x1]) (S := []) (b := 1) m_Mod_390 hSP2 (by decide) (Nat.le_refl _) rfl at1M rfl (Nat.le_of_ble_eq_true rfl) (by decide +kernel : decode cX12_share 7 = .ok (.invokevirtual 390, 3)) ?_
  rintro _ _ M2 ⟨rfl, r1, rfl, hP⟩
  have H := H r1 M2 hP
  show K NM RRM _ _ [vi r1] _
  obtain ⟨g1, H⟩ := H
  obtain ⟨H1, H2⟩ := H
  refine r_if_eq h 21 g1 (by decide) (by decide +kernel : decode cX12_share 10 = .ok (.ifCond .eq 11, 3)) (fun hc => ?_) (fun hc => ?_)
  · have H := H1 hc
    refine r_iconst h (v := (-1)) (by decide +kernel : decode cX12_share 21 = .ok (.iconst (-1), 1)) ?_
    exact r_iret h rfl (by decide +kernel : decode cX12_share 22 = .ok (.ireturn, 1)) rfl ⟨rfl, _, rfl, H⟩
  · have H := H2 hc
    refine r_aloadn h (q := 0) 0 rfl (by decide +kernel : decode cX12_share 13 = .ok (.aload_n 0, 1)) ?_
    refine r_iloadn h (q := 1) 1 rfl (by decide +kernel : decode cX12_share 14 = .ok (.iload_n 1, 1)) ?_
    obtain ⟨P3, hSP3, H⟩ := H
    refine r_callV h (as := [vi x1]) (S := []) (b := 1) m_Mod_363 hSP3 (by decide) (Nat.le_refl _) rfl at1M rfl (Nat.le_of_ble_eq_true rfl) (by decide +kernel : decode cX12_share 15 = .ok (.invokevirtual 363, 3)) ?_
    rintro _ _ M3 ⟨rfl, r2, rfl, hP⟩
    have H := H r2 M3 hP
    show K NM RRM _ _ [vi r2] _
    obtain ⟨g1, H⟩ := H
    obtain ⟨H1, H2⟩ := H
    refine r_if_ne h 23 g1 (by decide) (by decide +kernel : decode cX12_share 18 = .ok (.ifCond .ne 5, 3)) (fun hc => ?_) (fun hc => ?_)
    · have H := H1 hc
      refine r_iconst h (v := 0) (by decide +kernel : decode cX12_share 23 = .ok (.iconst 0, 1)) ?_
      refine r_istoren h (q := 2) (L' := [(2, vi 0), (0, vr 1), (1, vi x1)]) (by decide) rfl (by decide +kernel : decode cX12_share 24 = .ok (.istore_n 2, 1)) ?_
      refine r_iconst h (v := 1) (by decide +kernel : decode cX12_share 25 = .ok (.iconst 1, 1)) ?_
      refine r_istoren h (q := 3) (L' := [(3, vi 1), (2, vi 0), (0, vr 1), (1, vi x1)]) (by decide) rfl (by decide +kernel : decode cX12_share 26 = .ok (.istore_n 3, 1)) ?_
      refine r_drop h [2, 3, 1, 0] rfl ?_
      exact H
    · have H := H2 hc
      refine r_iconst h (v := (-1)) (by decide +kernel : decode cX12_share 21 = .ok (.iconst (-1), 1)) ?_
      exact r_iret h rfl (by decide +kernel : decode cX12_share 22 = .ok (.ireturn, 1)) rfl ⟨rfl, _, rfl, H⟩
set_option maxHeartbeats 4000000 in
set_option maxRecDepth 100000 in
theorem w_Mod_share_27 {P : Int → Mm → Prop} {K : Nat → Rr → Nat → List (Nat × AV) → List AV → Mm → Prop} (h : EK shM yX12_share cX12_share 6 (some .int) 2 NM NM (QI RRM P) K) (x1 : Int) (x2 : Int) (x3 : Int) (M : Mm)
    (H : (0 ≤ (12 + x1) ∧ (12 + x1) < 33) ∧ (rng x3) ∧ (rng (M 34 (12 + x1).toNat)) ∧ ((M 34 (12 + x1).toNat) < x3 → (P x2 M)) ∧ (¬ ((M 34 (12 + x1).toNat) < x3) → (K NM RRM 46 [(0, vr 1), (1, vi x1), (2, vi x2), (3, vi x3), (4, vi 0), (5, vi 0)] [] M))) :
    K NM RRM 27 [(0, vr 1), (1, vi x1), (2, vi x2), (3, vi x3)] [] M := by
  refine r_iloadn h (q := 3) 3 rfl (by decide +kernel : decode cX12_share 27 = .ok (.iload_n 3, 1)) ?_
  refine r_aloadn h (q := 0) 0 rfl (by decide +kernel : decode cX12_share 28 = .ok (.aload_n 0, 1)) ?_
  refine r_getR h (r := 34) f_Mod_108 at1M rfl (by decide) (by decide +kernel : decode cX12_share 29 = .ok (.getfield 108, 3)) ?_
  refine r_bipush h (v := 12) (by decide) (by decide +kernel : decode cX12_share 32 = .ok (.bipush 12, 2)) ?_
  refine r_iloadn h (q := 1) 1 rfl (by decide +kernel : decode cX12_share 34 = .ok (.iload_n 1, 1)) ?_
  refine r_iadd h (by decide +kernel : decode cX12_share 35 = .ok (.iadd, 1)) ?_
  obtain ⟨g1, H⟩ := H
  refine r_iald h (12 + x1).toNat rfl atM_34 g1 (by decide) (by decide +kernel : decode cX12_share 36 = .ok (.iaload, 1)) ?_
  obtain ⟨g1, g2, H⟩ := H
  obtain ⟨H1, H2⟩ := H
  refine r_icmp_gt h 111 g1 g2 (by decide) (by decide +kernel : decode cX12_share 37 = .ok (.if_icmp .gt 74, 3)) (fun hc => ?_) (fun hc => ?_)
  · have H := H1 hc
    refine r_iloadn h (q := 2) 2 rfl (by decide +kernel : decode cX12_share 111 = .ok (.iload_n 2, 1)) ?_
    exact r_iret h rfl (by decide +kernel : decode cX12_share 112 = .ok (.ireturn, 1)) rfl ⟨rfl, _, rfl, H⟩
  · have H := H2 hc
    refine r_iconst h (v := 0) (by decide +kernel : decode cX12_share 40 = .ok (.iconst 0, 1)) ?_
    refine r_istore h (L' := [(4, vi 0), (0, vr 1), (1, vi x1), (2, vi x2), (3, vi x3)]) (by decide) rfl (by decide +kernel : decode cX12_share 41 = .ok (.istore 4, 2)) ?_
    refine r_iconst h (v := 0) (by decide +kernel : decode cX12_share 43 = .ok (.iconst 0, 1)) ?_
    refine r_istore h (L' := [(5, vi 0), (4, vi 0), (0, vr 1), (1, vi x1), (2, vi x2), (3, vi x3)]) (by decide) rfl (by decide +kernel : decode cX12_share 44 = .ok (.istore 5, 2)) ?_
    refine r_drop h [2, 3, 4, 5, 1, 0] rfl ?_
    exact H
set_option maxHeartbeats 4000000 in
set_option maxRecDepth 100000 in
theorem w_Mod_share_46 {P : Int → Mm → Prop} {K : Nat → Rr → Nat → List (Nat × AV) → List AV → Mm → Prop} (h : EK shM yX12_share cX12_share 6 (some .int) 2 NM NM (QI RRM P) K) (x1 : Int) (x2 : Int) (x3 : Int) (x4 : Int) (x5 : Int) (M : Mm)
    (H : (rng x5) ∧ (rng (M 3 0)) ∧ ((M 3 0) ≤ x5 → ((rng x4) ∧ (x4 ≠ 0) ∧ K NM RRM 27 [(0, vr 1), (1, vi x1), (2, vi (x2 + (divI 1000 x4))), (3, vi (x3 + 1))] [] M)) ∧ (¬ ((M 3 0) ≤ x5) → (∃ P1 : Int → Mm → Prop, S_Mod_isGoing x5 M P1 ∧ ∀ (r1 : Int) (M1 : Mm), P1 r1 M1 → (rng r1) ∧ (r1 = 0 → (K NM RRM 46 [(0, vr 1), (1, vi x1), (2, vi x2), (3, vi x3), (4, vi (x4 + 0)), (5, vi (x5 + 1))] [] M1)) ∧ (r1 ≠ 0 → ((0 ≤ (12 + x5) ∧ (12 + x5) < 33) ∧ (rng (M1 34 (12 + x5).toNat)) ∧ (rng x3) ∧ ((M1 34 (12 + x5).toNat) < x3 → (K NM RRM 46 [(0, vr 1), (1, vi x1), (2, vi x2), (3, vi x3), (4, vi (x4 + 0)), (5, vi (x5 + 1))] [] M1)) ∧ (¬ ((M1 34 (12 + x5).toNat) < x3) → (K NM RRM 46 [(0, vr 1), (1, vi x1), (2, vi x2), (3, vi x3), (4, vi (x4 + 1)), (5, vi (x5 + 1))] [] M1))))))) :
    K NM RRM 46 [(0, vr 1), (1, vi x1), (2, vi x2), (3, vi x3), (4, vi x4), (5, vi x5)] [] M := by
  refine r_iload h 5 rfl (by decide +kernel : decode cX12_share 46 = .ok (.iload 5, 2)) ?_
  refine r_aloadn h (q := 0) 0 rfl (by decide +kernel : decode cX12_share 48 = .ok (.aload_n 0, 1)) ?_
  refine r_getR h (r := 3) f_Mod_13 at1M rfl (by decide) (by decide +kernel : decode cX12_share 49 = .ok (.getfield 13, 3)) ?_
  refine r_iconst h (v := 0) (by decide +kernel : decode cX12_share 52 = .ok (.iconst 0, 1)) ?_
  refine r_iald h 0 rfl atM_3 (by decide) (by decide) (by decide +kernel : decode cX12_share 53 = .ok (.iaload, 1)) ?_
  obtain ⟨g1, g2, H⟩ := H
  obtain ⟨H1, H2⟩ := H
  refine r_icmp_ge h 96 g1 g2 (by decide) (by decide +kernel : decode cX12_share 54 = .ok (.if_icmp .ge 42, 3)) (fun hc => ?_) (fun hc => ?_)
  · have H := H1 hc
    refine r_iloadn h (q := 2) 2 rfl (by decide +kernel : decode cX12_share 96 = .ok (.iload_n 2, 1)) ?_
    refine r_sipush h (v := 1000) (by decide) (by decide +kernel : decode cX12_share 97 = .ok (.sipush 1000, 3)) ?_
    refine r_iload h 4 rfl (by decide +kernel : decode cX12_share 100 = .ok (.iload 4, 2)) ?_
    obtain ⟨g1, g2, H⟩ := H
    refine r_idiv h g1 g2 (by decide +kernel : decode cX12_share 102 = .ok (.idiv, 1)) ?_
    refine r_iadd h (by decide +kernel : decode cX12_share 103 = .ok (.iadd, 1)) ?_
    refine r_istoren h (q := 2) (L' := [(2, vi (x2 + (divI 1000 x4))), (0, vr 1), (1, vi x1), (3, vi x3), (4, vi x4), (5, vi x5)]) (by decide) rfl (by decide +kernel : decode cX12_share 104 = .ok (.istore_n 2, 1)) ?_
    refine r_iinc h (i := 3) (v := 1) (L' := [(3, vi (x3 + 1)), (2, vi (x2 + (divI 1000 x4))), (0, vr 1), (1, vi x1), (4, vi x4), (5, vi x5)]) 3 rfl (by decide) rfl (by decide +kernel : decode cX12_share 105 = .ok (.iinc 3 1, 3)) ?_
    refine r_goto h 27 (by decide) (by decide +kernel : decode cX12_share 108 = .ok (.goto (-81), 3)) ?_
    refine r_drop h [2, 3, 1, 0] rfl ?_
    exact H
  · have H := H2 hc
    refine r_iload h 4 rfl (by decide +kernel : decode cX12_share 57 = .ok (.iload 4, 2)) ?_
    refine r_aloadn h (q := 0) 0 rfl (by decide +kernel : decode cX12_share 59 = .ok (.aload_n 0, 1)) ?_
    refine r_iload h 5 rfl (by decide +kernel : decode cX12_share 60 = .ok (.iload 5, 2)) ?_
    obtain ⟨P1, hSP1, H⟩ := H
    refine r_callV h (as := [vi x5]) (S := [vi x4]) (b := 1) m_Mod_363 hSP1 (by decide) (Nat.le_refl _) rfl at1M rfl (Nat.le_of_ble_eq_true rfl) (by decide +kernel : decode cX12_share 62 = .ok (.invokevirtual 363, 3)) ?_
    rintro _ _ M1 ⟨rfl, r1, rfl, hP⟩
    have H := H r1 M1 hP
    show K NM RRM _ _ [vi r1, vi x4] _
    obtain ⟨g1, H⟩ := H
    obtain ⟨H1, H2⟩ := H
    refine r_if_eq h 86 g1 (by decide) (by decide +kernel : decode cX12_share 65 = .ok (.ifCond .eq 21, 3)) (fun hc => ?_) (fun hc => ?_)
    · have H := H1 hc
      refine r_iconst h (v := 0) (by decide +kernel : decode cX12_share 86 = .ok (.iconst 0, 1)) ?_
      refine r_iadd h (by decide +kernel : decode cX12_share 87 = .ok (.iadd, 1)) ?_
      refine r_istore h (L' := [(4, vi (x4 + 0)), (0, vr 1), (1, vi x1), (2, vi x2), (3, vi x3), (5, vi x5)]) (by decide) rfl (by decide +kernel : decode cX12_share 88 = .ok (.istore 4, 2)) ?_
      refine r_iinc h (i := 5) (v := 1) (L' := [(5, vi (x5 + 1)), (4, vi (x4 + 0)), (0, vr 1), (1, vi x1), (2, vi x2), (3, vi x3)]) 5 rfl (by decide) rfl (by decide +kernel : decode cX12_share 90 = .ok (.iinc 5 1, 3)) ?_
      refine r_goto h 46 (by decide) (by decide +kernel : decode cX12_share 93 = .ok (.goto (-47), 3)) ?_
      refine r_drop h [2, 3, 4, 5, 1, 0] rfl ?_
      exact H
    · have H := H2 hc
      refine r_aloadn h (q := 0) 0 rfl (by decide +kernel : decode cX12_share 68 = .ok (.aload_n 0, 1)) ?_
      refine r_getR h (r := 34) f_Mod_108 at1M rfl (by decide) (by decide +kernel : decode cX12_share 69 = .ok (.getfield 108, 3)) ?_
      refine r_bipush h (v := 12) (by decide) (by decide +kernel : decode cX12_share 72 = .ok (.bipush 12, 2)) ?_
      refine r_iload h 5 rfl (by decide +kernel : decode cX12_share 74 = .ok (.iload 5, 2)) ?_
      refine r_iadd h (by decide +kernel : decode cX12_share 76 = .ok (.iadd, 1)) ?_
      obtain ⟨g1, H⟩ := H
      refine r_iald h (12 + x5).toNat rfl atM_34 g1 (by decide) (by decide +kernel : decode cX12_share 77 = .ok (.iaload, 1)) ?_
      refine r_iloadn h (q := 3) 3 rfl (by decide +kernel : decode cX12_share 78 = .ok (.iload_n 3, 1)) ?_
      obtain ⟨g1, g2, H⟩ := H
      obtain ⟨H1, H2⟩ := H
      refine r_icmp_lt h 86 g1 g2 (by decide) (by decide +kernel : decode cX12_share 79 = .ok (.if_icmp .lt 7, 3)) (fun hc => ?_) (fun hc => ?_)
      · have H := H1 hc
        refine r_iconst h (v := 0) (by decide +kernel : decode cX12_share 86 = .ok (.iconst 0, 1)) ?_
        refine r_iadd h (by decide +kernel : decode cX12_share 87 = .ok (.iadd, 1)) ?_
        refine r_istore h (L' := [(4, vi (x4 + 0)), (0, vr 1), (1, vi x1), (2, vi x2), (3, vi x3), (5, vi x5)]) (by decide) rfl (by decide +kernel : decode cX12_share 88 = .ok (.istore 4, 2)) ?_
        refine r_iinc h (i := 5) (v := 1) (L' := [(5, vi (x5 + 1)), (4, vi (x4 + 0)), (0, vr 1), (1, vi x1), (2, vi x2), (3, vi x3)]) 5 rfl (by decide) rfl (by decide +kernel : decode cX12_share 90 = .ok (.iinc 5 1, 3)) ?_
        refine r_goto h 46 (by decide) (by decide +kernel : decode cX12_share 93 = .ok (.goto (-47), 3)) ?_
        refine r_drop h [2, 3, 4, 5, 1, 0] rfl ?_
        exact H
      · have H := H2 hc
        refine r_iconst h (v := 1) (by decide +kernel : decode cX12_share 82 = .ok (.iconst 1, 1)) ?_
        refine r_goto h 87 (by decide) (by decide +kernel : decode cX12_share 83 = .ok (.goto 4, 3)) ?_
        refine r_iadd h (by decide +kernel : decode cX12_share 87 = .ok (.iadd, 1)) ?_
        refine r_istore h (L' := [(4, vi (x4 + 1)), (0, vr 1), (1, vi x1), (2, vi x2), (3, vi x3), (5, vi x5)]) (by decide) rfl (by decide +kernel : decode cX12_share 88 = .ok (.istore 4, 2)) ?_
        refine r_iinc h (i := 5) (v := 1) (L' := [(5, vi (x5 + 1)), (4, vi (x4 + 1)), (0, vr 1), (1, vi x1), (2, vi x2), (3, vi x3)]) 5 rfl (by decide) rfl (by decide +kernel : decode cX12_share 90 = .ok (.iinc 5 1, 3)) ?_
        refine r_goto h 46 (by decide) (by decide +kernel : decode cX12_share 93 = .ok (.goto (-47), 3)) ?_
        refine r_drop h [2, 3, 4, 5, 1, 0] rfl ?_
        exact H
set_option maxHeartbeats 4000000 in
set_option maxRecDepth 100000 in
theorem w_Mod_likeliest_0 {P : Int → Mm → Prop} {K : Nat → Rr → Nat → List (Nat × AV) → List AV → Mm → Prop} (h : EK shM yX12_likeliest cX12_likeliest 4 (some .int) 2 NM NM (QI RRM P) K) (x1 : Int) (M : Mm)
    (H : K NM RRM 4 [(0, vr 1), (1, vi x1), (2, vi (-1)), (3, vi 0)] [] M) :
    K NM RRM 0 [(0, vr 1), (1, vi x1)] [] M := by
  refine r_iconst h (v := (-1)) (by decide +kernel : decode cX12_likeliest 0 = .ok (.iconst (-1), 1)) ?_
  refine r_istoren h (q := 2) (L' := [(2, vi (-1)), (0, vr 1), (1, vi x1)]) (by decide) rfl (by decide +kernel : decode cX12_likeliest 1 = .ok (.istore_n 2, 1)) ?_
  refine r_iconst h (v := 0) (by decide +kernel : decode cX12_likeliest 2 = .ok (.iconst 0, 1)) ?_
  refine r_istoren h (q := 3) (L' := [(3, vi 0), (2, vi (-1)), (0, vr 1), (1, vi x1)]) (by decide) rfl (by decide +kernel : decode cX12_likeliest 3 = .ok (.istore_n 3, 1)) ?_
  refine r_drop h [2, 3, 1, 0] rfl ?_
  exact H
set_option maxHeartbeats 4000000 in
set_option maxRecDepth 100000 in
theorem w_Mod_likeliest_4 {P : Int → Mm → Prop} {K : Nat → Rr → Nat → List (Nat × AV) → List AV → Mm → Prop} (h : EK shM yX12_likeliest cX12_likeliest 4 (some .int) 2 NM NM (QI RRM P) K) (x1 : Int) (x2 : Int) (x3 : Int) (M : Mm)
    (H : (rng x3) ∧ (rng (M 3 0)) ∧ ((M 3 0) ≤ x3 → (P x2 M)) ∧ (¬ ((M 3 0) ≤ x3) → (∃ P1 : Int → Mm → Prop, S_Mod_isGoing x3 M P1 ∧ ∀ (r1 : Int) (M1 : Mm), P1 r1 M1 → (rng r1) ∧ (r1 = 0 → (K NM RRM 4 [(0, vr 1), (1, vi x1), (2, vi x2), (3, vi (x3 + 1))] [] M1)) ∧ (r1 ≠ 0 → ((rng x2) ∧ (x2 < 0 → (K NM RRM 4 [(0, vr 1), (1, vi x1), (2, vi x3), (3, vi (x3 + 1))] [] M1)) ∧ (¬ (x2 < 0) → ((rng x1) ∧ (x1 ≤ 0 → (K NM RRM 4 [(0, vr 1), (1, vi x1), (2, vi x2), (3, vi (x3 + 1))] [] M1)) ∧ (¬ (x1 ≤ 0) → ((0 ≤ x3 ∧ x3 < 7) ∧ (0 ≤ x2 ∧ x2 < 7) ∧ (rngL (M1 45 x3.toNat)) ∧ (rngL (M1 45 x2.toNat)) ∧ ((cmpL (M1 45 x3.toNat) (M1 45 x2.toNat)) ≤ 0 → (K NM RRM 4 [(0, vr 1), (1, vi x1), (2, vi x2), (3, vi (x3 + 1))] [] M1)) ∧ (¬ ((cmpL (M1 45 x3.toNat) (M1 45 x2.toNat)) ≤ 0) → (K NM RRM 4 [(0, vr 1), (1, vi x1), (2, vi x3), (3, vi (x3 + 1))] [] M1))))))))))) :
    K NM RRM 4 [(0, vr 1), (1, vi x1), (2, vi x2), (3, vi x3)] [] M := by
  refine r_iloadn h (q := 3) 3 rfl (by decide +kernel : decode cX12_likeliest 4 = .ok (.iload_n 3, 1)) ?_
  refine r_aloadn h (q := 0) 0 rfl (by decide +kernel : decode cX12_likeliest 5 = .ok (.aload_n 0, 1)) ?_
  refine r_getR h (r := 3) f_Mod_13 at1M rfl (by decide) (by decide +kernel : decode cX12_likeliest 6 = .ok (.getfield 13, 3)) ?_
  refine r_iconst h (v := 0) (by decide +kernel : decode cX12_likeliest 9 = .ok (.iconst 0, 1)) ?_
  refine r_iald h 0 rfl atM_3 (by decide) (by decide) (by decide +kernel : decode cX12_likeliest 10 = .ok (.iaload, 1)) ?_
  obtain ⟨g1, g2, H⟩ := H
  obtain ⟨H1, H2⟩ := H
  refine r_icmp_ge h 54 g1 g2 (by decide) (by decide +kernel : decode cX12_likeliest 11 = .ok (.if_icmp .ge 43, 3)) (fun hc => ?_) (fun hc => ?_)
  · have H := H1 hc
    refine r_iloadn h (q := 2) 2 rfl (by decide +kernel : decode cX12_likeliest 54 = .ok (.iload_n 2, 1)) ?_
    exact r_iret h rfl (by decide +kernel : decode cX12_likeliest 55 = .ok (.ireturn, 1)) rfl ⟨rfl, _, rfl, H⟩
  · have H := H2 hc
    refine r_aloadn h (q := 0) 0 rfl (by decide +kernel : decode cX12_likeliest 14 = .ok (.aload_n 0, 1)) ?_
    refine r_iloadn h (q := 3) 3 rfl (by decide +kernel : decode cX12_likeliest 15 = .ok (.iload_n 3, 1)) ?_
    obtain ⟨P1, hSP1, H⟩ := H
    refine r_callV h (as := [vi x3]) (S := []) (b := 1) m_Mod_363 hSP1 (by decide) (Nat.le_refl _) rfl at1M rfl (Nat.le_of_ble_eq_true rfl) (by decide +kernel : decode cX12_likeliest 16 = .ok (.invokevirtual 363, 3)) ?_
    rintro _ _ M1 ⟨rfl, r1, rfl, hP⟩
    have H := H r1 M1 hP
    show K NM RRM _ _ [vi r1] _
    obtain ⟨g1, H⟩ := H
    obtain ⟨H1, H2⟩ := H
    refine r_if_eq h 48 g1 (by decide) (by decide +kernel : decode cX12_likeliest 19 = .ok (.ifCond .eq 29, 3)) (fun hc => ?_) (fun hc => ?_)
    · have H := H1 hc
      refine r_iinc h (i := 3) (v := 1) (L' := [(3, vi (x3 + 1)), (0, vr 1), (1, vi x1), (2, vi x2)]) 3 rfl (by decide) rfl (by decide +kernel : decode cX12_likeliest 48 = .ok (.iinc 3 1, 3)) ?_
      refine r_goto h 4 (by decide) (by decide +kernel : decode cX12_likeliest 51 = .ok (.goto (-47), 3)) ?_
      refine r_drop h [1, 2, 3, 0] rfl ?_
      exact H
    · have H := H2 hc
      refine r_iloadn h (q := 2) 2 rfl (by decide +kernel : decode cX12_likeliest 22 = .ok (.iload_n 2, 1)) ?_
      obtain ⟨g1, H⟩ := H
      obtain ⟨H1, H2⟩ := H
      refine r_if_lt h 46 g1 (by decide) (by decide +kernel : decode cX12_likeliest 23 = .ok (.ifCond .lt 23, 3)) (fun hc => ?_) (fun hc => ?_)
      · have H := H1 hc
        refine r_iloadn h (q := 3) 3 rfl (by decide +kernel : decode cX12_likeliest 46 = .ok (.iload_n 3, 1)) ?_
        refine r_istoren h (q := 2) (L' := [(2, vi x3), (0, vr 1), (1, vi x1), (3, vi x3)]) (by decide) rfl (by decide +kernel : decode cX12_likeliest 47 = .ok (.istore_n 2, 1)) ?_
        refine r_iinc h (i := 3) (v := 1) (L' := [(3, vi (x3 + 1)), (2, vi x3), (0, vr 1), (1, vi x1)]) 3 rfl (by decide) rfl (by decide +kernel : decode cX12_likeliest 48 = .ok (.iinc 3 1, 3)) ?_
        refine r_goto h 4 (by decide) (by decide +kernel : decode cX12_likeliest 51 = .ok (.goto (-47), 3)) ?_
        refine r_drop h [2, 3, 1, 0] rfl ?_
        exact H
      · have H := H2 hc
        refine r_iloadn h (q := 1) 1 rfl (by decide +kernel : decode cX12_likeliest 26 = .ok (.iload_n 1, 1)) ?_
        obtain ⟨g1, H⟩ := H
        obtain ⟨H1, H2⟩ := H
        refine r_if_le h 48 g1 (by decide) (by decide +kernel : decode cX12_likeliest 27 = .ok (.ifCond .le 21, 3)) (fun hc => ?_) (fun hc => ?_)
        · have H := H1 hc
          refine r_iinc h (i := 3) (v := 1) (L' := [(3, vi (x3 + 1)), (0, vr 1), (1, vi x1), (2, vi x2)]) 3 rfl (by decide) rfl (by decide +kernel : decode cX12_likeliest 48 = .ok (.iinc 3 1, 3)) ?_
          refine r_goto h 4 (by decide) (by decide +kernel : decode cX12_likeliest 51 = .ok (.goto (-47), 3)) ?_
          refine r_drop h [1, 2, 3, 0] rfl ?_
          exact H
        · have H := H2 hc
          refine r_aloadn h (q := 0) 0 rfl (by decide +kernel : decode cX12_likeliest 30 = .ok (.aload_n 0, 1)) ?_
          refine r_getR h (r := 45) f_Mod_141 at1M rfl (by decide) (by decide +kernel : decode cX12_likeliest 31 = .ok (.getfield 141, 3)) ?_
          refine r_iloadn h (q := 3) 3 rfl (by decide +kernel : decode cX12_likeliest 34 = .ok (.iload_n 3, 1)) ?_
          obtain ⟨g1, H⟩ := H
          refine r_lald h x3.toNat rfl atM_45 g1 (by decide) (by decide +kernel : decode cX12_likeliest 35 = .ok (.laload, 1)) ?_
          refine r_aloadn h (q := 0) 0 rfl (by decide +kernel : decode cX12_likeliest 36 = .ok (.aload_n 0, 1)) ?_
          refine r_getR h (r := 45) f_Mod_141 at1M rfl (by decide) (by decide +kernel : decode cX12_likeliest 37 = .ok (.getfield 141, 3)) ?_
          refine r_iloadn h (q := 2) 2 rfl (by decide +kernel : decode cX12_likeliest 40 = .ok (.iload_n 2, 1)) ?_
          obtain ⟨g1, H⟩ := H
          refine r_lald h x2.toNat rfl atM_45 g1 (by decide) (by decide +kernel : decode cX12_likeliest 41 = .ok (.laload, 1)) ?_
          obtain ⟨g1, g2, H⟩ := H
          refine r_lcmp h g1 g2 (by decide +kernel : decode cX12_likeliest 42 = .ok (.lcmp, 1)) ?_
          obtain ⟨H1, H2⟩ := H
          refine r_if_le h 48 (rng_cmpL _ _) (by decide) (by decide +kernel : decode cX12_likeliest 43 = .ok (.ifCond .le 5, 3)) (fun hc => ?_) (fun hc => ?_)
          · have H := H1 hc
            refine r_iinc h (i := 3) (v := 1) (L' := [(3, vi (x3 + 1)), (0, vr 1), (1, vi x1), (2, vi x2)]) 3 rfl (by decide) rfl (by decide +kernel : decode cX12_likeliest 48 = .ok (.iinc 3 1, 3)) ?_
            refine r_goto h 4 (by decide) (by decide +kernel : decode cX12_likeliest 51 = .ok (.goto (-47), 3)) ?_
            refine r_drop h [1, 2, 3, 0] rfl ?_
            exact H
          · have H := H2 hc
            refine r_iloadn h (q := 3) 3 rfl (by decide +kernel : decode cX12_likeliest 46 = .ok (.iload_n 3, 1)) ?_
            refine r_istoren h (q := 2) (L' := [(2, vi x3), (0, vr 1), (1, vi x1), (3, vi x3)]) (by decide) rfl (by decide +kernel : decode cX12_likeliest 47 = .ok (.istore_n 2, 1)) ?_
            refine r_iinc h (i := 3) (v := 1) (L' := [(3, vi (x3 + 1)), (2, vi x3), (0, vr 1), (1, vi x1)]) 3 rfl (by decide) rfl (by decide +kernel : decode cX12_likeliest 48 = .ok (.iinc 3 1, 3)) ?_
            refine r_goto h 4 (by decide) (by decide +kernel : decode cX12_likeliest 51 = .ok (.goto (-47), 3)) ?_
            refine r_drop h [2, 3, 1, 0] rfl ?_
            exact H
set_option maxHeartbeats 4000000 in
set_option maxRecDepth 100000 in
theorem w_Mod_isRest_0 {P : Int → Mm → Prop} {K : Nat → Rr → Nat → List (Nat × AV) → List AV → Mm → Prop} (h : EK shM yX12_isRest cX12_isRest 5 (some .boolean) 2 NM NM (QI RRM P) K) (x0 : Int) (x1 : Int) (x2 : Int) (x3 : Int) (M : Mm)
    (H : K NM RRM 3 [(0, vi x0), (1, vi x1), (2, vi x2), (3, vi x3), (4, vi 0)] [] M) :
    K NM RRM 0 [(0, vi x0), (1, vi x1), (2, vi x2), (3, vi x3)] [] M := by
  refine r_iconst h (v := 0) (by decide +kernel : decode cX12_isRest 0 = .ok (.iconst 0, 1)) ?_
  refine r_istore h (L' := [(4, vi 0), (0, vi x0), (1, vi x1), (2, vi x2), (3, vi x3)]) (by decide) rfl (by decide +kernel : decode cX12_isRest 1 = .ok (.istore 4, 2)) ?_
  refine r_drop h [1, 2, 3, 4, 0] rfl ?_
  exact H
set_option maxHeartbeats 4000000 in
set_option maxRecDepth 100000 in
theorem w_Mod_isRest_3 {P : Int → Mm → Prop} {K : Nat → Rr → Nat → List (Nat × AV) → List AV → Mm → Prop} (h : EK shM yX12_isRest cX12_isRest 5 (some .boolean) 2 NM NM (QI RRM P) K) (x0 : Int) (x1 : Int) (x2 : Int) (x3 : Int) (x4 : Int) (M : Mm)
    (H : (rng x4) ∧ (10 ≤ x4 → (P 1 M)) ∧ (¬ (10 ≤ x4) → (∃ P1 : Int → Mm → Prop, S_Mod_firstGets x0 x4 x3 M P1 ∧ ∀ (r1 : Int) (M1 : Mm), P1 r1 M1 → ∃ P2 : Int → Mm → Prop, S_Mod_firstGets x0 x2 x3 M1 P2 ∧ ∀ (r2 : Int) (M2 : Mm), P2 r2 M2 → (rng r1) ∧ (rng r2) ∧ (r2 < r1 → (P 0 M2)) ∧ (¬ (r2 < r1) → (∃ P3 : Int → Mm → Prop, S_Mod_otherGets x1 x2 x4 M2 P3 ∧ ∀ (r3 : Int) (M3 : Mm), P3 r3 M3 → ∃ P4 : Int → Mm → Prop, S_Mod_otherGets x1 x2 x3 M3 P4 ∧ ∀ (r4 : Int) (M4 : Mm), P4 r4 M4 → (rng r3) ∧ (rng r4) ∧ (r3 ≤ r4 → (K NM RRM 3 [(0, vi x0), (1, vi x1), (2, vi x2), (3, vi x3), (4, vi (x4 + 1))] [] M4)) ∧ (¬ (r3 ≤ r4) → (P 0 M4))))))) :
    K NM RRM 3 [(0, vi x0), (1, vi x1), (2, vi x2), (3, vi x3), (4, vi x4)] [] M := by
  refine r_iload h 4 rfl (by decide +kernel : decode cX12_isRest 3 = .ok (.iload 4, 2)) ?_
  refine r_bipush h (v := 10) (by decide) (by decide +kernel : decode cX12_isRest 5 = .ok (.bipush 10, 2)) ?_
  obtain ⟨g1, H⟩ := H
  obtain ⟨H1, H2⟩ := H
  refine r_icmp_ge h 50 g1 (by decide) (by decide) (by decide +kernel : decode cX12_isRest 7 = .ok (.if_icmp .ge 43, 3)) (fun hc => ?_) (fun hc => ?_)
  · have H := H1 hc
    refine r_iconst h (v := 1) (by decide +kernel : decode cX12_isRest 50 = .ok (.iconst 1, 1)) ?_
    exact r_zret h rfl (by decide) (by decide +kernel : decode cX12_isRest 51 = .ok (.ireturn, 1)) rfl ⟨rfl, _, rfl, H⟩
  · have H := H2 hc
    refine r_iloadn h (q := 0) 0 rfl (by decide +kernel : decode cX12_isRest 10 = .ok (.iload_n 0, 1)) ?_
    refine r_iload h 4 rfl (by decide +kernel : decode cX12_isRest 11 = .ok (.iload 4, 2)) ?_
    refine r_iloadn h (q := 3) 3 rfl (by decide +kernel : decode cX12_isRest 13 = .ok (.iload_n 3, 1)) ?_
    obtain ⟨P1, hSP1, H⟩ := H
    refine r_callS h (as := [vi x0, vi x4, vi x3]) (S := []) m_Mod_468 hSP1 (by decide) (Nat.le_refl _) rfl rfl (Nat.le_of_ble_eq_true rfl) (by decide +kernel : decode cX12_isRest 14 = .ok (.invokestatic 468, 3)) ?_
    rintro _ _ M1 ⟨rfl, r1, rfl, hP⟩
    have H := H r1 M1 hP
    show K NM RRM _ _ [vi r1] _
    refine r_iloadn h (q := 0) 0 rfl (by decide +kernel : decode cX12_isRest 17 = .ok (.iload_n 0, 1)) ?_
    refine r_iloadn h (q := 2) 2 rfl (by decide +kernel : decode cX12_isRest 18 = .ok (.iload_n 2, 1)) ?_
    refine r_iloadn h (q := 3) 3 rfl (by decide +kernel : decode cX12_isRest 19 = .ok (.iload_n 3, 1)) ?_
    obtain ⟨P2, hSP2, H⟩ := H
    refine r_callS h (as := [vi x0, vi x2, vi x3]) (S := [vi r1]) m_Mod_468 hSP2 (by decide) (Nat.le_refl _) rfl rfl (Nat.le_of_ble_eq_true rfl) (by decide +kernel : decode cX12_isRest 20 = .ok (.invokestatic 468, 3)) ?_
    rintro _ _ M2 ⟨rfl, r2, rfl, hP⟩
    have H := H r2 M2 hP
    show K NM RRM _ _ [vi r2, vi r1] _
    obtain ⟨g1, g2, H⟩ := H
    obtain ⟨H1, H2⟩ := H
    refine r_icmp_gt h 42 g1 g2 (by decide) (by decide +kernel : decode cX12_isRest 23 = .ok (.if_icmp .gt 19, 3)) (fun hc => ?_) (fun hc => ?_)
    · have H := H1 hc
      refine r_iconst h (v := 0) (by decide +kernel : decode cX12_isRest 42 = .ok (.iconst 0, 1)) ?_
      exact r_zret h rfl (by decide) (by decide +kernel : decode cX12_isRest 43 = .ok (.ireturn, 1)) rfl ⟨rfl, _, rfl, H⟩
    · have H := H2 hc
      refine r_iloadn h (q := 1) 1 rfl (by decide +kernel : decode cX12_isRest 26 = .ok (.iload_n 1, 1)) ?_
      refine r_iloadn h (q := 2) 2 rfl (by decide +kernel : decode cX12_isRest 27 = .ok (.iload_n 2, 1)) ?_
      refine r_iload h 4 rfl (by decide +kernel : decode cX12_isRest 28 = .ok (.iload 4, 2)) ?_
      obtain ⟨P3, hSP3, H⟩ := H
      refine r_callS h (as := [vi x1, vi x2, vi x4]) (S := []) m_Mod_471 hSP3 (by decide) (Nat.le_refl _) rfl rfl (Nat.le_of_ble_eq_true rfl) (by decide +kernel : decode cX12_isRest 30 = .ok (.invokestatic 471, 3)) ?_
      rintro _ _ M3 ⟨rfl, r3, rfl, hP⟩
      have H := H r3 M3 hP
      show K NM RRM _ _ [vi r3] _
      refine r_iloadn h (q := 1) 1 rfl (by decide +kernel : decode cX12_isRest 33 = .ok (.iload_n 1, 1)) ?_
      refine r_iloadn h (q := 2) 2 rfl (by decide +kernel : decode cX12_isRest 34 = .ok (.iload_n 2, 1)) ?_
      refine r_iloadn h (q := 3) 3 rfl (by decide +kernel : decode cX12_isRest 35 = .ok (.iload_n 3, 1)) ?_
      obtain ⟨P4, hSP4, H⟩ := H
      refine r_callS h (as := [vi x1, vi x2, vi x3]) (S := [vi r3]) m_Mod_471 hSP4 (by decide) (Nat.le_refl _) rfl rfl (Nat.le_of_ble_eq_true rfl) (by decide +kernel : decode cX12_isRest 36 = .ok (.invokestatic 471, 3)) ?_
      rintro _ _ M4 ⟨rfl, r4, rfl, hP⟩
      have H := H r4 M4 hP
      show K NM RRM _ _ [vi r4, vi r3] _
      obtain ⟨g1, g2, H⟩ := H
      obtain ⟨H1, H2⟩ := H
      refine r_icmp_le h 44 g1 g2 (by decide) (by decide +kernel : decode cX12_isRest 39 = .ok (.if_icmp .le 5, 3)) (fun hc => ?_) (fun hc => ?_)
      · have H := H1 hc
        refine r_iinc h (i := 4) (v := 1) (L' := [(4, vi (x4 + 1)), (0, vi x0), (1, vi x1), (2, vi x2), (3, vi x3)]) 4 rfl (by decide) rfl (by decide +kernel : decode cX12_isRest 44 = .ok (.iinc 4 1, 3)) ?_
        refine r_goto h 3 (by decide) (by decide +kernel : decode cX12_isRest 47 = .ok (.goto (-44), 3)) ?_
        refine r_drop h [1, 2, 3, 4, 0] rfl ?_
        exact H
      · have H := H2 hc
        refine r_iconst h (v := 0) (by decide +kernel : decode cX12_isRest 42 = .ok (.iconst 0, 1)) ?_
        exact r_zret h rfl (by decide) (by decide +kernel : decode cX12_isRest 43 = .ok (.ireturn, 1)) rfl ⟨rfl, _, rfl, H⟩
set_option maxHeartbeats 4000000 in
set_option maxRecDepth 100000 in
theorem w_Mod_mark_0 {P : Int → Mm → Prop} {K : Nat → Rr → Nat → List (Nat × AV) → List AV → Mm → Prop} (h : EK shM yX12_mark cX12_mark 5 (some .boolean) 2 NM NM (QI RRM P) K) (x1 : Int) (x2 : Int) (M : Mm)
    (H : ∀ M1 : Mm, M1 = (upr M 1 (up1 (M 1) 0 0)) → ∃ P2 : Int → Mm → Prop, S_Mod_within x1 0 3 M1 P2 ∧ ∀ (r1 : Int) (M2 : Mm), P2 r1 M2 → (rng r1) ∧ (r1 = 0 → (P 0 M2)) ∧ (r1 ≠ 0 → ((rng x2) ∧ (x2 = 0 → (K NM RRM 29 [(0, vr 1), (1, vi x1), (2, vi x2)] [] M2)) ∧ (x2 ≠ 0 → ((0 ≤ x1 ∧ x1 < 4) ∧ (rng (M2 38 x1.toNat)) ∧ ((M2 38 x1.toNat) ≠ 0 → (K NM RRM 29 [(0, vr 1), (1, vi x1), (2, vi x2)] [] M2)) ∧ ((M2 38 x1.toNat) = 0 → (P 0 M2))))))) :
    K NM RRM 0 [(0, vr 1), (1, vi x1), (2, vi x2)] [] M := by
  refine r_aloadn h (q := 0) 0 rfl (by decide +kernel : decode cX12_mark 0 = .ok (.aload_n 0, 1)) ?_
  refine r_iconst h (v := 0) (by decide +kernel : decode cX12_mark 1 = .ok (.iconst 0, 1)) ?_
  refine r_putI h f_Mod_147 at1M rfl rfl (by decide +kernel : decode cX12_mark 2 = .ok (.putfield 147, 3)) ?_
  have H := H _ rfl
  revert H
  generalize (upr M 1 (up1 (M 1) 0 0)) = M1
  intro H
  refine r_iloadn h (q := 1) 1 rfl (by decide +kernel : decode cX12_mark 5 = .ok (.iload_n 1, 1)) ?_
  refine r_iconst h (v := 0) (by decide +kernel : decode cX12_mark 6 = .ok (.iconst 0, 1)) ?_
  refine r_iconst h (v := 3) (by decide +kernel : decode cX12_mark 7 = .ok (.iconst 3, 1)) ?_
  obtain ⟨P2, hSP2, H⟩ := H
  refine r_callS h (as := [vi x1, vi 0, vi 3]) (S := []) m_Mod_275 hSP2 (by decide) (Nat.le_refl _) rfl rfl (Nat.le_of_ble_eq_true rfl) (by decide +kernel : decode cX12_mark 8 = .ok (.invokestatic 275, 3)) ?_
  rintro _ _ M2 ⟨rfl, r1, rfl, hP⟩
  have H := H r1 M2 hP
  show K NM RRM _ _ [vi r1] _
  obtain ⟨g1, H⟩ := H
  obtain ⟨H1, H2⟩ := H
  refine r_if_eq h 27 g1 (by decide) (by decide +kernel : decode cX12_mark 11 = .ok (.ifCond .eq 16, 3)) (fun hc => ?_) (fun hc => ?_)
  · have H := H1 hc
    refine r_iconst h (v := 0) (by decide +kernel : decode cX12_mark 27 = .ok (.iconst 0, 1)) ?_
    exact r_zret h rfl (by decide) (by decide +kernel : decode cX12_mark 28 = .ok (.ireturn, 1)) rfl ⟨rfl, _, rfl, H⟩
  · have H := H2 hc
    refine r_iloadn h (q := 2) 2 rfl (by decide +kernel : decode cX12_mark 14 = .ok (.iload_n 2, 1)) ?_
    obtain ⟨g1, H⟩ := H
    obtain ⟨H1, H2⟩ := H
    refine r_if_eq h 29 g1 (by decide) (by decide +kernel : decode cX12_mark 15 = .ok (.ifCond .eq 14, 3)) (fun hc => ?_) (fun hc => ?_)
    · have H := H1 hc
      exact H
    · have H := H2 hc
      refine r_aloadn h (q := 0) 0 rfl (by decide +kernel : decode cX12_mark 18 = .ok (.aload_n 0, 1)) ?_
      refine r_getR h (r := 38) f_Mod_120 at1M rfl (by decide) (by decide +kernel : decode cX12_mark 19 = .ok (.getfield 120, 3)) ?_
      refine r_iloadn h (q := 1) 1 rfl (by decide +kernel : decode cX12_mark 22 = .ok (.iload_n 1, 1)) ?_
      obtain ⟨g1, H⟩ := H
      refine r_zald h x1.toNat rfl atM_38 g1 (by decide) (by decide +kernel : decode cX12_mark 23 = .ok (.baload, 1)) ?_
      obtain ⟨g1, H⟩ := H
      obtain ⟨H1, H2⟩ := H
      refine r_if_ne h 29 g1 (by decide) (by decide +kernel : decode cX12_mark 24 = .ok (.ifCond .ne 5, 3)) (fun hc => ?_) (fun hc => ?_)
      · have H := H1 hc
        exact H
      · have H := H2 hc
        refine r_iconst h (v := 0) (by decide +kernel : decode cX12_mark 27 = .ok (.iconst 0, 1)) ?_
        exact r_zret h rfl (by decide) (by decide +kernel : decode cX12_mark 28 = .ok (.ireturn, 1)) rfl ⟨rfl, _, rfl, H⟩
set_option maxHeartbeats 4000000 in
set_option maxRecDepth 100000 in
theorem w_Mod_mark_29 {P : Int → Mm → Prop} {K : Nat → Rr → Nat → List (Nat × AV) → List AV → Mm → Prop} (h : EK shM yX12_mark cX12_mark 5 (some .boolean) 2 NM NM (QI RRM P) K) (x1 : Int) (x2 : Int) (M : Mm)
    (H : (0 ≤ x1 ∧ x1 < 4) ∧ ∀ M1 : Mm, M1 = (upr M 38 (up1 (M 38) x1.toNat 1)) → (rng x2) ∧ (x2 = 0 → ((rng x2) ∧ (x2 = 0 → (K NM RRM 59 [(0, vr 1), (1, vi x1), (2, vi x2), (3, vi 0)] [vi (1 + x1)] M1)) ∧ (x2 ≠ 0 → (K NM RRM 59 [(0, vr 1), (1, vi x1), (2, vi x2), (3, vi 0)] [vi 0] M1)))) ∧ (x2 ≠ 0 → ((rng x2) ∧ (x2 = 0 → (K NM RRM 59 [(0, vr 1), (1, vi x1), (2, vi x2), (3, vi (1 + x1))] [vi (1 + x1)] M1)) ∧ (x2 ≠ 0 → (K NM RRM 59 [(0, vr 1), (1, vi x1), (2, vi x2), (3, vi (1 + x1))] [vi 0] M1))))) :
    K NM RRM 29 [(0, vr 1), (1, vi x1), (2, vi x2)] [] M := by
  refine r_aloadn h (q := 0) 0 rfl (by decide +kernel : decode cX12_mark 29 = .ok (.aload_n 0, 1)) ?_
  refine r_getR h (r := 38) f_Mod_120 at1M rfl (by decide) (by decide +kernel : decode cX12_mark 30 = .ok (.getfield 120, 3)) ?_
  refine r_iloadn h (q := 1) 1 rfl (by decide +kernel : decode cX12_mark 33 = .ok (.iload_n 1, 1)) ?_
  refine r_iconst h (v := 1) (by decide +kernel : decode cX12_mark 34 = .ok (.iconst 1, 1)) ?_
  obtain ⟨g1, H⟩ := H
  refine r_zast h x1.toNat rfl atM_38 g1 (by decide) (by decide) (by decide +kernel : decode cX12_mark 35 = .ok (.bastore, 1)) ?_
  have H := H _ rfl
  revert H
  generalize (upr M 38 (up1 (M 38) x1.toNat 1)) = M1
  intro H
  refine r_iloadn h (q := 2) 2 rfl (by decide +kernel : decode cX12_mark 36 = .ok (.iload_n 2, 1)) ?_
  obtain ⟨g1, H⟩ := H
  obtain ⟨H1, H2⟩ := H
  refine r_if_eq h 46 g1 (by decide) (by decide +kernel : decode cX12_mark 37 = .ok (.ifCond .eq 9, 3)) (fun hc => ?_) (fun hc => ?_)
  · have H := H1 hc
    refine r_iconst h (v := 0) (by decide +kernel : decode cX12_mark 46 = .ok (.iconst 0, 1)) ?_
    refine r_istoren h (q := 3) (L' := [(3, vi 0), (0, vr 1), (1, vi x1), (2, vi x2)]) (by decide) rfl (by decide +kernel : decode cX12_mark 47 = .ok (.istore_n 3, 1)) ?_
    refine r_iloadn h (q := 2) 3 rfl (by decide +kernel : decode cX12_mark 48 = .ok (.iload_n 2, 1)) ?_
    obtain ⟨g1, H⟩ := H
    obtain ⟨H1, H2⟩ := H
    refine r_if_eq h 56 g1 (by decide) (by decide +kernel : decode cX12_mark 49 = .ok (.ifCond .eq 7, 3)) (fun hc => ?_) (fun hc => ?_)
    · have H := H1 hc
      refine r_iconst h (v := 1) (by decide +kernel : decode cX12_mark 56 = .ok (.iconst 1, 1)) ?_
      refine r_iloadn h (q := 1) 2 rfl (by decide +kernel : decode cX12_mark 57 = .ok (.iload_n 1, 1)) ?_
      refine r_iadd h (by decide +kernel : decode cX12_mark 58 = .ok (.iadd, 1)) ?_
      refine r_drop h [1, 2, 3, 0] rfl ?_
      exact H
    · have H := H2 hc
      refine r_iconst h (v := 0) (by decide +kernel : decode cX12_mark 52 = .ok (.iconst 0, 1)) ?_
      refine r_goto h 59 (by decide) (by decide +kernel : decode cX12_mark 53 = .ok (.goto 6, 3)) ?_
      refine r_drop h [1, 2, 3, 0] rfl ?_
      exact H
  · have H := H2 hc
    refine r_iconst h (v := 1) (by decide +kernel : decode cX12_mark 40 = .ok (.iconst 1, 1)) ?_
    refine r_iloadn h (q := 1) 1 rfl (by decide +kernel : decode cX12_mark 41 = .ok (.iload_n 1, 1)) ?_
    refine r_iadd h (by decide +kernel : decode cX12_mark 42 = .ok (.iadd, 1)) ?_
    refine r_goto h 47 (by decide) (by decide +kernel : decode cX12_mark 43 = .ok (.goto 4, 3)) ?_
    refine r_istoren h (q := 3) (L' := [(3, vi (1 + x1)), (0, vr 1), (1, vi x1), (2, vi x2)]) (by decide) rfl (by decide +kernel : decode cX12_mark 47 = .ok (.istore_n 3, 1)) ?_
    refine r_iloadn h (q := 2) 3 rfl (by decide +kernel : decode cX12_mark 48 = .ok (.iload_n 2, 1)) ?_
    obtain ⟨g1, H⟩ := H
    obtain ⟨H1, H2⟩ := H
    refine r_if_eq h 56 g1 (by decide) (by decide +kernel : decode cX12_mark 49 = .ok (.ifCond .eq 7, 3)) (fun hc => ?_) (fun hc => ?_)
    · have H := H1 hc
      refine r_iconst h (v := 1) (by decide +kernel : decode cX12_mark 56 = .ok (.iconst 1, 1)) ?_
      refine r_iloadn h (q := 1) 2 rfl (by decide +kernel : decode cX12_mark 57 = .ok (.iload_n 1, 1)) ?_
      refine r_iadd h (by decide +kernel : decode cX12_mark 58 = .ok (.iadd, 1)) ?_
      refine r_drop h [1, 2, 3, 0] rfl ?_
      exact H
    · have H := H2 hc
      refine r_iconst h (v := 0) (by decide +kernel : decode cX12_mark 52 = .ok (.iconst 0, 1)) ?_
      refine r_goto h 59 (by decide) (by decide +kernel : decode cX12_mark 53 = .ok (.goto 6, 3)) ?_
      refine r_drop h [1, 2, 3, 0] rfl ?_
      exact H
set_option maxHeartbeats 4000000 in
set_option maxRecDepth 100000 in
theorem w_Mod_mark_59 {P : Int → Mm → Prop} {K : Nat → Rr → Nat → List (Nat × AV) → List AV → Mm → Prop} (h : EK shM yX12_mark cX12_mark 5 (some .boolean) 2 NM NM (QI RRM P) K) (x1 : Int) (x2 : Int) (x3 : Int) (s0 : Int) (M : Mm)
    (H : ∃ P1 : Mm → Prop, S_Mod_laysLines x3 s0 M P1 ∧ ∀ M1 : Mm, P1 M1 → ∃ P2 : Mm → Prop, S_Mod_laysSeen x3 s0 M1 P2 ∧ ∀ M2 : Mm, P2 M2 → (rng x2) ∧ (x2 = 0 → (∃ P3 : Mm → Prop, S_Mod_copies 34 33 0 36 132 (33 * x1) M2 P3 ∧ ∀ M3 : Mm, P3 M3 → P 1 M3)) ∧ (x2 ≠ 0 → (∃ P4 : Mm → Prop, S_Mod_copies 36 132 (33 * x1) 34 33 0 M2 P4 ∧ ∀ M4 : Mm, P4 M4 → ∀ M5 : Mm, M5 = (upr M4 1 (up1 (M4 1) 50 0)) → P 1 M5))) :
    K NM RRM 59 [(0, vr 1), (1, vi x1), (2, vi x2), (3, vi x3)] [vi s0] M := by
  refine r_istore h (L' := [(4, vi s0), (0, vr 1), (1, vi x1), (2, vi x2), (3, vi x3)]) (by decide) rfl (by decide +kernel : decode cX12_mark 59 = .ok (.istore 4, 2)) ?_
  refine r_aloadn h (q := 0) 1 rfl (by decide +kernel : decode cX12_mark 61 = .ok (.aload_n 0, 1)) ?_
  refine r_iloadn h (q := 3) 4 rfl (by decide +kernel : decode cX12_mark 62 = .ok (.iload_n 3, 1)) ?_
  refine r_iload h 0 rfl (by decide +kernel : decode cX12_mark 63 = .ok (.iload 4, 2)) ?_
  obtain ⟨P1, hSP1, H⟩ := H
  refine r_callV h (as := [vi x3, vi s0]) (S := []) (b := 1) m_Mod_346 hSP1 (by decide) (Nat.le_refl _) rfl at1M rfl (Nat.le_of_ble_eq_true rfl) (by decide +kernel : decode cX12_mark 65 = .ok (.invokevirtual 346, 3)) ?_
  rintro _ _ M1 ⟨rfl, rfl, hP⟩
  have H := H M1 hP
  show K NM RRM _ _ [] _
  refine r_aloadn h (q := 0) 1 rfl (by decide +kernel : decode cX12_mark 68 = .ok (.aload_n 0, 1)) ?_
  refine r_iloadn h (q := 3) 4 rfl (by decide +kernel : decode cX12_mark 69 = .ok (.iload_n 3, 1)) ?_
  refine r_iload h 0 rfl (by decide +kernel : decode cX12_mark 70 = .ok (.iload 4, 2)) ?_
  obtain ⟨P2, hSP2, H⟩ := H
  refine r_callV h (as := [vi x3, vi s0]) (S := []) (b := 1) m_Mod_495 hSP2 (by decide) (Nat.le_refl _) rfl at1M rfl (Nat.le_of_ble_eq_true rfl) (by decide +kernel : decode cX12_mark 72 = .ok (.invokevirtual 495, 3)) ?_
  rintro _ _ M2 ⟨rfl, rfl, hP⟩
  have H := H M2 hP
  show K NM RRM _ _ [] _
  refine r_iloadn h (q := 2) 3 rfl (by decide +kernel : decode cX12_mark 75 = .ok (.iload_n 2, 1)) ?_
  obtain ⟨g1, H⟩ := H
  obtain ⟨H1, H2⟩ := H
  refine r_if_eq h 103 g1 (by decide) (by decide +kernel : decode cX12_mark 76 = .ok (.ifCond .eq 27, 3)) (fun hc => ?_) (fun hc => ?_)
  · have H := H1 hc
    refine r_aloadn h (q := 0) 1 rfl (by decide +kernel : decode cX12_mark 103 = .ok (.aload_n 0, 1)) ?_
    refine r_getR h (r := 34) f_Mod_108 at1M rfl (by decide) (by decide +kernel : decode cX12_mark 104 = .ok (.getfield 108, 3)) ?_
    refine r_iconst h (v := 0) (by decide +kernel : decode cX12_mark 107 = .ok (.iconst 0, 1)) ?_
    refine r_aloadn h (q := 0) 1 rfl (by decide +kernel : decode cX12_mark 108 = .ok (.aload_n 0, 1)) ?_
    refine r_getR h (r := 36) f_Mod_114 at1M rfl (by decide) (by decide +kernel : decode cX12_mark 109 = .ok (.getfield 114, 3)) ?_
    refine r_bipush h (v := 33) (by decide) (by decide +kernel : decode cX12_mark 112 = .ok (.bipush 33, 2)) ?_
    refine r_iloadn h (q := 1) 2 rfl (by decide +kernel : decode cX12_mark 114 = .ok (.iload_n 1, 1)) ?_
    refine r_imul h (by decide +kernel : decode cX12_mark 115 = .ok (.imul, 1)) ?_
    obtain ⟨P3, hSP3, H⟩ := H
    refine r_callS h (as := [vr 34, vi 0, vr 36, vi (33 * x1)]) (S := []) m_Mod_393 hSP3 (by decide) (Nat.le_refl _) rfl rfl (Nat.le_of_ble_eq_true rfl) (by decide +kernel : decode cX12_mark 116 = .ok (.invokestatic 393, 3)) ?_
    rintro _ _ M3 ⟨rfl, rfl, hP⟩
    have H := H M3 hP
    show K NM RRM _ _ [] _
    refine r_iconst h (v := 1) (by decide +kernel : decode cX12_mark 119 = .ok (.iconst 1, 1)) ?_
    exact r_zret h rfl (by decide) (by decide +kernel : decode cX12_mark 120 = .ok (.ireturn, 1)) rfl ⟨rfl, _, rfl, H⟩
  · have H := H2 hc
    refine r_aloadn h (q := 0) 1 rfl (by decide +kernel : decode cX12_mark 79 = .ok (.aload_n 0, 1)) ?_
    refine r_getR h (r := 36) f_Mod_114 at1M rfl (by decide) (by decide +kernel : decode cX12_mark 80 = .ok (.getfield 114, 3)) ?_
    refine r_bipush h (v := 33) (by decide) (by decide +kernel : decode cX12_mark 83 = .ok (.bipush 33, 2)) ?_
    refine r_iloadn h (q := 1) 2 rfl (by decide +kernel : decode cX12_mark 85 = .ok (.iload_n 1, 1)) ?_
    refine r_imul h (by decide +kernel : decode cX12_mark 86 = .ok (.imul, 1)) ?_
    refine r_aloadn h (q := 0) 1 rfl (by decide +kernel : decode cX12_mark 87 = .ok (.aload_n 0, 1)) ?_
    refine r_getR h (r := 34) f_Mod_108 at1M rfl (by decide) (by decide +kernel : decode cX12_mark 88 = .ok (.getfield 108, 3)) ?_
    refine r_iconst h (v := 0) (by decide +kernel : decode cX12_mark 91 = .ok (.iconst 0, 1)) ?_
    obtain ⟨P4, hSP4, H⟩ := H
    refine r_callS h (as := [vr 36, vi (33 * x1), vr 34, vi 0]) (S := []) m_Mod_393 hSP4 (by decide) (Nat.le_refl _) rfl rfl (Nat.le_of_ble_eq_true rfl) (by decide +kernel : decode cX12_mark 92 = .ok (.invokestatic 393, 3)) ?_
    rintro _ _ M4 ⟨rfl, rfl, hP⟩
    have H := H M4 hP
    show K NM RRM _ _ [] _
    refine r_aloadn h (q := 0) 1 rfl (by decide +kernel : decode cX12_mark 95 = .ok (.aload_n 0, 1)) ?_
    refine r_iconst h (v := 0) (by decide +kernel : decode cX12_mark 96 = .ok (.iconst 0, 1)) ?_
    refine r_putI h f_Mod_340 at1M rfl rfl (by decide +kernel : decode cX12_mark 97 = .ok (.putfield 340, 3)) ?_
    have H := H _ rfl
    revert H
    generalize (upr M4 1 (up1 (M4 1) 50 0)) = M5
    intro H
    refine r_goto h 119 (by decide) (by decide +kernel : decode cX12_mark 100 = .ok (.goto 19, 3)) ?_
    refine r_iconst h (v := 1) (by decide +kernel : decode cX12_mark 119 = .ok (.iconst 1, 1)) ?_
    exact r_zret h rfl (by decide) (by decide +kernel : decode cX12_mark 120 = .ok (.ireturn, 1)) rfl ⟨rfl, _, rfl, H⟩
set_option maxHeartbeats 4000000 in
set_option maxRecDepth 100000 in
theorem w_Mod_count_0 {P : Int → Mm → Prop} {K : Nat → Rr → Nat → List (Nat × AV) → List AV → Mm → Prop} (h : EK shM yX12_count cX12_count 2 (some .int) 2 NM NM (QI RRM P) K) (x1 : Int) (M : Mm)
    (H : ∀ M1 : Mm, M1 = (upr M 1 (up1 (M 1) 0 0)) → ∃ P2 : Int → Mm → Prop, S_Mod_within x1 0 14 M1 P2 ∧ ∀ (r1 : Int) (M2 : Mm), P2 r1 M2 → (rng r1) ∧ (r1 ≠ 0 → ((rng x1) ∧ (4 ≤ x1 → ((rng x1) ∧ (8 ≤ x1 → ((rng x1) ∧ (11 ≤ x1 → ((rng x1) ∧ (13 ≤ x1 → ((rng x1) ∧ (x1 ≠ 13 → (P (M2 1 1) M2)) ∧ (x1 = 13 → (P (M2 1 50) M2)))) ∧ (¬ (13 ≤ x1) → ((rng x1) ∧ (x1 ≠ 11 → (P (M2 30 0) M2)) ∧ (x1 = 11 → (P (M2 31 0) M2)))))) ∧ (¬ (11 ≤ x1) → ((rng x1) ∧ (x1 ≠ 8 → ((rng x1) ∧ (x1 ≠ 9 → (P (M2 26 0) M2)) ∧ (x1 = 9 → (∃ P3 : Int → Mm → Prop, S_Mod_together 26 M2 P3 ∧ ∀ (r2 : Int) (M3 : Mm), P3 r2 M3 → P r2 M3)))) ∧ (x1 = 8 → (∃ P4 : Int → Mm → Prop, S_Mod_together 19 M2 P4 ∧ ∀ (r3 : Int) (M4 : Mm), P4 r3 M4 → P r3 M4)))))) ∧ (¬ (8 ≤ x1) → ((rng x1) ∧ (x1 ≠ 4 → ((rng x1) ∧ (x1 ≠ 5 → ((rng x1) ∧ (x1 ≠ 6 → (P (M2 34 3) M2)) ∧ (x1 = 6 → (P (M2 34 2) M2)))) ∧ (x1 = 5 → (P (M2 34 4) M2)))) ∧ (x1 = 4 → (∃ P5 : Int → Mm → Prop, S_Mod_rainNow  M2 P5 ∧ ∀ (r4 : Int) (M5 : Mm), P5 r4 M5 → P r4 M5)))))) ∧ (¬ (4 ≤ x1) → ((rng x1) ∧ (x1 ≠ 0 → ((rng x1) ∧ (x1 ≠ 1 → ((rng x1) ∧ (x1 ≠ 2 → (P (M2 34 0) M2)) ∧ (x1 = 2 → (P (M2 3 2) M2)))) ∧ (x1 = 1 → (P (M2 34 1) M2)))) ∧ (x1 = 0 → (P (M2 3 0) M2)))))) ∧ (r1 = 0 → (P (-1) M2))) :
    K NM RRM 0 [(0, vr 1), (1, vi x1)] [] M := by
  refine r_aloadn h (q := 0) 0 rfl (by decide +kernel : decode cX12_count 0 = .ok (.aload_n 0, 1)) ?_
  refine r_iconst h (v := 0) (by decide +kernel : decode cX12_count 1 = .ok (.iconst 0, 1)) ?_
  refine r_putI h f_Mod_147 at1M rfl rfl (by decide +kernel : decode cX12_count 2 = .ok (.putfield 147, 3)) ?_
  have H := H _ rfl
  revert H
  generalize (upr M 1 (up1 (M 1) 0 0)) = M1
  intro H
  refine r_iloadn h (q := 1) 1 rfl (by decide +kernel : decode cX12_count 5 = .ok (.iload_n 1, 1)) ?_
  refine r_iconst h (v := 0) (by decide +kernel : decode cX12_count 6 = .ok (.iconst 0, 1)) ?_
  refine r_bipush h (v := 14) (by decide) (by decide +kernel : decode cX12_count 7 = .ok (.bipush 14, 2)) ?_
  obtain ⟨P2, hSP2, H⟩ := H
  refine r_callS h (as := [vi x1, vi 0, vi 14]) (S := []) m_Mod_275 hSP2 (by decide) (Nat.le_refl _) rfl rfl (Nat.le_of_ble_eq_true rfl) (by decide +kernel : decode cX12_count 9 = .ok (.invokestatic 275, 3)) ?_
  rintro _ _ M2 ⟨rfl, r1, rfl, hP⟩
  have H := H r1 M2 hP
  show K NM RRM _ _ [vi r1] _
  obtain ⟨g1, H⟩ := H
  obtain ⟨H1, H2⟩ := H
  refine r_if_ne h 17 g1 (by decide) (by decide +kernel : decode cX12_count 12 = .ok (.ifCond .ne 5, 3)) (fun hc => ?_) (fun hc => ?_)
  · have H := H1 hc
    refine r_iloadn h (q := 1) 1 rfl (by decide +kernel : decode cX12_count 17 = .ok (.iload_n 1, 1)) ?_
    refine r_iconst h (v := 4) (by decide +kernel : decode cX12_count 18 = .ok (.iconst 4, 1)) ?_
    obtain ⟨g1, H⟩ := H
    obtain ⟨H1, H2⟩ := H
    refine r_icmp_ge h 70 g1 (by decide) (by decide) (by decide +kernel : decode cX12_count 19 = .ok (.if_icmp .ge 51, 3)) (fun hc => ?_) (fun hc => ?_)
    · have H := H1 hc
      refine r_iloadn h (q := 1) 1 rfl (by decide +kernel : decode cX12_count 70 = .ok (.iload_n 1, 1)) ?_
      refine r_bipush h (v := 8) (by decide) (by decide +kernel : decode cX12_count 71 = .ok (.bipush 8, 2)) ?_
      obtain ⟨g1, H⟩ := H
      obtain ⟨H1, H2⟩ := H
      refine r_icmp_ge h 124 g1 (by decide) (by decide) (by decide +kernel : decode cX12_count 73 = .ok (.if_icmp .ge 51, 3)) (fun hc => ?_) (fun hc => ?_)
      · have H := H1 hc
        refine r_iloadn h (q := 1) 1 rfl (by decide +kernel : decode cX12_count 124 = .ok (.iload_n 1, 1)) ?_
        refine r_bipush h (v := 11) (by decide) (by decide +kernel : decode cX12_count 125 = .ok (.bipush 11, 2)) ?_
        obtain ⟨g1, H⟩ := H
        obtain ⟨H1, H2⟩ := H
        refine r_icmp_ge h 167 g1 (by decide) (by decide) (by decide +kernel : decode cX12_count 127 = .ok (.if_icmp .ge 40, 3)) (fun hc => ?_) (fun hc => ?_)
        · have H := H1 hc
          refine r_iloadn h (q := 1) 1 rfl (by decide +kernel : decode cX12_count 167 = .ok (.iload_n 1, 1)) ?_
          refine r_bipush h (v := 13) (by decide) (by decide +kernel : decode cX12_count 168 = .ok (.bipush 13, 2)) ?_
          obtain ⟨g1, H⟩ := H
          obtain ⟨H1, H2⟩ := H
          refine r_icmp_ge h 195 g1 (by decide) (by decide) (by decide +kernel : decode cX12_count 170 = .ok (.if_icmp .ge 25, 3)) (fun hc => ?_) (fun hc => ?_)
          · have H := H1 hc
            refine r_iloadn h (q := 1) 1 rfl (by decide +kernel : decode cX12_count 195 = .ok (.iload_n 1, 1)) ?_
            refine r_bipush h (v := 13) (by decide) (by decide +kernel : decode cX12_count 196 = .ok (.bipush 13, 2)) ?_
            obtain ⟨g1, H⟩ := H
            obtain ⟨H1, H2⟩ := H
            refine r_icmp_ne h 208 g1 (by decide) (by decide) (by decide +kernel : decode cX12_count 198 = .ok (.if_icmp .ne 10, 3)) (fun hc => ?_) (fun hc => ?_)
            · have H := H1 hc
              refine r_aloadn h (q := 0) 0 rfl (by decide +kernel : decode cX12_count 208 = .ok (.aload_n 0, 1)) ?_
              refine r_getI h f_Mod_153 at1M (by decide +kernel : decode cX12_count 209 = .ok (.getfield 153, 3)) ?_
              exact r_iret h rfl (by decide +kernel : decode cX12_count 212 = .ok (.ireturn, 1)) rfl ⟨rfl, _, rfl, H⟩
            · have H := H2 hc
              refine r_aloadn h (q := 0) 0 rfl (by decide +kernel : decode cX12_count 201 = .ok (.aload_n 0, 1)) ?_
              refine r_getI h f_Mod_340 at1M (by decide +kernel : decode cX12_count 202 = .ok (.getfield 340, 3)) ?_
              refine r_goto h 212 (by decide) (by decide +kernel : decode cX12_count 205 = .ok (.goto 7, 3)) ?_
              exact r_iret h rfl (by decide +kernel : decode cX12_count 212 = .ok (.ireturn, 1)) rfl ⟨rfl, _, rfl, H⟩
          · have H := H2 hc
            refine r_iloadn h (q := 1) 1 rfl (by decide +kernel : decode cX12_count 173 = .ok (.iload_n 1, 1)) ?_
            refine r_bipush h (v := 11) (by decide) (by decide +kernel : decode cX12_count 174 = .ok (.bipush 11, 2)) ?_
            obtain ⟨g1, H⟩ := H
            obtain ⟨H1, H2⟩ := H
            refine r_icmp_ne h 188 g1 (by decide) (by decide) (by decide +kernel : decode cX12_count 176 = .ok (.if_icmp .ne 12, 3)) (fun hc => ?_) (fun hc => ?_)
            · have H := H1 hc
              refine r_aloadn h (q := 0) 0 rfl (by decide +kernel : decode cX12_count 188 = .ok (.aload_n 0, 1)) ?_
              refine r_getR h (r := 30) f_Mod_96 at1M rfl (by decide) (by decide +kernel : decode cX12_count 189 = .ok (.getfield 96, 3)) ?_
              refine r_iconst h (v := 0) (by decide +kernel : decode cX12_count 192 = .ok (.iconst 0, 1)) ?_
              refine r_iald h 0 rfl atM_30 (by decide) (by decide) (by decide +kernel : decode cX12_count 193 = .ok (.iaload, 1)) ?_
              exact r_iret h rfl (by decide +kernel : decode cX12_count 194 = .ok (.ireturn, 1)) rfl ⟨rfl, _, rfl, H⟩
            · have H := H2 hc
              refine r_aloadn h (q := 0) 0 rfl (by decide +kernel : decode cX12_count 179 = .ok (.aload_n 0, 1)) ?_
              refine r_getR h (r := 31) f_Mod_99 at1M rfl (by decide) (by decide +kernel : decode cX12_count 180 = .ok (.getfield 99, 3)) ?_
              refine r_iconst h (v := 0) (by decide +kernel : decode cX12_count 183 = .ok (.iconst 0, 1)) ?_
              refine r_iald h 0 rfl atM_31 (by decide) (by decide) (by decide +kernel : decode cX12_count 184 = .ok (.iaload, 1)) ?_
              refine r_goto h 194 (by decide) (by decide +kernel : decode cX12_count 185 = .ok (.goto 9, 3)) ?_
              exact r_iret h rfl (by decide +kernel : decode cX12_count 194 = .ok (.ireturn, 1)) rfl ⟨rfl, _, rfl, H⟩
        · have H := H2 hc
          refine r_iloadn h (q := 1) 1 rfl (by decide +kernel : decode cX12_count 130 = .ok (.iload_n 1, 1)) ?_
          refine r_bipush h (v := 8) (by decide) (by decide +kernel : decode cX12_count 131 = .ok (.bipush 8, 2)) ?_
          obtain ⟨g1, H⟩ := H
          obtain ⟨H1, H2⟩ := H
          refine r_icmp_ne h 145 g1 (by decide) (by decide) (by decide +kernel : decode cX12_count 133 = .ok (.if_icmp .ne 12, 3)) (fun hc => ?_) (fun hc => ?_)
          · have H := H1 hc
            refine r_iloadn h (q := 1) 1 rfl (by decide +kernel : decode cX12_count 145 = .ok (.iload_n 1, 1)) ?_
            refine r_bipush h (v := 9) (by decide) (by decide +kernel : decode cX12_count 146 = .ok (.bipush 9, 2)) ?_
            obtain ⟨g1, H⟩ := H
            obtain ⟨H1, H2⟩ := H
            refine r_icmp_ne h 160 g1 (by decide) (by decide) (by decide +kernel : decode cX12_count 148 = .ok (.if_icmp .ne 12, 3)) (fun hc => ?_) (fun hc => ?_)
            · have H := H1 hc
              refine r_aloadn h (q := 0) 0 rfl (by decide +kernel : decode cX12_count 160 = .ok (.aload_n 0, 1)) ?_
              refine r_getR h (r := 26) f_Mod_84 at1M rfl (by decide) (by decide +kernel : decode cX12_count 161 = .ok (.getfield 84, 3)) ?_
              refine r_iconst h (v := 0) (by decide +kernel : decode cX12_count 164 = .ok (.iconst 0, 1)) ?_
              refine r_iald h 0 rfl atM_26 (by decide) (by decide) (by decide +kernel : decode cX12_count 165 = .ok (.iaload, 1)) ?_
              exact r_iret h rfl (by decide +kernel : decode cX12_count 166 = .ok (.ireturn, 1)) rfl ⟨rfl, _, rfl, H⟩
            · have H := H2 hc
              refine r_aloadn h (q := 0) 0 rfl (by decide +kernel : decode cX12_count 151 = .ok (.aload_n 0, 1)) ?_
              refine r_bipush h (v := 26) (by decide) (by decide +kernel : decode cX12_count 152 = .ok (.bipush 26, 2)) ?_
              obtain ⟨P3, hSP3, H⟩ := H
              refine r_callV h (as := [vi 26]) (S := []) (b := 1) m_Mod_435 hSP3 (by decide) (Nat.le_refl _) rfl at1M rfl (Nat.le_of_ble_eq_true rfl) (by decide +kernel : decode cX12_count 154 = .ok (.invokevirtual 435, 3)) ?_
              rintro _ _ M3 ⟨rfl, r2, rfl, hP⟩
              have H := H r2 M3 hP
              show K NM RRM _ _ [vi r2] _
              refine r_goto h 166 (by decide) (by decide +kernel : decode cX12_count 157 = .ok (.goto 9, 3)) ?_
              exact r_iret h rfl (by decide +kernel : decode cX12_count 166 = .ok (.ireturn, 1)) rfl ⟨rfl, _, rfl, H⟩
          · have H := H2 hc
            refine r_aloadn h (q := 0) 0 rfl (by decide +kernel : decode cX12_count 136 = .ok (.aload_n 0, 1)) ?_
            refine r_bipush h (v := 19) (by decide) (by decide +kernel : decode cX12_count 137 = .ok (.bipush 19, 2)) ?_
            obtain ⟨P4, hSP4, H⟩ := H
            refine r_callV h (as := [vi 19]) (S := []) (b := 1) m_Mod_435 hSP4 (by decide) (Nat.le_refl _) rfl at1M rfl (Nat.le_of_ble_eq_true rfl) (by decide +kernel : decode cX12_count 139 = .ok (.invokevirtual 435, 3)) ?_
            rintro _ _ M4 ⟨rfl, r3, rfl, hP⟩
            have H := H r3 M4 hP
            show K NM RRM _ _ [vi r3] _
            refine r_goto h 166 (by decide) (by decide +kernel : decode cX12_count 142 = .ok (.goto 24, 3)) ?_
            exact r_iret h rfl (by decide +kernel : decode cX12_count 166 = .ok (.ireturn, 1)) rfl ⟨rfl, _, rfl, H⟩
      · have H := H2 hc
        refine r_iloadn h (q := 1) 1 rfl (by decide +kernel : decode cX12_count 76 = .ok (.iload_n 1, 1)) ?_
        refine r_iconst h (v := 4) (by decide +kernel : decode cX12_count 77 = .ok (.iconst 4, 1)) ?_
        obtain ⟨g1, H⟩ := H
        obtain ⟨H1, H2⟩ := H
        refine r_icmp_ne h 88 g1 (by decide) (by decide) (by decide +kernel : decode cX12_count 78 = .ok (.if_icmp .ne 10, 3)) (fun hc => ?_) (fun hc => ?_)
        · have H := H1 hc
          refine r_iloadn h (q := 1) 1 rfl (by decide +kernel : decode cX12_count 88 = .ok (.iload_n 1, 1)) ?_
          refine r_iconst h (v := 5) (by decide +kernel : decode cX12_count 89 = .ok (.iconst 5, 1)) ?_
          obtain ⟨g1, H⟩ := H
          obtain ⟨H1, H2⟩ := H
          refine r_icmp_ne h 102 g1 (by decide) (by decide) (by decide +kernel : decode cX12_count 90 = .ok (.if_icmp .ne 12, 3)) (fun hc => ?_) (fun hc => ?_)
          · have H := H1 hc
            refine r_iloadn h (q := 1) 1 rfl (by decide +kernel : decode cX12_count 102 = .ok (.iload_n 1, 1)) ?_
            refine r_bipush h (v := 6) (by decide) (by decide +kernel : decode cX12_count 103 = .ok (.bipush 6, 2)) ?_
            obtain ⟨g1, H⟩ := H
            obtain ⟨H1, H2⟩ := H
            refine r_icmp_ne h 117 g1 (by decide) (by decide) (by decide +kernel : decode cX12_count 105 = .ok (.if_icmp .ne 12, 3)) (fun hc => ?_) (fun hc => ?_)
            · have H := H1 hc
              refine r_aloadn h (q := 0) 0 rfl (by decide +kernel : decode cX12_count 117 = .ok (.aload_n 0, 1)) ?_
              refine r_getR h (r := 34) f_Mod_108 at1M rfl (by decide) (by decide +kernel : decode cX12_count 118 = .ok (.getfield 108, 3)) ?_
              refine r_iconst h (v := 3) (by decide +kernel : decode cX12_count 121 = .ok (.iconst 3, 1)) ?_
              refine r_iald h 3 rfl atM_34 (by decide) (by decide) (by decide +kernel : decode cX12_count 122 = .ok (.iaload, 1)) ?_
              exact r_iret h rfl (by decide +kernel : decode cX12_count 123 = .ok (.ireturn, 1)) rfl ⟨rfl, _, rfl, H⟩
            · have H := H2 hc
              refine r_aloadn h (q := 0) 0 rfl (by decide +kernel : decode cX12_count 108 = .ok (.aload_n 0, 1)) ?_
              refine r_getR h (r := 34) f_Mod_108 at1M rfl (by decide) (by decide +kernel : decode cX12_count 109 = .ok (.getfield 108, 3)) ?_
              refine r_iconst h (v := 2) (by decide +kernel : decode cX12_count 112 = .ok (.iconst 2, 1)) ?_
              refine r_iald h 2 rfl atM_34 (by decide) (by decide) (by decide +kernel : decode cX12_count 113 = .ok (.iaload, 1)) ?_
              refine r_goto h 123 (by decide) (by decide +kernel : decode cX12_count 114 = .ok (.goto 9, 3)) ?_
              exact r_iret h rfl (by decide +kernel : decode cX12_count 123 = .ok (.ireturn, 1)) rfl ⟨rfl, _, rfl, H⟩
          · have H := H2 hc
            refine r_aloadn h (q := 0) 0 rfl (by decide +kernel : decode cX12_count 93 = .ok (.aload_n 0, 1)) ?_
            refine r_getR h (r := 34) f_Mod_108 at1M rfl (by decide) (by decide +kernel : decode cX12_count 94 = .ok (.getfield 108, 3)) ?_
            refine r_iconst h (v := 4) (by decide +kernel : decode cX12_count 97 = .ok (.iconst 4, 1)) ?_
            refine r_iald h 4 rfl atM_34 (by decide) (by decide) (by decide +kernel : decode cX12_count 98 = .ok (.iaload, 1)) ?_
            refine r_goto h 123 (by decide) (by decide +kernel : decode cX12_count 99 = .ok (.goto 24, 3)) ?_
            exact r_iret h rfl (by decide +kernel : decode cX12_count 123 = .ok (.ireturn, 1)) rfl ⟨rfl, _, rfl, H⟩
        · have H := H2 hc
          refine r_aloadn h (q := 0) 0 rfl (by decide +kernel : decode cX12_count 81 = .ok (.aload_n 0, 1)) ?_
          obtain ⟨P5, hSP5, H⟩ := H
          refine r_callV h (as := []) (S := []) (b := 1) m_Mod_384 hSP5 (by decide) (Nat.le_refl _) rfl at1M rfl (Nat.le_of_ble_eq_true rfl) (by decide +kernel : decode cX12_count 82 = .ok (.invokevirtual 384, 3)) ?_
          rintro _ _ M5 ⟨rfl, r4, rfl, hP⟩
          have H := H r4 M5 hP
          show K NM RRM _ _ [vi r4] _
          refine r_goto h 123 (by decide) (by decide +kernel : decode cX12_count 85 = .ok (.goto 38, 3)) ?_
          exact r_iret h rfl (by decide +kernel : decode cX12_count 123 = .ok (.ireturn, 1)) rfl ⟨rfl, _, rfl, H⟩
    · have H := H2 hc
      refine r_iloadn h (q := 1) 1 rfl (by decide +kernel : decode cX12_count 22 = .ok (.iload_n 1, 1)) ?_
      obtain ⟨g1, H⟩ := H
      obtain ⟨H1, H2⟩ := H
      refine r_if_ne h 35 g1 (by decide) (by decide +kernel : decode cX12_count 23 = .ok (.ifCond .ne 12, 3)) (fun hc => ?_) (fun hc => ?_)
      · have H := H1 hc
        refine r_iloadn h (q := 1) 1 rfl (by decide +kernel : decode cX12_count 35 = .ok (.iload_n 1, 1)) ?_
        refine r_iconst h (v := 1) (by decide +kernel : decode cX12_count 36 = .ok (.iconst 1, 1)) ?_
        obtain ⟨g1, H⟩ := H
        obtain ⟨H1, H2⟩ := H
        refine r_icmp_ne h 49 g1 (by decide) (by decide) (by decide +kernel : decode cX12_count 37 = .ok (.if_icmp .ne 12, 3)) (fun hc => ?_) (fun hc => ?_)
        · have H := H1 hc
          refine r_iloadn h (q := 1) 1 rfl (by decide +kernel : decode cX12_count 49 = .ok (.iload_n 1, 1)) ?_
          refine r_iconst h (v := 2) (by decide +kernel : decode cX12_count 50 = .ok (.iconst 2, 1)) ?_
          obtain ⟨g1, H⟩ := H
          obtain ⟨H1, H2⟩ := H
          refine r_icmp_ne h 63 g1 (by decide) (by decide) (by decide +kernel : decode cX12_count 51 = .ok (.if_icmp .ne 12, 3)) (fun hc => ?_) (fun hc => ?_)
          · have H := H1 hc
            refine r_aloadn h (q := 0) 0 rfl (by decide +kernel : decode cX12_count 63 = .ok (.aload_n 0, 1)) ?_
            refine r_getR h (r := 34) f_Mod_108 at1M rfl (by decide) (by decide +kernel : decode cX12_count 64 = .ok (.getfield 108, 3)) ?_
            refine r_iconst h (v := 0) (by decide +kernel : decode cX12_count 67 = .ok (.iconst 0, 1)) ?_
            refine r_iald h 0 rfl atM_34 (by decide) (by decide) (by decide +kernel : decode cX12_count 68 = .ok (.iaload, 1)) ?_
            exact r_iret h rfl (by decide +kernel : decode cX12_count 69 = .ok (.ireturn, 1)) rfl ⟨rfl, _, rfl, H⟩
          · have H := H2 hc
            refine r_aloadn h (q := 0) 0 rfl (by decide +kernel : decode cX12_count 54 = .ok (.aload_n 0, 1)) ?_
            refine r_getR h (r := 3) f_Mod_13 at1M rfl (by decide) (by decide +kernel : decode cX12_count 55 = .ok (.getfield 13, 3)) ?_
            refine r_iconst h (v := 2) (by decide +kernel : decode cX12_count 58 = .ok (.iconst 2, 1)) ?_
            refine r_iald h 2 rfl atM_3 (by decide) (by decide) (by decide +kernel : decode cX12_count 59 = .ok (.iaload, 1)) ?_
            refine r_goto h 69 (by decide) (by decide +kernel : decode cX12_count 60 = .ok (.goto 9, 3)) ?_
            exact r_iret h rfl (by decide +kernel : decode cX12_count 69 = .ok (.ireturn, 1)) rfl ⟨rfl, _, rfl, H⟩
        · have H := H2 hc
          refine r_aloadn h (q := 0) 0 rfl (by decide +kernel : decode cX12_count 40 = .ok (.aload_n 0, 1)) ?_
          refine r_getR h (r := 34) f_Mod_108 at1M rfl (by decide) (by decide +kernel : decode cX12_count 41 = .ok (.getfield 108, 3)) ?_
          refine r_iconst h (v := 1) (by decide +kernel : decode cX12_count 44 = .ok (.iconst 1, 1)) ?_
          refine r_iald h 1 rfl atM_34 (by decide) (by decide) (by decide +kernel : decode cX12_count 45 = .ok (.iaload, 1)) ?_
          refine r_goto h 69 (by decide) (by decide +kernel : decode cX12_count 46 = .ok (.goto 23, 3)) ?_
          exact r_iret h rfl (by decide +kernel : decode cX12_count 69 = .ok (.ireturn, 1)) rfl ⟨rfl, _, rfl, H⟩
      · have H := H2 hc
        refine r_aloadn h (q := 0) 0 rfl (by decide +kernel : decode cX12_count 26 = .ok (.aload_n 0, 1)) ?_
        refine r_getR h (r := 3) f_Mod_13 at1M rfl (by decide) (by decide +kernel : decode cX12_count 27 = .ok (.getfield 13, 3)) ?_
        refine r_iconst h (v := 0) (by decide +kernel : decode cX12_count 30 = .ok (.iconst 0, 1)) ?_
        refine r_iald h 0 rfl atM_3 (by decide) (by decide) (by decide +kernel : decode cX12_count 31 = .ok (.iaload, 1)) ?_
        refine r_goto h 69 (by decide) (by decide +kernel : decode cX12_count 32 = .ok (.goto 37, 3)) ?_
        exact r_iret h rfl (by decide +kernel : decode cX12_count 69 = .ok (.ireturn, 1)) rfl ⟨rfl, _, rfl, H⟩
  · have H := H2 hc
    refine r_iconst h (v := (-1)) (by decide +kernel : decode cX12_count 15 = .ok (.iconst (-1), 1)) ?_
    exact r_iret h rfl (by decide +kernel : decode cX12_count 16 = .ok (.ireturn, 1)) rfl ⟨rfl, _, rfl, H⟩
theorem W_Mod_count (x1 : Int) (M : Mm) {P : Int → Mm → Prop} (H : ∀ M1 : Mm, M1 = (upr M 1 (up1 (M 1) 0 0)) → ∃ P2 : Int → Mm → Prop, S_Mod_within x1 0 14 M1 P2 ∧ ∀ (r1 : Int) (M2 : Mm), P2 r1 M2 → (rng r1) ∧ (r1 ≠ 0 → ((rng x1) ∧ (4 ≤ x1 → ((rng x1) ∧ (8 ≤ x1 → ((rng x1) ∧ (11 ≤ x1 → ((rng x1) ∧ (13 ≤ x1 → ((rng x1) ∧ (x1 ≠ 13 → (P (M2 1 1) M2)) ∧ (x1 = 13 → (P (M2 1 50) M2)))) ∧ (¬ (13 ≤ x1) → ((rng x1) ∧ (x1 ≠ 11 → (P (M2 30 0) M2)) ∧ (x1 = 11 → (P (M2 31 0) M2)))))) ∧ (¬ (11 ≤ x1) → ((rng x1) ∧ (x1 ≠ 8 → ((rng x1) ∧ (x1 ≠ 9 → (P (M2 26 0) M2)) ∧ (x1 = 9 → (∃ P3 : Int → Mm → Prop, S_Mod_together 26 M2 P3 ∧ ∀ (r2 : Int) (M3 : Mm), P3 r2 M3 → P r2 M3)))) ∧ (x1 = 8 → (∃ P4 : Int → Mm → Prop, S_Mod_together 19 M2 P4 ∧ ∀ (r3 : Int) (M4 : Mm), P4 r3 M4 → P r3 M4)))))) ∧ (¬ (8 ≤ x1) → ((rng x1) ∧ (x1 ≠ 4 → ((rng x1) ∧ (x1 ≠ 5 → ((rng x1) ∧ (x1 ≠ 6 → (P (M2 34 3) M2)) ∧ (x1 = 6 → (P (M2 34 2) M2)))) ∧ (x1 = 5 → (P (M2 34 4) M2)))) ∧ (x1 = 4 → (∃ P5 : Int → Mm → Prop, S_Mod_rainNow  M2 P5 ∧ ∀ (r4 : Int) (M5 : Mm), P5 r4 M5 → P r4 M5)))))) ∧ (¬ (4 ≤ x1) → ((rng x1) ∧ (x1 ≠ 0 → ((rng x1) ∧ (x1 ≠ 1 → ((rng x1) ∧ (x1 ≠ 2 → (P (M2 34 0) M2)) ∧ (x1 = 2 → (P (M2 3 2) M2)))) ∧ (x1 = 1 → (P (M2 34 1) M2)))) ∧ (x1 = 0 → (P (M2 3 0) M2)))))) ∧ (r1 = 0 → (P (-1) M2))) : S_Mod_count x1 M P := e_Mod_count x1 M (fun _ h => w_Mod_count_0 h x1 M H)
set_option maxHeartbeats 4000000 in
set_option maxRecDepth 100000 in
theorem w_Mod_reads_0 {P : Int → Mm → Prop} {K : Nat → Rr → Nat → List (Nat × AV) → List AV → Mm → Prop} (h : EK shM yX12_reads cX12_reads 6 (some .boolean) 3 NM NM (QI RRM P) K)  (M : Mm)
    (H : ∀ M1 : Mm, M1 = (upr M 15 (up1 (M 15) 0 0)) → K NM RRM 11 [(0, vr 1), (1, vi 0), (2, vi 1)] [] M1) :
    K NM RRM 0 [(0, vr 1)] [] M := by
  refine r_iconst h (v := 0) (by decide +kernel : decode cX12_reads 0 = .ok (.iconst 0, 1)) ?_
  refine r_istoren h (q := 1) (L' := [(1, vi 0), (0, vr 1)]) (by decide) rfl (by decide +kernel : decode cX12_reads 1 = .ok (.istore_n 1, 1)) ?_
  refine r_iconst h (v := 1) (by decide +kernel : decode cX12_reads 2 = .ok (.iconst 1, 1)) ?_
  refine r_istoren h (q := 2) (L' := [(2, vi 1), (1, vi 0), (0, vr 1)]) (by decide) rfl (by decide +kernel : decode cX12_reads 3 = .ok (.istore_n 2, 1)) ?_
  refine r_aloadn h (q := 0) 2 rfl (by decide +kernel : decode cX12_reads 4 = .ok (.aload_n 0, 1)) ?_
  refine r_getR h (r := 15) f_Mod_50 at1M rfl (by decide) (by decide +kernel : decode cX12_reads 5 = .ok (.getfield 50, 3)) ?_
  refine r_iconst h (v := 0) (by decide +kernel : decode cX12_reads 8 = .ok (.iconst 0, 1)) ?_
  refine r_iconst h (v := 0) (by decide +kernel : decode cX12_reads 9 = .ok (.iconst 0, 1)) ?_
  refine r_zast h 0 rfl atM_15 (by decide) (by decide) (by decide) (by decide +kernel : decode cX12_reads 10 = .ok (.bastore, 1)) ?_
  have H := H _ rfl
  revert H
  generalize (upr M 15 (up1 (M 15) 0 0)) = M1
  intro H
  refine r_drop h [2, 1, 0] rfl ?_
  exact H
set_option maxHeartbeats 4000000 in
set_option maxRecDepth 100000 in
theorem w_Mod_reads_11 {P : Int → Mm → Prop} {K : Nat → Rr → Nat → List (Nat × AV) → List AV → Mm → Prop} (h : EK shM yX12_reads cX12_reads 6 (some .boolean) 3 NM NM (QI RRM P) K) (x1 : Int) (x2 : Int) (M : Mm)
    (H : (rng x2) ∧ (x2 = 0 → (∃ P1 : Int → Mm → Prop, S_Mod_isSign 43 M P1 ∧ ∀ (r1 : Int) (M1 : Mm), P1 r1 M1 → (rng r1) ∧ (r1 ≠ 0 → (K NM RRM 206 [(0, vr 1), (1, vi x1)] [] M1)) ∧ (r1 = 0 → (∃ P2 : Int → Mm → Prop, S_Mod_isSign 45 M1 P2 ∧ ∀ (r2 : Int) (M2 : Mm), P2 r2 M2 → (rng r2) ∧ (r2 ≠ 0 → (K NM RRM 206 [(0, vr 1), (1, vi x1)] [] M2)) ∧ (r2 = 0 → (∃ P3 : Int → Mm → Prop, S_Mod_isSign 42 M2 P3 ∧ ∀ (r3 : Int) (M3 : Mm), P3 r3 M3 → (rng r3) ∧ (r3 = 0 → (∃ P4 : Int → Mm → Prop, S_Mod_isSign 60 M3 P4 ∧ ∀ (r4 : Int) (M4 : Mm), P4 r4 M4 → (rng r4) ∧ (r4 ≠ 0 → (K NM RRM 263 [(0, vr 1), (1, vi x1), (2, vi x2)] [] M4)) ∧ (r4 = 0 → (∃ P5 : Int → Mm → Prop, S_Mod_isSign 61 M4 P5 ∧ ∀ (r5 : Int) (M5 : Mm), P5 r5 M5 → (rng r5) ∧ (r5 = 0 → (K NM RRM 304 [(0, vr 1), (1, vi x1), (2, vi x2)] [] M5)) ∧ (r5 ≠ 0 → (K NM RRM 263 [(0, vr 1), (1, vi x1), (2, vi x2)] [] M5)))))) ∧ (r3 ≠ 0 → (K NM RRM 206 [(0, vr 1), (1, vi x1)] [] M3)))))))) ∧ (x2 ≠ 0 → (∃ P6 : Int → Mm → Prop, S_Mod_fact  M P6 ∧ ∀ (r6 : Int) (M6 : Mm), P6 r6 M6 → ∃ P7 : Int → Mm → Prop, S_Mod_isWord 10631 M6 P7 ∧ ∀ (r7 : Int) (M7 : Mm), P7 r7 M7 → ∃ P8 : Int → Mm → Prop, S_Mod_isSign 40 M7 P8 ∧ ∀ (r8 : Int) (M8 : Mm), P8 r8 M8 → (rng r6) ∧ (r6 ≠ 0 → (K NM RRM 65 [(0, vr 1), (1, vi x1), (2, vi x2), (3, vi r6), (4, vi r7), (5, vi r8)] [] M8)) ∧ (r6 = 0 → ((rng r7) ∧ (r7 ≠ 0 → (K NM RRM 65 [(0, vr 1), (1, vi x1), (2, vi x2), (3, vi r6), (4, vi r7), (5, vi r8)] [] M8)) ∧ (r7 = 0 → ((rng r8) ∧ (r8 ≠ 0 → (K NM RRM 65 [(0, vr 1), (1, vi x1), (2, vi x2), (3, vi r6), (4, vi r7), (5, vi r8)] [] M8)) ∧ (r8 = 0 → ((rng (M8 1 6)) ∧ ((M8 1 6) = 2 → (K NM RRM 65 [(0, vr 1), (1, vi x1), (2, vi x2), (3, vi r6), (4, vi r7), (5, vi r8)] [] M8)) ∧ ((M8 1 6) ≠ 2 → (∃ P9 : Int → Mm → Prop, S_Mod_fails 1 M8 P9 ∧ ∀ (r9 : Int) (M9 : Mm), P9 r9 M9 → (r9 = 0 ∨ r9 = 1) ∧ P r9 M9))))))))))) :
    K NM RRM 11 [(0, vr 1), (1, vi x1), (2, vi x2)] [] M := by
  refine r_iloadn h (q := 2) 2 rfl (by decide +kernel : decode cX12_reads 11 = .ok (.iload_n 2, 1)) ?_
  obtain ⟨g1, H⟩ := H
  obtain ⟨H1, H2⟩ := H
  refine r_if_eq h 179 g1 (by decide) (by decide +kernel : decode cX12_reads 12 = .ok (.ifCond .eq 167, 3)) (fun hc => ?_) (fun hc => ?_)
  · have H := H1 hc
    refine r_aloadn h (q := 0) 0 rfl (by decide +kernel : decode cX12_reads 179 = .ok (.aload_n 0, 1)) ?_
    refine r_bipush h (v := 43) (by decide) (by decide +kernel : decode cX12_reads 180 = .ok (.bipush 43, 2)) ?_
    obtain ⟨P1, hSP1, H⟩ := H
    refine r_callV h (as := [vi 43]) (S := []) (b := 1) m_Mod_212 hSP1 (by decide) (Nat.le_refl _) rfl at1M rfl (Nat.le_of_ble_eq_true rfl) (by decide +kernel : decode cX12_reads 182 = .ok (.invokevirtual 212, 3)) ?_
    rintro _ _ M1 ⟨rfl, r1, rfl, hP⟩
    have H := H r1 M1 hP
    show K NM RRM _ _ [vi r1] _
    obtain ⟨g1, H⟩ := H
    obtain ⟨H1, H2⟩ := H
    refine r_if_ne h 206 g1 (by decide) (by decide +kernel : decode cX12_reads 185 = .ok (.ifCond .ne 21, 3)) (fun hc => ?_) (fun hc => ?_)
    · have H := H1 hc
      refine r_drop h [0, 1] rfl ?_
      exact H
    · have H := H2 hc
      refine r_aloadn h (q := 0) 0 rfl (by decide +kernel : decode cX12_reads 188 = .ok (.aload_n 0, 1)) ?_
      refine r_bipush h (v := 45) (by decide) (by decide +kernel : decode cX12_reads 189 = .ok (.bipush 45, 2)) ?_
      obtain ⟨P2, hSP2, H⟩ := H
      refine r_callV h (as := [vi 45]) (S := []) (b := 1) m_Mod_212 hSP2 (by decide) (Nat.le_refl _) rfl at1M rfl (Nat.le_of_ble_eq_true rfl) (by decide +kernel : decode cX12_reads 191 = .ok (.invokevirtual 212, 3)) ?_
      rintro _ _ M2 ⟨rfl, r2, rfl, hP⟩
      have H := H r2 M2 hP
      show K NM RRM _ _ [vi r2] _
      obtain ⟨g1, H⟩ := H
      obtain ⟨H1, H2⟩ := H
      refine r_if_ne h 206 g1 (by decide) (by decide +kernel : decode cX12_reads 194 = .ok (.ifCond .ne 12, 3)) (fun hc => ?_) (fun hc => ?_)
      · have H := H1 hc
        refine r_drop h [0, 1] rfl ?_
        exact H
      · have H := H2 hc
        refine r_aloadn h (q := 0) 0 rfl (by decide +kernel : decode cX12_reads 197 = .ok (.aload_n 0, 1)) ?_
        refine r_bipush h (v := 42) (by decide) (by decide +kernel : decode cX12_reads 198 = .ok (.bipush 42, 2)) ?_
        obtain ⟨P3, hSP3, H⟩ := H
        refine r_callV h (as := [vi 42]) (S := []) (b := 1) m_Mod_212 hSP3 (by decide) (Nat.le_refl _) rfl at1M rfl (Nat.le_of_ble_eq_true rfl) (by decide +kernel : decode cX12_reads 200 = .ok (.invokevirtual 212, 3)) ?_
        rintro _ _ M3 ⟨rfl, r3, rfl, hP⟩
        have H := H r3 M3 hP
        show K NM RRM _ _ [vi r3] _
        obtain ⟨g1, H⟩ := H
        obtain ⟨H1, H2⟩ := H
        refine r_if_eq h 245 g1 (by decide) (by decide +kernel : decode cX12_reads 203 = .ok (.ifCond .eq 42, 3)) (fun hc => ?_) (fun hc => ?_)
        · have H := H1 hc
          refine r_aloadn h (q := 0) 0 rfl (by decide +kernel : decode cX12_reads 245 = .ok (.aload_n 0, 1)) ?_
          refine r_bipush h (v := 60) (by decide) (by decide +kernel : decode cX12_reads 246 = .ok (.bipush 60, 2)) ?_
          obtain ⟨P4, hSP4, H⟩ := H
          refine r_callV h (as := [vi 60]) (S := []) (b := 1) m_Mod_212 hSP4 (by decide) (Nat.le_refl _) rfl at1M rfl (Nat.le_of_ble_eq_true rfl) (by decide +kernel : decode cX12_reads 248 = .ok (.invokevirtual 212, 3)) ?_
          rintro _ _ M4 ⟨rfl, r4, rfl, hP⟩
          have H := H r4 M4 hP
          show K NM RRM _ _ [vi r4] _
          obtain ⟨g1, H⟩ := H
          obtain ⟨H1, H2⟩ := H
          refine r_if_ne h 263 g1 (by decide) (by decide +kernel : decode cX12_reads 251 = .ok (.ifCond .ne 12, 3)) (fun hc => ?_) (fun hc => ?_)
          · have H := H1 hc
            exact H
          · have H := H2 hc
            refine r_aloadn h (q := 0) 0 rfl (by decide +kernel : decode cX12_reads 254 = .ok (.aload_n 0, 1)) ?_
            refine r_bipush h (v := 61) (by decide) (by decide +kernel : decode cX12_reads 255 = .ok (.bipush 61, 2)) ?_
            obtain ⟨P5, hSP5, H⟩ := H
            refine r_callV h (as := [vi 61]) (S := []) (b := 1) m_Mod_212 hSP5 (by decide) (Nat.le_refl _) rfl at1M rfl (Nat.le_of_ble_eq_true rfl) (by decide +kernel : decode cX12_reads 257 = .ok (.invokevirtual 212, 3)) ?_
            rintro _ _ M5 ⟨rfl, r5, rfl, hP⟩
            have H := H r5 M5 hP
            show K NM RRM _ _ [vi r5] _
            obtain ⟨g1, H⟩ := H
            obtain ⟨H1, H2⟩ := H
            refine r_if_eq h 304 g1 (by decide) (by decide +kernel : decode cX12_reads 260 = .ok (.ifCond .eq 44, 3)) (fun hc => ?_) (fun hc => ?_)
            · have H := H1 hc
              exact H
            · have H := H2 hc
              exact H
        · have H := H2 hc
          refine r_drop h [0, 1] rfl ?_
          exact H
  · have H := H2 hc
    refine r_aloadn h (q := 0) 0 rfl (by decide +kernel : decode cX12_reads 15 = .ok (.aload_n 0, 1)) ?_
    obtain ⟨P6, hSP6, H⟩ := H
    refine r_callV h (as := []) (S := []) (b := 1) m_Mod_202 hSP6 (by decide) (Nat.le_refl _) rfl at1M rfl (Nat.le_of_ble_eq_true rfl) (by decide +kernel : decode cX12_reads 16 = .ok (.invokevirtual 202, 3)) ?_
    rintro _ _ M6 ⟨rfl, r6, rfl, hP⟩
    have H := H r6 M6 hP
    show K NM RRM _ _ [vi r6] _
    refine r_istoren h (q := 3) (L' := [(3, vi r6), (0, vr 1), (1, vi x1), (2, vi x2)]) (by decide) rfl (by decide +kernel : decode cX12_reads 19 = .ok (.istore_n 3, 1)) ?_
    refine r_aloadn h (q := 0) 1 rfl (by decide +kernel : decode cX12_reads 20 = .ok (.aload_n 0, 1)) ?_
    refine r_ldc2 h (v := 10631) kc_Mod_206 (by decide +kernel : decode cX12_reads 21 = .ok (.ldc2_w 206, 3)) ?_
    obtain ⟨P7, hSP7, H⟩ := H
    refine r_callV h (as := [vl 10631]) (S := []) (b := 1) m_Mod_208 hSP7 (by decide) (Nat.le_refl _) rfl at1M rfl (Nat.le_of_ble_eq_true rfl) (by decide +kernel : decode cX12_reads 24 = .ok (.invokevirtual 208, 3)) ?_
    rintro _ _ M7 ⟨rfl, r7, rfl, hP⟩
    have H := H r7 M7 hP
    show K NM RRM _ _ [vi r7] _
    refine r_istore h (L' := [(4, vi r7), (3, vi r6), (0, vr 1), (1, vi x1), (2, vi x2)]) (by decide) rfl (by decide +kernel : decode cX12_reads 27 = .ok (.istore 4, 2)) ?_
    refine r_aloadn h (q := 0) 2 rfl (by decide +kernel : decode cX12_reads 29 = .ok (.aload_n 0, 1)) ?_
    refine r_bipush h (v := 40) (by decide) (by decide +kernel : decode cX12_reads 30 = .ok (.bipush 40, 2)) ?_
    obtain ⟨P8, hSP8, H⟩ := H
    refine r_callV h (as := [vi 40]) (S := []) (b := 1) m_Mod_212 hSP8 (by decide) (Nat.le_refl _) rfl at1M rfl (Nat.le_of_ble_eq_true rfl) (by decide +kernel : decode cX12_reads 32 = .ok (.invokevirtual 212, 3)) ?_
    rintro _ _ M8 ⟨rfl, r8, rfl, hP⟩
    have H := H r8 M8 hP
    show K NM RRM _ _ [vi r8] _
    refine r_istore h (L' := [(5, vi r8), (4, vi r7), (3, vi r6), (0, vr 1), (1, vi x1), (2, vi x2)]) (by decide) rfl (by decide +kernel : decode cX12_reads 35 = .ok (.istore 5, 2)) ?_
    refine r_iloadn h (q := 3) 2 rfl (by decide +kernel : decode cX12_reads 37 = .ok (.iload_n 3, 1)) ?_
    obtain ⟨g1, H⟩ := H
    obtain ⟨H1, H2⟩ := H
    refine r_if_ne h 65 g1 (by decide) (by decide +kernel : decode cX12_reads 38 = .ok (.ifCond .ne 27, 3)) (fun hc => ?_) (fun hc => ?_)
    · have H := H1 hc
      refine r_drop h [3, 4, 5, 2, 1, 0] rfl ?_
      exact H
    · have H := H2 hc
      refine r_iload h 1 rfl (by decide +kernel : decode cX12_reads 41 = .ok (.iload 4, 2)) ?_
      obtain ⟨g1, H⟩ := H
      obtain ⟨H1, H2⟩ := H
      refine r_if_ne h 65 g1 (by decide) (by decide +kernel : decode cX12_reads 43 = .ok (.ifCond .ne 22, 3)) (fun hc => ?_) (fun hc => ?_)
      · have H := H1 hc
        refine r_drop h [3, 4, 5, 2, 1, 0] rfl ?_
        exact H
      · have H := H2 hc
        refine r_iload h 0 rfl (by decide +kernel : decode cX12_reads 46 = .ok (.iload 5, 2)) ?_
        obtain ⟨g1, H⟩ := H
        obtain ⟨H1, H2⟩ := H
        refine r_if_ne h 65 g1 (by decide) (by decide +kernel : decode cX12_reads 48 = .ok (.ifCond .ne 17, 3)) (fun hc => ?_) (fun hc => ?_)
        · have H := H1 hc
          refine r_drop h [3, 4, 5, 2, 1, 0] rfl ?_
          exact H
        · have H := H2 hc
          refine r_aloadn h (q := 0) 3 rfl (by decide +kernel : decode cX12_reads 51 = .ok (.aload_n 0, 1)) ?_
          refine r_getI h f_Mod_172 at1M (by decide +kernel : decode cX12_reads 52 = .ok (.getfield 172, 3)) ?_
          refine r_iconst h (v := 2) (by decide +kernel : decode cX12_reads 55 = .ok (.iconst 2, 1)) ?_
          obtain ⟨g1, H⟩ := H
          obtain ⟨H1, H2⟩ := H
          refine r_icmp_eq h 65 g1 (by decide) (by decide) (by decide +kernel : decode cX12_reads 56 = .ok (.if_icmp .eq 9, 3)) (fun hc => ?_) (fun hc => ?_)
          · have H := H1 hc
            refine r_drop h [3, 4, 5, 2, 1, 0] rfl ?_
            exact H
          · have H := H2 hc
            refine r_aloadn h (q := 0) 3 rfl (by decide +kernel : decode cX12_reads 59 = .ok (.aload_n 0, 1)) ?_
            refine r_iconst h (v := 1) (by decide +kernel : decode cX12_reads 60 = .ok (.iconst 1, 1)) ?_
            obtain ⟨P9, hSP9, H⟩ := H
            refine r_callV h (as := [vi 1]) (S := []) (b := 1) m_Mod_216 hSP9 (by decide) (Nat.le_refl _) rfl at1M rfl (Nat.le_of_ble_eq_true rfl) (by decide +kernel : decode cX12_reads 61 = .ok (.invokevirtual 216, 3)) ?_
            rintro _ _ M9 ⟨rfl, r9, rfl, hP⟩
            have H := H r9 M9 hP
            show K NM RRM _ _ [vi r9] _
            exact r_zret h rfl H.1 (by decide +kernel : decode cX12_reads 64 = .ok (.ireturn, 1)) rfl ⟨rfl, _, rfl, H.2⟩
set_option maxHeartbeats 4000000 in
set_option maxRecDepth 100000 in
theorem w_Mod_reads_206 {P : Int → Mm → Prop} {K : Nat → Rr → Nat → List (Nat × AV) → List AV → Mm → Prop} (h : EK shM yX12_reads cX12_reads 6 (some .boolean) 3 NM NM (QI RRM P) K) (x1 : Int) (M : Mm)
    (H : ∃ P1 : Int → Mm → Prop, S_Mod_isSign 43 M P1 ∧ ∀ (r1 : Int) (M1 : Mm), P1 r1 M1 → (rng r1) ∧ (r1 = 0 → (∃ P2 : Int → Mm → Prop, S_Mod_isSign 45 M1 P2 ∧ ∀ (r2 : Int) (M2 : Mm), P2 r2 M2 → (rng r2) ∧ (r2 = 0 → (∃ P3 : Mm → Prop, S_Mod_puts 22 M2 P3 ∧ ∀ M3 : Mm, P3 M3 → ∃ P4 : Mm → Prop, S_Mod_nextToken  M3 P4 ∧ ∀ M4 : Mm, P4 M4 → K NM RRM 11 [(0, vr 1), (1, vi x1), (2, vi 1)] [] M4)) ∧ (r2 ≠ 0 → (∃ P5 : Mm → Prop, S_Mod_puts 21 M2 P5 ∧ ∀ M5 : Mm, P5 M5 → ∃ P6 : Mm → Prop, S_Mod_nextToken  M5 P6 ∧ ∀ M6 : Mm, P6 M6 → K NM RRM 11 [(0, vr 1), (1, vi x1), (2, vi 1)] [] M6)))) ∧ (r1 ≠ 0 → (∃ P7 : Mm → Prop, S_Mod_puts 20 M1 P7 ∧ ∀ M7 : Mm, P7 M7 → ∃ P8 : Mm → Prop, S_Mod_nextToken  M7 P8 ∧ ∀ M8 : Mm, P8 M8 → K NM RRM 11 [(0, vr 1), (1, vi x1), (2, vi 1)] [] M8))) :
    K NM RRM 206 [(0, vr 1), (1, vi x1)] [] M := by
  refine r_aloadn h (q := 0) 0 rfl (by decide +kernel : decode cX12_reads 206 = .ok (.aload_n 0, 1)) ?_
  refine r_aloadn h (q := 0) 0 rfl (by decide +kernel : decode cX12_reads 207 = .ok (.aload_n 0, 1)) ?_
  refine r_bipush h (v := 43) (by decide) (by decide +kernel : decode cX12_reads 208 = .ok (.bipush 43, 2)) ?_
  obtain ⟨P1, hSP1, H⟩ := H
  refine r_callV h (as := [vi 43]) (S := [vr 1]) (b := 1) m_Mod_212 hSP1 (by decide) (Nat.le_refl _) rfl at1M rfl (Nat.le_of_ble_eq_true rfl) (by decide +kernel : decode cX12_reads 210 = .ok (.invokevirtual 212, 3)) ?_
  rintro _ _ M1 ⟨rfl, r1, rfl, hP⟩
  have H := H r1 M1 hP
  show K NM RRM _ _ [vi r1, vr 1] _
  obtain ⟨g1, H⟩ := H
  obtain ⟨H1, H2⟩ := H
  refine r_if_eq h 221 g1 (by decide) (by decide +kernel : decode cX12_reads 213 = .ok (.ifCond .eq 8, 3)) (fun hc => ?_) (fun hc => ?_)
  · have H := H1 hc
    refine r_aloadn h (q := 0) 0 rfl (by decide +kernel : decode cX12_reads 221 = .ok (.aload_n 0, 1)) ?_
    refine r_bipush h (v := 45) (by decide) (by decide +kernel : decode cX12_reads 222 = .ok (.bipush 45, 2)) ?_
    obtain ⟨P2, hSP2, H⟩ := H
    refine r_callV h (as := [vi 45]) (S := [vr 1]) (b := 1) m_Mod_212 hSP2 (by decide) (Nat.le_refl _) rfl at1M rfl (Nat.le_of_ble_eq_true rfl) (by decide +kernel : decode cX12_reads 224 = .ok (.invokevirtual 212, 3)) ?_
    rintro _ _ M2 ⟨rfl, r2, rfl, hP⟩
    have H := H r2 M2 hP
    show K NM RRM _ _ [vi r2, vr 1] _
    obtain ⟨g1, H⟩ := H
    obtain ⟨H1, H2⟩ := H
    refine r_if_eq h 235 g1 (by decide) (by decide +kernel : decode cX12_reads 227 = .ok (.ifCond .eq 8, 3)) (fun hc => ?_) (fun hc => ?_)
    · have H := H1 hc
      refine r_bipush h (v := 22) (by decide) (by decide +kernel : decode cX12_reads 235 = .ok (.bipush 22, 2)) ?_
      obtain ⟨P3, hSP3, H⟩ := H
      refine r_callV h (as := [vi 22]) (S := []) (b := 1) m_Mod_219 hSP3 (by decide) (Nat.le_refl _) rfl at1M rfl (Nat.le_of_ble_eq_true rfl) (by decide +kernel : decode cX12_reads 237 = .ok (.invokevirtual 219, 3)) ?_
      rintro _ _ M3 ⟨rfl, rfl, hP⟩
      have H := H M3 hP
      show K NM RRM _ _ [] _
      refine r_iconst h (v := 1) (by decide +kernel : decode cX12_reads 240 = .ok (.iconst 1, 1)) ?_
      refine r_istoren h (q := 2) (L' := [(2, vi 1), (0, vr 1), (1, vi x1)]) (by decide) rfl (by decide +kernel : decode cX12_reads 241 = .ok (.istore_n 2, 1)) ?_
      refine r_goto h 424 (by decide) (by decide +kernel : decode cX12_reads 242 = .ok (.goto 182, 3)) ?_
      refine r_aloadn h (q := 0) 1 rfl (by decide +kernel : decode cX12_reads 424 = .ok (.aload_n 0, 1)) ?_
      obtain ⟨P4, hSP4, H⟩ := H
      refine r_callV h (as := []) (S := []) (b := 1) m_Mod_223 hSP4 (by decide) (Nat.le_refl _) rfl at1M rfl (Nat.le_of_ble_eq_true rfl) (by decide +kernel : decode cX12_reads 425 = .ok (.invokevirtual 223, 3)) ?_
      rintro _ _ M4 ⟨rfl, rfl, hP⟩
      have H := H M4 hP
      show K NM RRM _ _ [] _
      refine r_goto h 11 (by decide) (by decide +kernel : decode cX12_reads 428 = .ok (.goto (-417), 3)) ?_
      refine r_drop h [1, 2, 0] rfl ?_
      exact H
    · have H := H2 hc
      refine r_bipush h (v := 21) (by decide) (by decide +kernel : decode cX12_reads 230 = .ok (.bipush 21, 2)) ?_
      refine r_goto h 237 (by decide) (by decide +kernel : decode cX12_reads 232 = .ok (.goto 5, 3)) ?_
      obtain ⟨P5, hSP5, H⟩ := H
      refine r_callV h (as := [vi 21]) (S := []) (b := 1) m_Mod_219 hSP5 (by decide) (Nat.le_refl _) rfl at1M rfl (Nat.le_of_ble_eq_true rfl) (by decide +kernel : decode cX12_reads 237 = .ok (.invokevirtual 219, 3)) ?_
      rintro _ _ M5 ⟨rfl, rfl, hP⟩
      have H := H M5 hP
      show K NM RRM _ _ [] _
      refine r_iconst h (v := 1) (by decide +kernel : decode cX12_reads 240 = .ok (.iconst 1, 1)) ?_
      refine r_istoren h (q := 2) (L' := [(2, vi 1), (0, vr 1), (1, vi x1)]) (by decide) rfl (by decide +kernel : decode cX12_reads 241 = .ok (.istore_n 2, 1)) ?_
      refine r_goto h 424 (by decide) (by decide +kernel : decode cX12_reads 242 = .ok (.goto 182, 3)) ?_
      refine r_aloadn h (q := 0) 1 rfl (by decide +kernel : decode cX12_reads 424 = .ok (.aload_n 0, 1)) ?_
      obtain ⟨P6, hSP6, H⟩ := H
      refine r_callV h (as := []) (S := []) (b := 1) m_Mod_223 hSP6 (by decide) (Nat.le_refl _) rfl at1M rfl (Nat.le_of_ble_eq_true rfl) (by decide +kernel : decode cX12_reads 425 = .ok (.invokevirtual 223, 3)) ?_
      rintro _ _ M6 ⟨rfl, rfl, hP⟩
      have H := H M6 hP
      show K NM RRM _ _ [] _
      refine r_goto h 11 (by decide) (by decide +kernel : decode cX12_reads 428 = .ok (.goto (-417), 3)) ?_
      refine r_drop h [1, 2, 0] rfl ?_
      exact H
  · have H := H2 hc
    refine r_bipush h (v := 20) (by decide) (by decide +kernel : decode cX12_reads 216 = .ok (.bipush 20, 2)) ?_
    refine r_goto h 237 (by decide) (by decide +kernel : decode cX12_reads 218 = .ok (.goto 19, 3)) ?_
    obtain ⟨P7, hSP7, H⟩ := H
    refine r_callV h (as := [vi 20]) (S := []) (b := 1) m_Mod_219 hSP7 (by decide) (Nat.le_refl _) rfl at1M rfl (Nat.le_of_ble_eq_true rfl) (by decide +kernel : decode cX12_reads 237 = .ok (.invokevirtual 219, 3)) ?_
    rintro _ _ M7 ⟨rfl, rfl, hP⟩
    have H := H M7 hP
    show K NM RRM _ _ [] _
    refine r_iconst h (v := 1) (by decide +kernel : decode cX12_reads 240 = .ok (.iconst 1, 1)) ?_
    refine r_istoren h (q := 2) (L' := [(2, vi 1), (0, vr 1), (1, vi x1)]) (by decide) rfl (by decide +kernel : decode cX12_reads 241 = .ok (.istore_n 2, 1)) ?_
    refine r_goto h 424 (by decide) (by decide +kernel : decode cX12_reads 242 = .ok (.goto 182, 3)) ?_
    refine r_aloadn h (q := 0) 1 rfl (by decide +kernel : decode cX12_reads 424 = .ok (.aload_n 0, 1)) ?_
    obtain ⟨P8, hSP8, H⟩ := H
    refine r_callV h (as := []) (S := []) (b := 1) m_Mod_223 hSP8 (by decide) (Nat.le_refl _) rfl at1M rfl (Nat.le_of_ble_eq_true rfl) (by decide +kernel : decode cX12_reads 425 = .ok (.invokevirtual 223, 3)) ?_
    rintro _ _ M8 ⟨rfl, rfl, hP⟩
    have H := H M8 hP
    show K NM RRM _ _ [] _
    refine r_goto h 11 (by decide) (by decide +kernel : decode cX12_reads 428 = .ok (.goto (-417), 3)) ?_
    refine r_drop h [1, 2, 0] rfl ?_
    exact H
set_option maxHeartbeats 4000000 in
set_option maxRecDepth 100000 in
theorem w_Mod_reads_263 {P : Int → Mm → Prop} {K : Nat → Rr → Nat → List (Nat × AV) → List AV → Mm → Prop} (h : EK shM yX12_reads cX12_reads 6 (some .boolean) 3 NM NM (QI RRM P) K) (x1 : Int) (x2 : Int) (M : Mm)
    (H : (0 ≤ x1 ∧ x1 < 7) ∧ (rng (M 15 x1.toNat)) ∧ ((M 15 x1.toNat) ≠ 0 → (K NM RRM 304 [(0, vr 1), (1, vi x1), (2, vi x2)] [] M)) ∧ ((M 15 x1.toNat) = 0 → (∃ P1 : Int → Mm → Prop, S_Mod_isSign 60 M P1 ∧ ∀ (r1 : Int) (M1 : Mm), P1 r1 M1 → (rng r1) ∧ (r1 = 0 → (K NM RRM 289 [(0, vr 1), (1, vi x1)] [vi 25, vr 1] M1)) ∧ (r1 ≠ 0 → (K NM RRM 289 [(0, vr 1), (1, vi x1)] [vi 24, vr 1] M1))))) :
    K NM RRM 263 [(0, vr 1), (1, vi x1), (2, vi x2)] [] M := by
  refine r_aloadn h (q := 0) 0 rfl (by decide +kernel : decode cX12_reads 263 = .ok (.aload_n 0, 1)) ?_
  refine r_getR h (r := 15) f_Mod_50 at1M rfl (by decide) (by decide +kernel : decode cX12_reads 264 = .ok (.getfield 50, 3)) ?_
  refine r_iloadn h (q := 1) 1 rfl (by decide +kernel : decode cX12_reads 267 = .ok (.iload_n 1, 1)) ?_
  obtain ⟨g1, H⟩ := H
  refine r_zald h x1.toNat rfl atM_15 g1 (by decide) (by decide +kernel : decode cX12_reads 268 = .ok (.baload, 1)) ?_
  obtain ⟨g1, H⟩ := H
  obtain ⟨H1, H2⟩ := H
  refine r_if_ne h 304 g1 (by decide) (by decide +kernel : decode cX12_reads 269 = .ok (.ifCond .ne 35, 3)) (fun hc => ?_) (fun hc => ?_)
  · have H := H1 hc
    exact H
  · have H := H2 hc
    refine r_aloadn h (q := 0) 0 rfl (by decide +kernel : decode cX12_reads 272 = .ok (.aload_n 0, 1)) ?_
    refine r_aloadn h (q := 0) 0 rfl (by decide +kernel : decode cX12_reads 273 = .ok (.aload_n 0, 1)) ?_
    refine r_bipush h (v := 60) (by decide) (by decide +kernel : decode cX12_reads 274 = .ok (.bipush 60, 2)) ?_
    obtain ⟨P1, hSP1, H⟩ := H
    refine r_callV h (as := [vi 60]) (S := [vr 1]) (b := 1) m_Mod_212 hSP1 (by decide) (Nat.le_refl _) rfl at1M rfl (Nat.le_of_ble_eq_true rfl) (by decide +kernel : decode cX12_reads 276 = .ok (.invokevirtual 212, 3)) ?_
    rintro _ _ M1 ⟨rfl, r1, rfl, hP⟩
    have H := H r1 M1 hP
    show K NM RRM _ _ [vi r1, vr 1] _
    obtain ⟨g1, H⟩ := H
    obtain ⟨H1, H2⟩ := H
    refine r_if_eq h 287 g1 (by decide) (by decide +kernel : decode cX12_reads 279 = .ok (.ifCond .eq 8, 3)) (fun hc => ?_) (fun hc => ?_)
    · have H := H1 hc
      refine r_bipush h (v := 25) (by decide) (by decide +kernel : decode cX12_reads 287 = .ok (.bipush 25, 2)) ?_
      refine r_drop h [0, 1] rfl ?_
      exact H
    · have H := H2 hc
      refine r_bipush h (v := 24) (by decide) (by decide +kernel : decode cX12_reads 282 = .ok (.bipush 24, 2)) ?_
      refine r_goto h 289 (by decide) (by decide +kernel : decode cX12_reads 284 = .ok (.goto 5, 3)) ?_
      refine r_drop h [0, 1] rfl ?_
      exact H
set_option maxHeartbeats 4000000 in
set_option maxRecDepth 100000 in
theorem w_Mod_reads_304 {P : Int → Mm → Prop} {K : Nat → Rr → Nat → List (Nat × AV) → List AV → Mm → Prop} (h : EK shM yX12_reads cX12_reads 6 (some .boolean) 3 NM NM (QI RRM P) K) (x1 : Int) (x2 : Int) (M : Mm)
    (H : ∃ P1 : Int → Mm → Prop, S_Mod_isWord 1111 M P1 ∧ ∀ (r1 : Int) (M1 : Mm), P1 r1 M1 → (rng r1) ∧ (r1 ≠ 0 → (∃ P2 : Int → Mm → Prop, S_Mod_isWord 1111 M1 P2 ∧ ∀ (r2 : Int) (M2 : Mm), P2 r2 M2 → (rng r2) ∧ (r2 = 0 → (K NM RRM 342 [(0, vr 1), (1, vi x1)] [vi 27, vr 1] M2)) ∧ (r2 ≠ 0 → (K NM RRM 342 [(0, vr 1), (1, vi x1)] [vi 26, vr 1] M2)))) ∧ (r1 = 0 → (∃ P3 : Int → Mm → Prop, S_Mod_isWord 423 M1 P3 ∧ ∀ (r3 : Int) (M3 : Mm), P3 r3 M3 → (rng r3) ∧ (r3 = 0 → (∃ P4 : Int → Mm → Prop, S_Mod_isSign 41 M3 P4 ∧ ∀ (r4 : Int) (M4 : Mm), P4 r4 M4 → (rng r4) ∧ (r4 = 0 → (K NM RRM 399 [(0, vr 1), (1, vi x1)] [] M4)) ∧ (r4 ≠ 0 → ((rng x1) ∧ (x1 ≤ 0 → (K NM RRM 399 [(0, vr 1), (1, vi x1)] [] M4)) ∧ (¬ (x1 ≤ 0) → (∃ P5 : Mm → Prop, S_Mod_puts 29 M4 P5 ∧ ∀ M5 : Mm, P5 M5 → K NM RRM 379 [(0, vr 1), (1, vi (x1 + (-1))), (2, vi x2)] [] M5)))))) ∧ (r3 ≠ 0 → (∃ P6 : Int → Mm → Prop, S_Mod_isWord 1111 M3 P6 ∧ ∀ (r6 : Int) (M6 : Mm), P6 r6 M6 → (rng r6) ∧ (r6 = 0 → (K NM RRM 342 [(0, vr 1), (1, vi x1)] [vi 27, vr 1] M6)) ∧ (r6 ≠ 0 → (K NM RRM 342 [(0, vr 1), (1, vi x1)] [vi 26, vr 1] M6))))))) :
    K NM RRM 304 [(0, vr 1), (1, vi x1), (2, vi x2)] [] M := by
  refine r_aloadn h (q := 0) 0 rfl (by decide +kernel : decode cX12_reads 304 = .ok (.aload_n 0, 1)) ?_
  refine r_ldc2 h (v := 1111) kc_Mod_226 (by decide +kernel : decode cX12_reads 305 = .ok (.ldc2_w 226, 3)) ?_
  obtain ⟨P1, hSP1, H⟩ := H
  refine r_callV h (as := [vl 1111]) (S := []) (b := 1) m_Mod_208 hSP1 (by decide) (Nat.le_refl _) rfl at1M rfl (Nat.le_of_ble_eq_true rfl) (by decide +kernel : decode cX12_reads 308 = .ok (.invokevirtual 208, 3)) ?_
  rintro _ _ M1 ⟨rfl, r1, rfl, hP⟩
  have H := H r1 M1 hP
  show K NM RRM _ _ [vi r1] _
  obtain ⟨g1, H⟩ := H
  obtain ⟨H1, H2⟩ := H
  refine r_if_ne h 324 g1 (by decide) (by decide +kernel : decode cX12_reads 311 = .ok (.ifCond .ne 13, 3)) (fun hc => ?_) (fun hc => ?_)
  · have H := H1 hc
    refine r_aloadn h (q := 0) 0 rfl (by decide +kernel : decode cX12_reads 324 = .ok (.aload_n 0, 1)) ?_
    refine r_aloadn h (q := 0) 0 rfl (by decide +kernel : decode cX12_reads 325 = .ok (.aload_n 0, 1)) ?_
    refine r_ldc2 h (v := 1111) kc_Mod_226 (by decide +kernel : decode cX12_reads 326 = .ok (.ldc2_w 226, 3)) ?_
    obtain ⟨P2, hSP2, H⟩ := H
    refine r_callV h (as := [vl 1111]) (S := [vr 1]) (b := 1) m_Mod_208 hSP2 (by decide) (Nat.le_refl _) rfl at1M rfl (Nat.le_of_ble_eq_true rfl) (by decide +kernel : decode cX12_reads 329 = .ok (.invokevirtual 208, 3)) ?_
    rintro _ _ M2 ⟨rfl, r2, rfl, hP⟩
    have H := H r2 M2 hP
    show K NM RRM _ _ [vi r2, vr 1] _
    obtain ⟨g1, H⟩ := H
    obtain ⟨H1, H2⟩ := H
    refine r_if_eq h 340 g1 (by decide) (by decide +kernel : decode cX12_reads 332 = .ok (.ifCond .eq 8, 3)) (fun hc => ?_) (fun hc => ?_)
    · have H := H1 hc
      refine r_bipush h (v := 27) (by decide) (by decide +kernel : decode cX12_reads 340 = .ok (.bipush 27, 2)) ?_
      refine r_drop h [0, 1] rfl ?_
      exact H
    · have H := H2 hc
      refine r_bipush h (v := 26) (by decide) (by decide +kernel : decode cX12_reads 335 = .ok (.bipush 26, 2)) ?_
      refine r_goto h 342 (by decide) (by decide +kernel : decode cX12_reads 337 = .ok (.goto 5, 3)) ?_
      refine r_drop h [0, 1] rfl ?_
      exact H
  · have H := H2 hc
    refine r_aloadn h (q := 0) 0 rfl (by decide +kernel : decode cX12_reads 314 = .ok (.aload_n 0, 1)) ?_
    refine r_ldc2 h (v := 423) kc_Mod_228 (by decide +kernel : decode cX12_reads 315 = .ok (.ldc2_w 228, 3)) ?_
    obtain ⟨P3, hSP3, H⟩ := H
    refine r_callV h (as := [vl 423]) (S := []) (b := 1) m_Mod_208 hSP3 (by decide) (Nat.le_refl _) rfl at1M rfl (Nat.le_of_ble_eq_true rfl) (by decide +kernel : decode cX12_reads 318 = .ok (.invokevirtual 208, 3)) ?_
    rintro _ _ M3 ⟨rfl, r3, rfl, hP⟩
    have H := H r3 M3 hP
    show K NM RRM _ _ [vi r3] _
    obtain ⟨g1, H⟩ := H
    obtain ⟨H1, H2⟩ := H
    refine r_if_eq h 357 g1 (by decide) (by decide +kernel : decode cX12_reads 321 = .ok (.ifCond .eq 36, 3)) (fun hc => ?_) (fun hc => ?_)
    · have H := H1 hc
      refine r_aloadn h (q := 0) 0 rfl (by decide +kernel : decode cX12_reads 357 = .ok (.aload_n 0, 1)) ?_
      refine r_bipush h (v := 41) (by decide) (by decide +kernel : decode cX12_reads 358 = .ok (.bipush 41, 2)) ?_
      obtain ⟨P4, hSP4, H⟩ := H
      refine r_callV h (as := [vi 41]) (S := []) (b := 1) m_Mod_212 hSP4 (by decide) (Nat.le_refl _) rfl at1M rfl (Nat.le_of_ble_eq_true rfl) (by decide +kernel : decode cX12_reads 360 = .ok (.invokevirtual 212, 3)) ?_
      rintro _ _ M4 ⟨rfl, r4, rfl, hP⟩
      have H := H r4 M4 hP
      show K NM RRM _ _ [vi r4] _
      obtain ⟨g1, H⟩ := H
      obtain ⟨H1, H2⟩ := H
      refine r_if_eq h 399 g1 (by decide) (by decide +kernel : decode cX12_reads 363 = .ok (.ifCond .eq 36, 3)) (fun hc => ?_) (fun hc => ?_)
      · have H := H1 hc
        refine r_drop h [0, 1] rfl ?_
        exact H
      · have H := H2 hc
        refine r_iloadn h (q := 1) 1 rfl (by decide +kernel : decode cX12_reads 366 = .ok (.iload_n 1, 1)) ?_
        obtain ⟨g1, H⟩ := H
        obtain ⟨H1, H2⟩ := H
        refine r_if_le h 399 g1 (by decide) (by decide +kernel : decode cX12_reads 367 = .ok (.ifCond .le 32, 3)) (fun hc => ?_) (fun hc => ?_)
        · have H := H1 hc
          refine r_drop h [0, 1] rfl ?_
          exact H
        · have H := H2 hc
          refine r_aloadn h (q := 0) 0 rfl (by decide +kernel : decode cX12_reads 370 = .ok (.aload_n 0, 1)) ?_
          refine r_bipush h (v := 29) (by decide) (by decide +kernel : decode cX12_reads 371 = .ok (.bipush 29, 2)) ?_
          obtain ⟨P5, hSP5, H⟩ := H
          refine r_callV h (as := [vi 29]) (S := []) (b := 1) m_Mod_219 hSP5 (by decide) (Nat.le_refl _) rfl at1M rfl (Nat.le_of_ble_eq_true rfl) (by decide +kernel : decode cX12_reads 373 = .ok (.invokevirtual 219, 3)) ?_
          rintro _ _ M5 ⟨rfl, rfl, hP⟩
          have H := H M5 hP
          show K NM RRM _ _ [] _
          refine r_iinc h (i := 1) (v := (-1)) (L' := [(1, vi (x1 + (-1))), (0, vr 1), (2, vi x2)]) 1 rfl (by decide) rfl (by decide +kernel : decode cX12_reads 376 = .ok (.iinc 1 (-1), 3)) ?_
          refine r_drop h [1, 0, 2] rfl ?_
          exact H
    · have H := H2 hc
      refine r_aloadn h (q := 0) 0 rfl (by decide +kernel : decode cX12_reads 324 = .ok (.aload_n 0, 1)) ?_
      refine r_aloadn h (q := 0) 0 rfl (by decide +kernel : decode cX12_reads 325 = .ok (.aload_n 0, 1)) ?_
      refine r_ldc2 h (v := 1111) kc_Mod_226 (by decide +kernel : decode cX12_reads 326 = .ok (.ldc2_w 226, 3)) ?_
      obtain ⟨P6, hSP6, H⟩ := H
      refine r_callV h (as := [vl 1111]) (S := [vr 1]) (b := 1) m_Mod_208 hSP6 (by decide) (Nat.le_refl _) rfl at1M rfl (Nat.le_of_ble_eq_true rfl) (by decide +kernel : decode cX12_reads 329 = .ok (.invokevirtual 208, 3)) ?_
      rintro _ _ M6 ⟨rfl, r6, rfl, hP⟩
      have H := H r6 M6 hP
      show K NM RRM _ _ [vi r6, vr 1] _
      obtain ⟨g1, H⟩ := H
      obtain ⟨H1, H2⟩ := H
      refine r_if_eq h 340 g1 (by decide) (by decide +kernel : decode cX12_reads 332 = .ok (.ifCond .eq 8, 3)) (fun hc => ?_) (fun hc => ?_)
      · have H := H1 hc
        refine r_bipush h (v := 27) (by decide) (by decide +kernel : decode cX12_reads 340 = .ok (.bipush 27, 2)) ?_
        refine r_drop h [0, 1] rfl ?_
        exact H
      · have H := H2 hc
        refine r_bipush h (v := 26) (by decide) (by decide +kernel : decode cX12_reads 335 = .ok (.bipush 26, 2)) ?_
        refine r_goto h 342 (by decide) (by decide +kernel : decode cX12_reads 337 = .ok (.goto 5, 3)) ?_
        refine r_drop h [0, 1] rfl ?_
        exact H
set_option maxHeartbeats 4000000 in
set_option maxRecDepth 100000 in
theorem w_Mod_reads_65 {P : Int → Mm → Prop} {K : Nat → Rr → Nat → List (Nat × AV) → List AV → Mm → Prop} (h : EK shM yX12_reads cX12_reads 6 (some .boolean) 3 NM NM (QI RRM P) K) (x1 : Int) (x2 : Int) (x3 : Int) (x4 : Int) (x5 : Int) (M : Mm)
    (H : (rng x1) ∧ (x1 ≠ 5 → ((rng x4) ∧ (x4 ≠ 0 → ((rng x4) ∧ (x4 = 0 → (K NM RRM 99 [(0, vr 1), (1, vi x1), (2, vi x2), (4, vi x4)] [vi 28, vr 1] M)) ∧ (x4 ≠ 0 → (K NM RRM 99 [(0, vr 1), (1, vi x1), (2, vi x2), (4, vi x4)] [vi 30, vr 1] M)))) ∧ (x4 = 0 → ((rng x5) ∧ (x5 = 0 → ((rng x3) ∧ (x3 ≤ 0 → (∃ P1 : Mm → Prop, S_Mod_puts (100 + (M 1 8)) M P1 ∧ ∀ M1 : Mm, P1 M1 → K NM RRM 152 [(0, vr 1), (1, vi x1), (2, vi 0)] [] M1)) ∧ (¬ (x3 ≤ 0) → (∃ P2 : Mm → Prop, S_Mod_puts x3 M P2 ∧ ∀ M2 : Mm, P2 M2 → K NM RRM 152 [(0, vr 1), (1, vi x1), (2, vi 0)] [] M2)))) ∧ (x5 ≠ 0 → ((rng x4) ∧ (x4 = 0 → (K NM RRM 99 [(0, vr 1), (1, vi x1), (2, vi x2), (4, vi x4)] [vi 28, vr 1] M)) ∧ (x4 ≠ 0 → (K NM RRM 99 [(0, vr 1), (1, vi x1), (2, vi x2), (4, vi x4)] [vi 30, vr 1] M)))))))) ∧ (x1 = 5 → (∃ P3 : Int → Mm → Prop, S_Mod_fails 5 M P3 ∧ ∀ (r3 : Int) (M3 : Mm), P3 r3 M3 → (r3 = 0 ∨ r3 = 1) ∧ P r3 M3))) :
    K NM RRM 65 [(0, vr 1), (1, vi x1), (2, vi x2), (3, vi x3), (4, vi x4), (5, vi x5)] [] M := by
  refine r_iloadn h (q := 1) 1 rfl (by decide +kernel : decode cX12_reads 65 = .ok (.iload_n 1, 1)) ?_
  refine r_iconst h (v := 5) (by decide +kernel : decode cX12_reads 66 = .ok (.iconst 5, 1)) ?_
  obtain ⟨g1, H⟩ := H
  obtain ⟨H1, H2⟩ := H
  refine r_icmp_ne h 76 g1 (by decide) (by decide) (by decide +kernel : decode cX12_reads 67 = .ok (.if_icmp .ne 9, 3)) (fun hc => ?_) (fun hc => ?_)
  · have H := H1 hc
    refine r_iload h 4 rfl (by decide +kernel : decode cX12_reads 76 = .ok (.iload 4, 2)) ?_
    obtain ⟨g1, H⟩ := H
    obtain ⟨H1, H2⟩ := H
    refine r_if_ne h 86 g1 (by decide) (by decide +kernel : decode cX12_reads 78 = .ok (.ifCond .ne 8, 3)) (fun hc => ?_) (fun hc => ?_)
    · have H := H1 hc
      refine r_aloadn h (q := 0) 0 rfl (by decide +kernel : decode cX12_reads 86 = .ok (.aload_n 0, 1)) ?_
      refine r_iload h 4 rfl (by decide +kernel : decode cX12_reads 87 = .ok (.iload 4, 2)) ?_
      obtain ⟨g1, H⟩ := H
      obtain ⟨H1, H2⟩ := H
      refine r_if_eq h 97 g1 (by decide) (by decide +kernel : decode cX12_reads 89 = .ok (.ifCond .eq 8, 3)) (fun hc => ?_) (fun hc => ?_)
      · have H := H1 hc
        refine r_bipush h (v := 28) (by decide) (by decide +kernel : decode cX12_reads 97 = .ok (.bipush 28, 2)) ?_
        refine r_drop h [0, 1, 2, 4] rfl ?_
        exact H
      · have H := H2 hc
        refine r_bipush h (v := 30) (by decide) (by decide +kernel : decode cX12_reads 92 = .ok (.bipush 30, 2)) ?_
        refine r_goto h 99 (by decide) (by decide +kernel : decode cX12_reads 94 = .ok (.goto 5, 3)) ?_
        refine r_drop h [0, 1, 2, 4] rfl ?_
        exact H
    · have H := H2 hc
      refine r_iload h 5 rfl (by decide +kernel : decode cX12_reads 81 = .ok (.iload 5, 2)) ?_
      obtain ⟨g1, H⟩ := H
      obtain ⟨H1, H2⟩ := H
      refine r_if_eq h 131 g1 (by decide) (by decide +kernel : decode cX12_reads 83 = .ok (.ifCond .eq 48, 3)) (fun hc => ?_) (fun hc => ?_)
      · have H := H1 hc
        refine r_aloadn h (q := 0) 0 rfl (by decide +kernel : decode cX12_reads 131 = .ok (.aload_n 0, 1)) ?_
        refine r_iloadn h (q := 3) 3 rfl (by decide +kernel : decode cX12_reads 132 = .ok (.iload_n 3, 1)) ?_
        obtain ⟨g1, H⟩ := H
        obtain ⟨H1, H2⟩ := H
        refine r_if_le h 140 g1 (by decide) (by decide +kernel : decode cX12_reads 133 = .ok (.ifCond .le 7, 3)) (fun hc => ?_) (fun hc => ?_)
        · have H := H1 hc
          refine r_bipush h (v := 100) (by decide) (by decide +kernel : decode cX12_reads 140 = .ok (.bipush 100, 2)) ?_
          refine r_aloadn h (q := 0) 0 rfl (by decide +kernel : decode cX12_reads 142 = .ok (.aload_n 0, 1)) ?_
          refine r_getI h f_Mod_169 at1M (by decide +kernel : decode cX12_reads 143 = .ok (.getfield 169, 3)) ?_
          refine r_iadd h (by decide +kernel : decode cX12_reads 146 = .ok (.iadd, 1)) ?_
          obtain ⟨P1, hSP1, H⟩ := H
          refine r_callV h (as := [vi (100 + (M 1 8))]) (S := []) (b := 1) m_Mod_219 hSP1 (by decide) (Nat.le_refl _) rfl at1M rfl (Nat.le_of_ble_eq_true rfl) (by decide +kernel : decode cX12_reads 147 = .ok (.invokevirtual 219, 3)) ?_
          rintro _ _ M1 ⟨rfl, rfl, hP⟩
          have H := H M1 hP
          show K NM RRM _ _ [] _
          refine r_iconst h (v := 0) (by decide +kernel : decode cX12_reads 150 = .ok (.iconst 0, 1)) ?_
          refine r_istoren h (q := 2) (L' := [(2, vi 0), (0, vr 1), (1, vi x1), (3, vi x3), (4, vi x4), (5, vi x5)]) (by decide) rfl (by decide +kernel : decode cX12_reads 151 = .ok (.istore_n 2, 1)) ?_
          refine r_drop h [1, 2, 0] rfl ?_
          exact H
        · have H := H2 hc
          refine r_iloadn h (q := 3) 3 rfl (by decide +kernel : decode cX12_reads 136 = .ok (.iload_n 3, 1)) ?_
          refine r_goto h 147 (by decide) (by decide +kernel : decode cX12_reads 137 = .ok (.goto 10, 3)) ?_
          obtain ⟨P2, hSP2, H⟩ := H
          refine r_callV h (as := [vi x3]) (S := []) (b := 1) m_Mod_219 hSP2 (by decide) (Nat.le_refl _) rfl at1M rfl (Nat.le_of_ble_eq_true rfl) (by decide +kernel : decode cX12_reads 147 = .ok (.invokevirtual 219, 3)) ?_
          rintro _ _ M2 ⟨rfl, rfl, hP⟩
          have H := H M2 hP
          show K NM RRM _ _ [] _
          refine r_iconst h (v := 0) (by decide +kernel : decode cX12_reads 150 = .ok (.iconst 0, 1)) ?_
          refine r_istoren h (q := 2) (L' := [(2, vi 0), (0, vr 1), (1, vi x1), (3, vi x3), (4, vi x4), (5, vi x5)]) (by decide) rfl (by decide +kernel : decode cX12_reads 151 = .ok (.istore_n 2, 1)) ?_
          refine r_drop h [1, 2, 0] rfl ?_
          exact H
      · have H := H2 hc
        refine r_aloadn h (q := 0) 0 rfl (by decide +kernel : decode cX12_reads 86 = .ok (.aload_n 0, 1)) ?_
        refine r_iload h 4 rfl (by decide +kernel : decode cX12_reads 87 = .ok (.iload 4, 2)) ?_
        obtain ⟨g1, H⟩ := H
        obtain ⟨H1, H2⟩ := H
        refine r_if_eq h 97 g1 (by decide) (by decide +kernel : decode cX12_reads 89 = .ok (.ifCond .eq 8, 3)) (fun hc => ?_) (fun hc => ?_)
        · have H := H1 hc
          refine r_bipush h (v := 28) (by decide) (by decide +kernel : decode cX12_reads 97 = .ok (.bipush 28, 2)) ?_
          refine r_drop h [0, 1, 2, 4] rfl ?_
          exact H
        · have H := H2 hc
          refine r_bipush h (v := 30) (by decide) (by decide +kernel : decode cX12_reads 92 = .ok (.bipush 30, 2)) ?_
          refine r_goto h 99 (by decide) (by decide +kernel : decode cX12_reads 94 = .ok (.goto 5, 3)) ?_
          refine r_drop h [0, 1, 2, 4] rfl ?_
          exact H
  · have H := H2 hc
    refine r_aloadn h (q := 0) 0 rfl (by decide +kernel : decode cX12_reads 70 = .ok (.aload_n 0, 1)) ?_
    refine r_iconst h (v := 5) (by decide +kernel : decode cX12_reads 71 = .ok (.iconst 5, 1)) ?_
    obtain ⟨P3, hSP3, H⟩ := H
    refine r_callV h (as := [vi 5]) (S := []) (b := 1) m_Mod_216 hSP3 (by decide) (Nat.le_refl _) rfl at1M rfl (Nat.le_of_ble_eq_true rfl) (by decide +kernel : decode cX12_reads 72 = .ok (.invokevirtual 216, 3)) ?_
    rintro _ _ M3 ⟨rfl, r3, rfl, hP⟩
    have H := H r3 M3 hP
    show K NM RRM _ _ [vi r3] _
    exact r_zret h rfl H.1 (by decide +kernel : decode cX12_reads 75 = .ok (.ireturn, 1)) rfl ⟨rfl, _, rfl, H.2⟩
set_option maxHeartbeats 4000000 in
set_option maxRecDepth 100000 in
theorem w_Mod_reads_289 {P : Int → Mm → Prop} {K : Nat → Rr → Nat → List (Nat × AV) → List AV → Mm → Prop} (h : EK shM yX12_reads cX12_reads 6 (some .boolean) 3 NM NM (QI RRM P) K) (x1 : Int) (s0 : Int) (M : Mm)
    (H : ∃ P1 : Mm → Prop, S_Mod_puts s0 M P1 ∧ ∀ M1 : Mm, P1 M1 → (0 ≤ x1 ∧ x1 < 7) ∧ ∀ M2 : Mm, M2 = (upr M1 15 (up1 (M1 15) x1.toNat 1)) → ∃ P3 : Mm → Prop, S_Mod_nextToken  M2 P3 ∧ ∀ M3 : Mm, P3 M3 → K NM RRM 11 [(0, vr 1), (1, vi x1), (2, vi 1)] [] M3) :
    K NM RRM 289 [(0, vr 1), (1, vi x1)] [vi s0, vr 1] M := by
  obtain ⟨P1, hSP1, H⟩ := H
  refine r_callV h (as := [vi s0]) (S := []) (b := 1) m_Mod_219 hSP1 (by decide) (Nat.le_refl _) rfl at1M rfl (Nat.le_of_ble_eq_true rfl) (by decide +kernel : decode cX12_reads 289 = .ok (.invokevirtual 219, 3)) ?_
  rintro _ _ M1 ⟨rfl, rfl, hP⟩
  have H := H M1 hP
  show K NM RRM _ _ [] _
  refine r_aloadn h (q := 0) 0 rfl (by decide +kernel : decode cX12_reads 292 = .ok (.aload_n 0, 1)) ?_
  refine r_getR h (r := 15) f_Mod_50 at1M rfl (by decide) (by decide +kernel : decode cX12_reads 293 = .ok (.getfield 50, 3)) ?_
  refine r_iloadn h (q := 1) 1 rfl (by decide +kernel : decode cX12_reads 296 = .ok (.iload_n 1, 1)) ?_
  refine r_iconst h (v := 1) (by decide +kernel : decode cX12_reads 297 = .ok (.iconst 1, 1)) ?_
  obtain ⟨g1, H⟩ := H
  refine r_zast h x1.toNat rfl atM_15 g1 (by decide) (by decide) (by decide +kernel : decode cX12_reads 298 = .ok (.bastore, 1)) ?_
  have H := H _ rfl
  revert H
  generalize (upr M1 15 (up1 (M1 15) x1.toNat 1)) = M2
  intro H
  refine r_iconst h (v := 1) (by decide +kernel : decode cX12_reads 299 = .ok (.iconst 1, 1)) ?_
  refine r_istoren h (q := 2) (L' := [(2, vi 1), (0, vr 1), (1, vi x1)]) (by decide) rfl (by decide +kernel : decode cX12_reads 300 = .ok (.istore_n 2, 1)) ?_
  refine r_goto h 424 (by decide) (by decide +kernel : decode cX12_reads 301 = .ok (.goto 123, 3)) ?_
  refine r_aloadn h (q := 0) 1 rfl (by decide +kernel : decode cX12_reads 424 = .ok (.aload_n 0, 1)) ?_
  obtain ⟨P3, hSP3, H⟩ := H
  refine r_callV h (as := []) (S := []) (b := 1) m_Mod_223 hSP3 (by decide) (Nat.le_refl _) rfl at1M rfl (Nat.le_of_ble_eq_true rfl) (by decide +kernel : decode cX12_reads 425 = .ok (.invokevirtual 223, 3)) ?_
  rintro _ _ M3 ⟨rfl, rfl, hP⟩
  have H := H M3 hP
  show K NM RRM _ _ [] _
  refine r_goto h 11 (by decide) (by decide +kernel : decode cX12_reads 428 = .ok (.goto (-417), 3)) ?_
  refine r_drop h [1, 2, 0] rfl ?_
  exact H
set_option maxHeartbeats 4000000 in
set_option maxRecDepth 100000 in
theorem w_Mod_reads_342 {P : Int → Mm → Prop} {K : Nat → Rr → Nat → List (Nat × AV) → List AV → Mm → Prop} (h : EK shM yX12_reads cX12_reads 6 (some .boolean) 3 NM NM (QI RRM P) K) (x1 : Int) (s0 : Int) (M : Mm)
    (H : ∃ P1 : Mm → Prop, S_Mod_puts s0 M P1 ∧ ∀ M1 : Mm, P1 M1 → (0 ≤ x1 ∧ x1 < 7) ∧ ∀ M2 : Mm, M2 = (upr M1 15 (up1 (M1 15) x1.toNat 0)) → ∃ P3 : Mm → Prop, S_Mod_nextToken  M2 P3 ∧ ∀ M3 : Mm, P3 M3 → K NM RRM 11 [(0, vr 1), (1, vi x1), (2, vi 1)] [] M3) :
    K NM RRM 342 [(0, vr 1), (1, vi x1)] [vi s0, vr 1] M := by
  obtain ⟨P1, hSP1, H⟩ := H
  refine r_callV h (as := [vi s0]) (S := []) (b := 1) m_Mod_219 hSP1 (by decide) (Nat.le_refl _) rfl at1M rfl (Nat.le_of_ble_eq_true rfl) (by decide +kernel : decode cX12_reads 342 = .ok (.invokevirtual 219, 3)) ?_
  rintro _ _ M1 ⟨rfl, rfl, hP⟩
  have H := H M1 hP
  show K NM RRM _ _ [] _
  refine r_aloadn h (q := 0) 0 rfl (by decide +kernel : decode cX12_reads 345 = .ok (.aload_n 0, 1)) ?_
  refine r_getR h (r := 15) f_Mod_50 at1M rfl (by decide) (by decide +kernel : decode cX12_reads 346 = .ok (.getfield 50, 3)) ?_
  refine r_iloadn h (q := 1) 1 rfl (by decide +kernel : decode cX12_reads 349 = .ok (.iload_n 1, 1)) ?_
  refine r_iconst h (v := 0) (by decide +kernel : decode cX12_reads 350 = .ok (.iconst 0, 1)) ?_
  obtain ⟨g1, H⟩ := H
  refine r_zast h x1.toNat rfl atM_15 g1 (by decide) (by decide) (by decide +kernel : decode cX12_reads 351 = .ok (.bastore, 1)) ?_
  have H := H _ rfl
  revert H
  generalize (upr M1 15 (up1 (M1 15) x1.toNat 0)) = M2
  intro H
  refine r_iconst h (v := 1) (by decide +kernel : decode cX12_reads 352 = .ok (.iconst 1, 1)) ?_
  refine r_istoren h (q := 2) (L' := [(2, vi 1), (0, vr 1), (1, vi x1)]) (by decide) rfl (by decide +kernel : decode cX12_reads 353 = .ok (.istore_n 2, 1)) ?_
  refine r_goto h 424 (by decide) (by decide +kernel : decode cX12_reads 354 = .ok (.goto 70, 3)) ?_
  refine r_aloadn h (q := 0) 1 rfl (by decide +kernel : decode cX12_reads 424 = .ok (.aload_n 0, 1)) ?_
  obtain ⟨P3, hSP3, H⟩ := H
  refine r_callV h (as := []) (S := []) (b := 1) m_Mod_223 hSP3 (by decide) (Nat.le_refl _) rfl at1M rfl (Nat.le_of_ble_eq_true rfl) (by decide +kernel : decode cX12_reads 425 = .ok (.invokevirtual 223, 3)) ?_
  rintro _ _ M3 ⟨rfl, rfl, hP⟩
  have H := H M3 hP
  show K NM RRM _ _ [] _
  refine r_goto h 11 (by decide) (by decide +kernel : decode cX12_reads 428 = .ok (.goto (-417), 3)) ?_
  refine r_drop h [1, 2, 0] rfl ?_
  exact H
set_option maxHeartbeats 4000000 in
set_option maxRecDepth 100000 in
theorem w_Mod_reads_399 {P : Int → Mm → Prop} {K : Nat → Rr → Nat → List (Nat × AV) → List AV → Mm → Prop} (h : EK shM yX12_reads cX12_reads 6 (some .boolean) 3 NM NM (QI RRM P) K) (x1 : Int) (M : Mm)
    (H : (rng x1) ∧ (x1 ≠ 0 → (∃ P1 : Int → Mm → Prop, S_Mod_fails 1 M P1 ∧ ∀ (r1 : Int) (M1 : Mm), P1 r1 M1 → (r1 = 0 ∨ r1 = 1) ∧ P r1 M1)) ∧ (x1 = 0 → (∃ P2 : Int → Mm → Prop, S_Mod_isSign 59 M P2 ∧ ∀ (r2 : Int) (M2 : Mm), P2 r2 M2 → (rng r2) ∧ (r2 = 0 → (∃ P3 : Int → Mm → Prop, S_Mod_fails 1 M2 P3 ∧ ∀ (r3 : Int) (M3 : Mm), P3 r3 M3 → (r3 = 0 ∨ r3 = 1) ∧ P r3 M3)) ∧ (r2 ≠ 0 → (∃ P4 : Mm → Prop, S_Mod_nextToken  M2 P4 ∧ ∀ M4 : Mm, P4 M4 → P 1 M4))))) :
    K NM RRM 399 [(0, vr 1), (1, vi x1)] [] M := by
  refine r_iloadn h (q := 1) 1 rfl (by decide +kernel : decode cX12_reads 399 = .ok (.iload_n 1, 1)) ?_
  obtain ⟨g1, H⟩ := H
  obtain ⟨H1, H2⟩ := H
  refine r_if_ne h 418 g1 (by decide) (by decide +kernel : decode cX12_reads 400 = .ok (.ifCond .ne 18, 3)) (fun hc => ?_) (fun hc => ?_)
  · have H := H1 hc
    refine r_aloadn h (q := 0) 0 rfl (by decide +kernel : decode cX12_reads 418 = .ok (.aload_n 0, 1)) ?_
    refine r_iconst h (v := 1) (by decide +kernel : decode cX12_reads 419 = .ok (.iconst 1, 1)) ?_
    obtain ⟨P1, hSP1, H⟩ := H
    refine r_callV h (as := [vi 1]) (S := []) (b := 1) m_Mod_216 hSP1 (by decide) (Nat.le_refl _) rfl at1M rfl (Nat.le_of_ble_eq_true rfl) (by decide +kernel : decode cX12_reads 420 = .ok (.invokevirtual 216, 3)) ?_
    rintro _ _ M1 ⟨rfl, r1, rfl, hP⟩
    have H := H r1 M1 hP
    show K NM RRM _ _ [vi r1] _
    exact r_zret h rfl H.1 (by decide +kernel : decode cX12_reads 423 = .ok (.ireturn, 1)) rfl ⟨rfl, _, rfl, H.2⟩
  · have H := H2 hc
    refine r_aloadn h (q := 0) 0 rfl (by decide +kernel : decode cX12_reads 403 = .ok (.aload_n 0, 1)) ?_
    refine r_bipush h (v := 59) (by decide) (by decide +kernel : decode cX12_reads 404 = .ok (.bipush 59, 2)) ?_
    obtain ⟨P2, hSP2, H⟩ := H
    refine r_callV h (as := [vi 59]) (S := []) (b := 1) m_Mod_212 hSP2 (by decide) (Nat.le_refl _) rfl at1M rfl (Nat.le_of_ble_eq_true rfl) (by decide +kernel : decode cX12_reads 406 = .ok (.invokevirtual 212, 3)) ?_
    rintro _ _ M2 ⟨rfl, r2, rfl, hP⟩
    have H := H r2 M2 hP
    show K NM RRM _ _ [vi r2] _
    obtain ⟨g1, H⟩ := H
    obtain ⟨H1, H2⟩ := H
    refine r_if_eq h 418 g1 (by decide) (by decide +kernel : decode cX12_reads 409 = .ok (.ifCond .eq 9, 3)) (fun hc => ?_) (fun hc => ?_)
    · have H := H1 hc
      refine r_aloadn h (q := 0) 0 rfl (by decide +kernel : decode cX12_reads 418 = .ok (.aload_n 0, 1)) ?_
      refine r_iconst h (v := 1) (by decide +kernel : decode cX12_reads 419 = .ok (.iconst 1, 1)) ?_
      obtain ⟨P3, hSP3, H⟩ := H
      refine r_callV h (as := [vi 1]) (S := []) (b := 1) m_Mod_216 hSP3 (by decide) (Nat.le_refl _) rfl at1M rfl (Nat.le_of_ble_eq_true rfl) (by decide +kernel : decode cX12_reads 420 = .ok (.invokevirtual 216, 3)) ?_
      rintro _ _ M3 ⟨rfl, r3, rfl, hP⟩
      have H := H r3 M3 hP
      show K NM RRM _ _ [vi r3] _
      exact r_zret h rfl H.1 (by decide +kernel : decode cX12_reads 423 = .ok (.ireturn, 1)) rfl ⟨rfl, _, rfl, H.2⟩
    · have H := H2 hc
      refine r_aloadn h (q := 0) 0 rfl (by decide +kernel : decode cX12_reads 412 = .ok (.aload_n 0, 1)) ?_
      obtain ⟨P4, hSP4, H⟩ := H
      refine r_callV h (as := []) (S := []) (b := 1) m_Mod_223 hSP4 (by decide) (Nat.le_refl _) rfl at1M rfl (Nat.le_of_ble_eq_true rfl) (by decide +kernel : decode cX12_reads 413 = .ok (.invokevirtual 223, 3)) ?_
      rintro _ _ M4 ⟨rfl, rfl, hP⟩
      have H := H M4 hP
      show K NM RRM _ _ [] _
      refine r_iconst h (v := 1) (by decide +kernel : decode cX12_reads 416 = .ok (.iconst 1, 1)) ?_
      exact r_zret h rfl (by decide) (by decide +kernel : decode cX12_reads 417 = .ok (.ireturn, 1)) rfl ⟨rfl, _, rfl, H⟩
set_option maxHeartbeats 4000000 in
set_option maxRecDepth 100000 in
theorem w_Mod_reads_379 {P : Int → Mm → Prop} {K : Nat → Rr → Nat → List (Nat × AV) → List AV → Mm → Prop} (h : EK shM yX12_reads cX12_reads 6 (some .boolean) 3 NM NM (QI RRM P) K) (x1 : Int) (x2 : Int) (M : Mm)
    (H : (rng x1) ∧ (x1 ≤ 0 → (∃ P1 : Mm → Prop, S_Mod_nextToken  M P1 ∧ ∀ M1 : Mm, P1 M1 → K NM RRM 11 [(0, vr 1), (1, vi x1), (2, vi x2)] [] M1)) ∧ (¬ (x1 ≤ 0) → ((0 ≤ x1 ∧ x1 < 7) ∧ (rng (M 14 x1.toNat)) ∧ ((M 14 x1.toNat) ≠ 1 → (∃ P2 : Mm → Prop, S_Mod_nextToken  M P2 ∧ ∀ M2 : Mm, P2 M2 → K NM RRM 11 [(0, vr 1), (1, vi x1), (2, vi x2)] [] M2)) ∧ ((M 14 x1.toNat) = 1 → (K NM RRM 379 [(0, vr 1), (1, vi (x1 + (-1))), (2, vi x2)] [] M))))) :
    K NM RRM 379 [(0, vr 1), (1, vi x1), (2, vi x2)] [] M := by
  refine r_iloadn h (q := 1) 1 rfl (by decide +kernel : decode cX12_reads 379 = .ok (.iload_n 1, 1)) ?_
  obtain ⟨g1, H⟩ := H
  obtain ⟨H1, H2⟩ := H
  refine r_if_le h 424 g1 (by decide) (by decide +kernel : decode cX12_reads 380 = .ok (.ifCond .le 44, 3)) (fun hc => ?_) (fun hc => ?_)
  · have H := H1 hc
    refine r_aloadn h (q := 0) 0 rfl (by decide +kernel : decode cX12_reads 424 = .ok (.aload_n 0, 1)) ?_
    obtain ⟨P1, hSP1, H⟩ := H
    refine r_callV h (as := []) (S := []) (b := 1) m_Mod_223 hSP1 (by decide) (Nat.le_refl _) rfl at1M rfl (Nat.le_of_ble_eq_true rfl) (by decide +kernel : decode cX12_reads 425 = .ok (.invokevirtual 223, 3)) ?_
    rintro _ _ M1 ⟨rfl, rfl, hP⟩
    have H := H M1 hP
    show K NM RRM _ _ [] _
    refine r_goto h 11 (by decide) (by decide +kernel : decode cX12_reads 428 = .ok (.goto (-417), 3)) ?_
    exact H
  · have H := H2 hc
    refine r_aloadn h (q := 0) 0 rfl (by decide +kernel : decode cX12_reads 383 = .ok (.aload_n 0, 1)) ?_
    refine r_getR h (r := 14) f_Mod_47 at1M rfl (by decide) (by decide +kernel : decode cX12_reads 384 = .ok (.getfield 47, 3)) ?_
    refine r_iloadn h (q := 1) 1 rfl (by decide +kernel : decode cX12_reads 387 = .ok (.iload_n 1, 1)) ?_
    obtain ⟨g1, H⟩ := H
    refine r_iald h x1.toNat rfl atM_14 g1 (by decide) (by decide +kernel : decode cX12_reads 388 = .ok (.iaload, 1)) ?_
    refine r_iconst h (v := 1) (by decide +kernel : decode cX12_reads 389 = .ok (.iconst 1, 1)) ?_
    obtain ⟨g1, H⟩ := H
    obtain ⟨H1, H2⟩ := H
    refine r_icmp_ne h 424 g1 (by decide) (by decide) (by decide +kernel : decode cX12_reads 390 = .ok (.if_icmp .ne 34, 3)) (fun hc => ?_) (fun hc => ?_)
    · have H := H1 hc
      refine r_aloadn h (q := 0) 0 rfl (by decide +kernel : decode cX12_reads 424 = .ok (.aload_n 0, 1)) ?_
      obtain ⟨P2, hSP2, H⟩ := H
      refine r_callV h (as := []) (S := []) (b := 1) m_Mod_223 hSP2 (by decide) (Nat.le_refl _) rfl at1M rfl (Nat.le_of_ble_eq_true rfl) (by decide +kernel : decode cX12_reads 425 = .ok (.invokevirtual 223, 3)) ?_
      rintro _ _ M2 ⟨rfl, rfl, hP⟩
      have H := H M2 hP
      show K NM RRM _ _ [] _
      refine r_goto h 11 (by decide) (by decide +kernel : decode cX12_reads 428 = .ok (.goto (-417), 3)) ?_
      exact H
    · have H := H2 hc
      refine r_iinc h (i := 1) (v := (-1)) (L' := [(1, vi (x1 + (-1))), (0, vr 1), (2, vi x2)]) 1 rfl (by decide) rfl (by decide +kernel : decode cX12_reads 393 = .ok (.iinc 1 (-1), 3)) ?_
      refine r_goto h 379 (by decide) (by decide +kernel : decode cX12_reads 396 = .ok (.goto (-17), 3)) ?_
      refine r_drop h [1, 0, 2] rfl ?_
      exact H
set_option maxHeartbeats 4000000 in
set_option maxRecDepth 100000 in
theorem w_Mod_reads_99 {P : Int → Mm → Prop} {K : Nat → Rr → Nat → List (Nat × AV) → List AV → Mm → Prop} (h : EK shM yX12_reads cX12_reads 6 (some .boolean) 3 NM NM (QI RRM P) K) (x1 : Int) (x2 : Int) (x4 : Int) (s0 : Int) (M : Mm)
    (H : ∃ P1 : Mm → Prop, S_Mod_puts s0 M P1 ∧ ∀ M1 : Mm, P1 M1 → (rng x4) ∧ (x4 = 0 → (K NM RRM 120 [(0, vr 1), (1, vi (x1 + 1)), (2, vi x2)] [vi 2, vi (x1 + 1), vr 14] M1)) ∧ (x4 ≠ 0 → (K NM RRM 120 [(0, vr 1), (1, vi (x1 + 1)), (2, vi x2)] [vi 1, vi (x1 + 1), vr 14] M1))) :
    K NM RRM 99 [(0, vr 1), (1, vi x1), (2, vi x2), (4, vi x4)] [vi s0, vr 1] M := by
  obtain ⟨P1, hSP1, H⟩ := H
  refine r_callV h (as := [vi s0]) (S := []) (b := 1) m_Mod_219 hSP1 (by decide) (Nat.le_refl _) rfl at1M rfl (Nat.le_of_ble_eq_true rfl) (by decide +kernel : decode cX12_reads 99 = .ok (.invokevirtual 219, 3)) ?_
  rintro _ _ M1 ⟨rfl, rfl, hP⟩
  have H := H M1 hP
  show K NM RRM _ _ [] _
  refine r_iinc h (i := 1) (v := 1) (L' := [(1, vi (x1 + 1)), (0, vr 1), (2, vi x2), (4, vi x4)]) 1 rfl (by decide) rfl (by decide +kernel : decode cX12_reads 102 = .ok (.iinc 1 1, 3)) ?_
  refine r_aloadn h (q := 0) 1 rfl (by decide +kernel : decode cX12_reads 105 = .ok (.aload_n 0, 1)) ?_
  refine r_getR h (r := 14) f_Mod_47 at1M rfl (by decide) (by decide +kernel : decode cX12_reads 106 = .ok (.getfield 47, 3)) ?_
  refine r_iloadn h (q := 1) 0 rfl (by decide +kernel : decode cX12_reads 109 = .ok (.iload_n 1, 1)) ?_
  refine r_iload h 3 rfl (by decide +kernel : decode cX12_reads 110 = .ok (.iload 4, 2)) ?_
  obtain ⟨g1, H⟩ := H
  obtain ⟨H1, H2⟩ := H
  refine r_if_eq h 119 g1 (by decide) (by decide +kernel : decode cX12_reads 112 = .ok (.ifCond .eq 7, 3)) (fun hc => ?_) (fun hc => ?_)
  · have H := H1 hc
    refine r_iconst h (v := 2) (by decide +kernel : decode cX12_reads 119 = .ok (.iconst 2, 1)) ?_
    refine r_drop h [1, 0, 2] rfl ?_
    exact H
  · have H := H2 hc
    refine r_iconst h (v := 1) (by decide +kernel : decode cX12_reads 115 = .ok (.iconst 1, 1)) ?_
    refine r_goto h 120 (by decide) (by decide +kernel : decode cX12_reads 116 = .ok (.goto 4, 3)) ?_
    refine r_drop h [1, 0, 2] rfl ?_
    exact H
set_option maxHeartbeats 4000000 in
set_option maxRecDepth 100000 in
theorem w_Mod_reads_152 {P : Int → Mm → Prop} {K : Nat → Rr → Nat → List (Nat × AV) → List AV → Mm → Prop} (h : EK shM yX12_reads cX12_reads 6 (some .boolean) 3 NM NM (QI RRM P) K) (x1 : Int) (x2 : Int) (M : Mm)
    (H : (rng x1) ∧ (x1 ≤ 0 → (∃ P1 : Mm → Prop, S_Mod_nextToken  M P1 ∧ ∀ M1 : Mm, P1 M1 → K NM RRM 11 [(0, vr 1), (1, vi x1), (2, vi x2)] [] M1)) ∧ (¬ (x1 ≤ 0) → ((0 ≤ x1 ∧ x1 < 7) ∧ (rng (M 14 x1.toNat)) ∧ ((M 14 x1.toNat) ≠ 1 → (∃ P2 : Mm → Prop, S_Mod_nextToken  M P2 ∧ ∀ M2 : Mm, P2 M2 → K NM RRM 11 [(0, vr 1), (1, vi x1), (2, vi x2)] [] M2)) ∧ ((M 14 x1.toNat) = 1 → (K NM RRM 152 [(0, vr 1), (1, vi (x1 + (-1))), (2, vi x2)] [] M))))) :
    K NM RRM 152 [(0, vr 1), (1, vi x1), (2, vi x2)] [] M := by
  refine r_iloadn h (q := 1) 1 rfl (by decide +kernel : decode cX12_reads 152 = .ok (.iload_n 1, 1)) ?_
  obtain ⟨g1, H⟩ := H
  obtain ⟨H1, H2⟩ := H
  refine r_if_le h 172 g1 (by decide) (by decide +kernel : decode cX12_reads 153 = .ok (.ifCond .le 19, 3)) (fun hc => ?_) (fun hc => ?_)
  · have H := H1 hc
    refine r_aloadn h (q := 0) 0 rfl (by decide +kernel : decode cX12_reads 172 = .ok (.aload_n 0, 1)) ?_
    obtain ⟨P1, hSP1, H⟩ := H
    refine r_callV h (as := []) (S := []) (b := 1) m_Mod_223 hSP1 (by decide) (Nat.le_refl _) rfl at1M rfl (Nat.le_of_ble_eq_true rfl) (by decide +kernel : decode cX12_reads 173 = .ok (.invokevirtual 223, 3)) ?_
    rintro _ _ M1 ⟨rfl, rfl, hP⟩
    have H := H M1 hP
    show K NM RRM _ _ [] _
    refine r_goto h 11 (by decide) (by decide +kernel : decode cX12_reads 176 = .ok (.goto (-165), 3)) ?_
    exact H
  · have H := H2 hc
    refine r_aloadn h (q := 0) 0 rfl (by decide +kernel : decode cX12_reads 156 = .ok (.aload_n 0, 1)) ?_
    refine r_getR h (r := 14) f_Mod_47 at1M rfl (by decide) (by decide +kernel : decode cX12_reads 157 = .ok (.getfield 47, 3)) ?_
    refine r_iloadn h (q := 1) 1 rfl (by decide +kernel : decode cX12_reads 160 = .ok (.iload_n 1, 1)) ?_
    obtain ⟨g1, H⟩ := H
    refine r_iald h x1.toNat rfl atM_14 g1 (by decide) (by decide +kernel : decode cX12_reads 161 = .ok (.iaload, 1)) ?_
    refine r_iconst h (v := 1) (by decide +kernel : decode cX12_reads 162 = .ok (.iconst 1, 1)) ?_
    obtain ⟨g1, H⟩ := H
    obtain ⟨H1, H2⟩ := H
    refine r_icmp_ne h 172 g1 (by decide) (by decide) (by decide +kernel : decode cX12_reads 163 = .ok (.if_icmp .ne 9, 3)) (fun hc => ?_) (fun hc => ?_)
    · have H := H1 hc
      refine r_aloadn h (q := 0) 0 rfl (by decide +kernel : decode cX12_reads 172 = .ok (.aload_n 0, 1)) ?_
      obtain ⟨P2, hSP2, H⟩ := H
      refine r_callV h (as := []) (S := []) (b := 1) m_Mod_223 hSP2 (by decide) (Nat.le_refl _) rfl at1M rfl (Nat.le_of_ble_eq_true rfl) (by decide +kernel : decode cX12_reads 173 = .ok (.invokevirtual 223, 3)) ?_
      rintro _ _ M2 ⟨rfl, rfl, hP⟩
      have H := H M2 hP
      show K NM RRM _ _ [] _
      refine r_goto h 11 (by decide) (by decide +kernel : decode cX12_reads 176 = .ok (.goto (-165), 3)) ?_
      exact H
    · have H := H2 hc
      refine r_iinc h (i := 1) (v := (-1)) (L' := [(1, vi (x1 + (-1))), (0, vr 1), (2, vi x2)]) 1 rfl (by decide) rfl (by decide +kernel : decode cX12_reads 166 = .ok (.iinc 1 (-1), 3)) ?_
      refine r_goto h 152 (by decide) (by decide +kernel : decode cX12_reads 169 = .ok (.goto (-17), 3)) ?_
      refine r_drop h [1, 0, 2] rfl ?_
      exact H
set_option maxHeartbeats 4000000 in
set_option maxRecDepth 100000 in
theorem w_Mod_reads_120 {P : Int → Mm → Prop} {K : Nat → Rr → Nat → List (Nat × AV) → List AV → Mm → Prop} (h : EK shM yX12_reads cX12_reads 6 (some .boolean) 3 NM NM (QI RRM P) K) (x1 : Int) (x2 : Int) (s0 : Int) (s1 : Int) (M : Mm)
    (H : (0 ≤ s1 ∧ s1 < 7) ∧ ∀ M1 : Mm, M1 = (upr M 14 (up1 (M 14) s1.toNat s0)) → (0 ≤ x1 ∧ x1 < 7) ∧ ∀ M2 : Mm, M2 = (upr M1 15 (up1 (M1 15) x1.toNat 0)) → ∃ P3 : Mm → Prop, S_Mod_nextToken  M2 P3 ∧ ∀ M3 : Mm, P3 M3 → K NM RRM 11 [(0, vr 1), (1, vi x1), (2, vi x2)] [] M3) :
    K NM RRM 120 [(0, vr 1), (1, vi x1), (2, vi x2)] [vi s0, vi s1, vr 14] M := by
  obtain ⟨g1, H⟩ := H
  refine r_iast h s1.toNat rfl atM_14 g1 (by decide) (by decide +kernel : decode cX12_reads 120 = .ok (.iastore, 1)) ?_
  have H := H _ rfl
  revert H
  generalize (upr M 14 (up1 (M 14) s1.toNat s0)) = M1
  intro H
  refine r_aloadn h (q := 0) 0 rfl (by decide +kernel : decode cX12_reads 121 = .ok (.aload_n 0, 1)) ?_
  refine r_getR h (r := 15) f_Mod_50 at1M rfl (by decide) (by decide +kernel : decode cX12_reads 122 = .ok (.getfield 50, 3)) ?_
  refine r_iloadn h (q := 1) 1 rfl (by decide +kernel : decode cX12_reads 125 = .ok (.iload_n 1, 1)) ?_
  refine r_iconst h (v := 0) (by decide +kernel : decode cX12_reads 126 = .ok (.iconst 0, 1)) ?_
  obtain ⟨g1, H⟩ := H
  refine r_zast h x1.toNat rfl atM_15 g1 (by decide) (by decide) (by decide +kernel : decode cX12_reads 127 = .ok (.bastore, 1)) ?_
  have H := H _ rfl
  revert H
  generalize (upr M1 15 (up1 (M1 15) x1.toNat 0)) = M2
  intro H
  refine r_goto h 172 (by decide) (by decide +kernel : decode cX12_reads 128 = .ok (.goto 44, 3)) ?_
  refine r_aloadn h (q := 0) 0 rfl (by decide +kernel : decode cX12_reads 172 = .ok (.aload_n 0, 1)) ?_
  obtain ⟨P3, hSP3, H⟩ := H
  refine r_callV h (as := []) (S := []) (b := 1) m_Mod_223 hSP3 (by decide) (Nat.le_refl _) rfl at1M rfl (Nat.le_of_ble_eq_true rfl) (by decide +kernel : decode cX12_reads 173 = .ok (.invokevirtual 223, 3)) ?_
  rintro _ _ M3 ⟨rfl, rfl, hP⟩
  have H := H M3 hP
  show K NM RRM _ _ [] _
  refine r_goto h 11 (by decide) (by decide +kernel : decode cX12_reads 176 = .ok (.goto (-165), 3)) ?_
  exact H
set_option maxHeartbeats 4000000 in
set_option maxRecDepth 100000 in
theorem w_Mod_worked_0 {P : Int → Mm → Prop} {K : Nat → Rr → Nat → List (Nat × AV) → List AV → Mm → Prop} (h : EK shM yX12_worked cX12_worked 6 (some .int) 3 NM NM (QI RRM P) K) (x1 : Int) (M : Mm)
    (H : ∃ P1 : Mm → Prop, S_Mod_opens 0 M P1 ∧ ∀ M1 : Mm, P1 M1 → (0 ≤ x1 ∧ x1 < 4) ∧ K NM RRM 14 [(0, vr 1), (1, vi x1), (2, vi 0), (3, vi (M1 11 x1.toNat))] [] M1) :
    K NM RRM 0 [(0, vr 1), (1, vi x1)] [] M := by
  refine r_iconst h (v := 0) (by decide +kernel : decode cX12_worked 0 = .ok (.iconst 0, 1)) ?_
  refine r_istoren h (q := 2) (L' := [(2, vi 0), (0, vr 1), (1, vi x1)]) (by decide) rfl (by decide +kernel : decode cX12_worked 1 = .ok (.istore_n 2, 1)) ?_
  refine r_aloadn h (q := 0) 1 rfl (by decide +kernel : decode cX12_worked 2 = .ok (.aload_n 0, 1)) ?_
  refine r_iconst h (v := 0) (by decide +kernel : decode cX12_worked 3 = .ok (.iconst 0, 1)) ?_
  obtain ⟨P1, hSP1, H⟩ := H
  refine r_callV h (as := [vi 0]) (S := []) (b := 1) m_Mod_233 hSP1 (by decide) (Nat.le_refl _) rfl at1M rfl (Nat.le_of_ble_eq_true rfl) (by decide +kernel : decode cX12_worked 4 = .ok (.invokevirtual 233, 3)) ?_
  rintro _ _ M1 ⟨rfl, rfl, hP⟩
  have H := H M1 hP
  show K NM RRM _ _ [] _
  refine r_aloadn h (q := 0) 1 rfl (by decide +kernel : decode cX12_worked 7 = .ok (.aload_n 0, 1)) ?_
  refine r_getR h (r := 11) f_Mod_38 at1M rfl (by decide) (by decide +kernel : decode cX12_worked 8 = .ok (.getfield 38, 3)) ?_
  refine r_iloadn h (q := 1) 2 rfl (by decide +kernel : decode cX12_worked 11 = .ok (.iload_n 1, 1)) ?_
  obtain ⟨g1, H⟩ := H
  refine r_iald h x1.toNat rfl atM_11 g1 (by decide) (by decide +kernel : decode cX12_worked 12 = .ok (.iaload, 1)) ?_
  refine r_istoren h (q := 3) (L' := [(3, vi (M1 11 x1.toNat)), (2, vi 0), (0, vr 1), (1, vi x1)]) (by decide) rfl (by decide +kernel : decode cX12_worked 13 = .ok (.istore_n 3, 1)) ?_
  refine r_drop h [2, 3, 1, 0] rfl ?_
  exact H
set_option maxHeartbeats 4000000 in
set_option maxRecDepth 100000 in
theorem w_Mod_worked_14 {P : Int → Mm → Prop} {K : Nat → Rr → Nat → List (Nat × AV) → List AV → Mm → Prop} (h : EK shM yX12_worked cX12_worked 6 (some .int) 3 NM NM (QI RRM P) K) (x1 : Int) (x2 : Int) (x3 : Int) (M : Mm)
    (H : (0 ≤ x1 ∧ x1 < 4) ∧ (rng x3) ∧ (rng (M 12 x1.toNat)) ∧ ((M 12 x1.toNat) ≤ x3 → (∃ P1 : Mm → Prop, S_Mod_tests 0 M P1 ∧ ∀ M1 : Mm, P1 M1 → P (M1 16 0) M1)) ∧ (¬ ((M 12 x1.toNat) ≤ x3) → ((0 ≤ x3 ∧ x3 < 2000) ∧ (rng (M 13 x3.toNat)) ∧ ((M 13 x3.toNat) = 28 → (K NM RRM 46 [(0, vr 1), (1, vi x1), (2, vi x2), (3, vi x3), (4, vi (M 13 x3.toNat))] [] M)) ∧ ((M 13 x3.toNat) ≠ 28 → ((rng (M 13 x3.toNat)) ∧ ((M 13 x3.toNat) ≠ 30 → ((rng (M 13 x3.toNat)) ∧ ((M 13 x3.toNat) = 20 → (K NM RRM 89 [(0, vr 1), (1, vi x1), (2, vi x2), (3, vi x3), (4, vi (M 13 x3.toNat))] [] M)) ∧ ((M 13 x3.toNat) ≠ 20 → ((rng (M 13 x3.toNat)) ∧ ((M 13 x3.toNat) ≠ 21 → ((rng (M 13 x3.toNat)) ∧ ((M 13 x3.toNat) ≠ 22 → ((rng (M 13 x3.toNat)) ∧ ((M 13 x3.toNat) = 24 → (K NM RRM 137 [(0, vr 1), (1, vi x1), (2, vi x2), (3, vi x3), (4, vi (M 13 x3.toNat))] [] M)) ∧ ((M 13 x3.toNat) ≠ 24 → ((rng (M 13 x3.toNat)) ∧ ((M 13 x3.toNat) ≠ 25 → ((rng (M 13 x3.toNat)) ∧ ((M 13 x3.toNat) = 26 → (K NM RRM 194 [(0, vr 1), (1, vi x1), (2, vi x2), (3, vi x3), (4, vi (M 13 x3.toNat))] [] M)) ∧ ((M 13 x3.toNat) ≠ 26 → ((rng (M 13 x3.toNat)) ∧ ((M 13 x3.toNat) ≠ 27 → ((rng (M 13 x3.toNat)) ∧ ((M 13 x3.toNat) < 100 → ((rng (M 13 x3.toNat)) ∧ (20 ≤ (M 13 x3.toNat) → (K NM RRM 243 [(0, vr 1), (1, vi x1), (2, vi x2), (3, vi x3), (4, vi (M 13 x3.toNat))] [vi 0] M)) ∧ (¬ (20 ≤ (M 13 x3.toNat)) → ((0 ≤ (M 13 x3.toNat) ∧ (M 13 x3.toNat) < 20) ∧ K NM RRM 243 [(0, vr 1), (1, vi x1), (2, vi x2), (3, vi x3), (4, vi (M 13 x3.toNat))] [vi (M 25 (M 13 x3.toNat).toNat)] M)))) ∧ (¬ ((M 13 x3.toNat) < 100) → (K NM RRM 243 [(0, vr 1), (1, vi x1), (2, vi x2), (3, vi x3), (4, vi (M 13 x3.toNat))] [vi (subW (M 13 x3.toNat) 100)] M)))) ∧ ((M 13 x3.toNat) = 27 → (K NM RRM 194 [(0, vr 1), (1, vi x1), (2, vi x2), (3, vi x3), (4, vi (M 13 x3.toNat))] [] M)))))) ∧ ((M 13 x3.toNat) = 25 → (K NM RRM 137 [(0, vr 1), (1, vi x1), (2, vi x2), (3, vi x3), (4, vi (M 13 x3.toNat))] [] M)))))) ∧ ((M 13 x3.toNat) = 22 → ((0 ≤ x2 ∧ x2 < 7) ∧ ∀ M2 : Mm, M2 = (upr M 23 (up1 (M 23) x2.toNat (M 13 x3.toNat))) → K NM RRM 14 [(0, vr 1), (1, vi x1), (2, vi x2), (3, vi (x3 + 1))] [] M2)))) ∧ ((M 13 x3.toNat) = 21 → (K NM RRM 89 [(0, vr 1), (1, vi x1), (2, vi x2), (3, vi x3), (4, vi (M 13 x3.toNat))] [] M)))))) ∧ ((M 13 x3.toNat) = 30 → (K NM RRM 46 [(0, vr 1), (1, vi x1), (2, vi x2), (3, vi x3), (4, vi (M 13 x3.toNat))] [] M))))))) :
    K NM RRM 14 [(0, vr 1), (1, vi x1), (2, vi x2), (3, vi x3)] [] M := by
  refine r_iloadn h (q := 3) 3 rfl (by decide +kernel : decode cX12_worked 14 = .ok (.iload_n 3, 1)) ?_
  refine r_aloadn h (q := 0) 0 rfl (by decide +kernel : decode cX12_worked 15 = .ok (.aload_n 0, 1)) ?_
  refine r_getR h (r := 12) f_Mod_41 at1M rfl (by decide) (by decide +kernel : decode cX12_worked 16 = .ok (.getfield 41, 3)) ?_
  refine r_iloadn h (q := 1) 1 rfl (by decide +kernel : decode cX12_worked 19 = .ok (.iload_n 1, 1)) ?_
  obtain ⟨g1, H⟩ := H
  refine r_iald h x1.toNat rfl atM_12 g1 (by decide) (by decide +kernel : decode cX12_worked 20 = .ok (.iaload, 1)) ?_
  obtain ⟨g1, g2, H⟩ := H
  obtain ⟨H1, H2⟩ := H
  refine r_icmp_ge h 335 g1 g2 (by decide) (by decide +kernel : decode cX12_worked 21 = .ok (.if_icmp .ge 314, 3)) (fun hc => ?_) (fun hc => ?_)
  · have H := H1 hc
    refine r_aloadn h (q := 0) 0 rfl (by decide +kernel : decode cX12_worked 335 = .ok (.aload_n 0, 1)) ?_
    refine r_iconst h (v := 0) (by decide +kernel : decode cX12_worked 336 = .ok (.iconst 0, 1)) ?_
    obtain ⟨P1, hSP1, H⟩ := H
    refine r_callV h (as := [vi 0]) (S := []) (b := 1) m_Mod_236 hSP1 (by decide) (Nat.le_refl _) rfl at1M rfl (Nat.le_of_ble_eq_true rfl) (by decide +kernel : decode cX12_worked 337 = .ok (.invokevirtual 236, 3)) ?_
    rintro _ _ M1 ⟨rfl, rfl, hP⟩
    have H := H M1 hP
    show K NM RRM _ _ [] _
    refine r_aloadn h (q := 0) 0 rfl (by decide +kernel : decode cX12_worked 340 = .ok (.aload_n 0, 1)) ?_
    refine r_getR h (r := 16) f_Mod_54 at1M rfl (by decide) (by decide +kernel : decode cX12_worked 341 = .ok (.getfield 54, 3)) ?_
    refine r_iconst h (v := 0) (by decide +kernel : decode cX12_worked 344 = .ok (.iconst 0, 1)) ?_
    refine r_iald h 0 rfl atM_16 (by decide) (by decide) (by decide +kernel : decode cX12_worked 345 = .ok (.iaload, 1)) ?_
    exact r_iret h rfl (by decide +kernel : decode cX12_worked 346 = .ok (.ireturn, 1)) rfl ⟨rfl, _, rfl, H⟩
  · have H := H2 hc
    refine r_aloadn h (q := 0) 0 rfl (by decide +kernel : decode cX12_worked 24 = .ok (.aload_n 0, 1)) ?_
    refine r_getR h (r := 13) f_Mod_44 at1M rfl (by decide) (by decide +kernel : decode cX12_worked 25 = .ok (.getfield 44, 3)) ?_
    refine r_iloadn h (q := 3) 3 rfl (by decide +kernel : decode cX12_worked 28 = .ok (.iload_n 3, 1)) ?_
    obtain ⟨g1, H⟩ := H
    refine r_iald h x3.toNat rfl atM_13 g1 (by decide) (by decide +kernel : decode cX12_worked 29 = .ok (.iaload, 1)) ?_
    refine r_istore h (L' := [(4, vi (M 13 x3.toNat)), (0, vr 1), (1, vi x1), (2, vi x2), (3, vi x3)]) (by decide) rfl (by decide +kernel : decode cX12_worked 30 = .ok (.istore 4, 2)) ?_
    refine r_iload h 0 rfl (by decide +kernel : decode cX12_worked 32 = .ok (.iload 4, 2)) ?_
    refine r_bipush h (v := 28) (by decide) (by decide +kernel : decode cX12_worked 34 = .ok (.bipush 28, 2)) ?_
    obtain ⟨g1, H⟩ := H
    obtain ⟨H1, H2⟩ := H
    refine r_icmp_eq h 46 g1 (by decide) (by decide) (by decide +kernel : decode cX12_worked 36 = .ok (.if_icmp .eq 10, 3)) (fun hc => ?_) (fun hc => ?_)
    · have H := H1 hc
      refine r_drop h [1, 2, 3, 4, 0] rfl ?_
      exact H
    · have H := H2 hc
      refine r_iload h 0 rfl (by decide +kernel : decode cX12_worked 39 = .ok (.iload 4, 2)) ?_
      refine r_bipush h (v := 30) (by decide) (by decide +kernel : decode cX12_worked 41 = .ok (.bipush 30, 2)) ?_
      obtain ⟨g1, H⟩ := H
      obtain ⟨H1, H2⟩ := H
      refine r_icmp_ne h 75 g1 (by decide) (by decide) (by decide +kernel : decode cX12_worked 43 = .ok (.if_icmp .ne 32, 3)) (fun hc => ?_) (fun hc => ?_)
      · have H := H1 hc
        refine r_iload h 0 rfl (by decide +kernel : decode cX12_worked 75 = .ok (.iload 4, 2)) ?_
        refine r_bipush h (v := 20) (by decide) (by decide +kernel : decode cX12_worked 77 = .ok (.bipush 20, 2)) ?_
        obtain ⟨g1, H⟩ := H
        obtain ⟨H1, H2⟩ := H
        refine r_icmp_eq h 89 g1 (by decide) (by decide) (by decide +kernel : decode cX12_worked 79 = .ok (.if_icmp .eq 10, 3)) (fun hc => ?_) (fun hc => ?_)
        · have H := H1 hc
          refine r_drop h [1, 2, 3, 4, 0] rfl ?_
          exact H
        · have H := H2 hc
          refine r_iload h 0 rfl (by decide +kernel : decode cX12_worked 82 = .ok (.iload 4, 2)) ?_
          refine r_bipush h (v := 21) (by decide) (by decide +kernel : decode cX12_worked 84 = .ok (.bipush 21, 2)) ?_
          obtain ⟨g1, H⟩ := H
          obtain ⟨H1, H2⟩ := H
          refine r_icmp_ne h 105 g1 (by decide) (by decide) (by decide +kernel : decode cX12_worked 86 = .ok (.if_icmp .ne 19, 3)) (fun hc => ?_) (fun hc => ?_)
          · have H := H1 hc
            refine r_iload h 0 rfl (by decide +kernel : decode cX12_worked 105 = .ok (.iload 4, 2)) ?_
            refine r_bipush h (v := 22) (by decide) (by decide +kernel : decode cX12_worked 107 = .ok (.bipush 22, 2)) ?_
            obtain ⟨g1, H⟩ := H
            obtain ⟨H1, H2⟩ := H
            refine r_icmp_ne h 123 g1 (by decide) (by decide) (by decide +kernel : decode cX12_worked 109 = .ok (.if_icmp .ne 14, 3)) (fun hc => ?_) (fun hc => ?_)
            · have H := H1 hc
              refine r_iload h 0 rfl (by decide +kernel : decode cX12_worked 123 = .ok (.iload 4, 2)) ?_
              refine r_bipush h (v := 24) (by decide) (by decide +kernel : decode cX12_worked 125 = .ok (.bipush 24, 2)) ?_
              obtain ⟨g1, H⟩ := H
              obtain ⟨H1, H2⟩ := H
              refine r_icmp_eq h 137 g1 (by decide) (by decide) (by decide +kernel : decode cX12_worked 127 = .ok (.if_icmp .eq 10, 3)) (fun hc => ?_) (fun hc => ?_)
              · have H := H1 hc
                refine r_drop h [1, 2, 3, 4, 0] rfl ?_
                exact H
              · have H := H2 hc
                refine r_iload h 0 rfl (by decide +kernel : decode cX12_worked 130 = .ok (.iload 4, 2)) ?_
                refine r_bipush h (v := 25) (by decide) (by decide +kernel : decode cX12_worked 132 = .ok (.bipush 25, 2)) ?_
                obtain ⟨g1, H⟩ := H
                obtain ⟨H1, H2⟩ := H
                refine r_icmp_ne h 180 g1 (by decide) (by decide) (by decide +kernel : decode cX12_worked 134 = .ok (.if_icmp .ne 46, 3)) (fun hc => ?_) (fun hc => ?_)
                · have H := H1 hc
                  refine r_iload h 0 rfl (by decide +kernel : decode cX12_worked 180 = .ok (.iload 4, 2)) ?_
                  refine r_bipush h (v := 26) (by decide) (by decide +kernel : decode cX12_worked 182 = .ok (.bipush 26, 2)) ?_
                  obtain ⟨g1, H⟩ := H
                  obtain ⟨H1, H2⟩ := H
                  refine r_icmp_eq h 194 g1 (by decide) (by decide) (by decide +kernel : decode cX12_worked 184 = .ok (.if_icmp .eq 10, 3)) (fun hc => ?_) (fun hc => ?_)
                  · have H := H1 hc
                    refine r_drop h [1, 2, 3, 4, 0] rfl ?_
                    exact H
                  · have H := H2 hc
                    refine r_iload h 0 rfl (by decide +kernel : decode cX12_worked 187 = .ok (.iload 4, 2)) ?_
                    refine r_bipush h (v := 27) (by decide) (by decide +kernel : decode cX12_worked 189 = .ok (.bipush 27, 2)) ?_
                    obtain ⟨g1, H⟩ := H
                    obtain ⟨H1, H2⟩ := H
                    refine r_icmp_ne h 210 g1 (by decide) (by decide) (by decide +kernel : decode cX12_worked 191 = .ok (.if_icmp .ne 19, 3)) (fun hc => ?_) (fun hc => ?_)
                    · have H := H1 hc
                      refine r_iload h 0 rfl (by decide +kernel : decode cX12_worked 210 = .ok (.iload 4, 2)) ?_
                      refine r_bipush h (v := 100) (by decide) (by decide +kernel : decode cX12_worked 212 = .ok (.bipush 100, 2)) ?_
                      obtain ⟨g1, H⟩ := H
                      obtain ⟨H1, H2⟩ := H
                      refine r_icmp_lt h 225 g1 (by decide) (by decide) (by decide +kernel : decode cX12_worked 214 = .ok (.if_icmp .lt 11, 3)) (fun hc => ?_) (fun hc => ?_)
                      · have H := H1 hc
                        refine r_iload h 0 rfl (by decide +kernel : decode cX12_worked 225 = .ok (.iload 4, 2)) ?_
                        refine r_bipush h (v := 20) (by decide) (by decide +kernel : decode cX12_worked 227 = .ok (.bipush 20, 2)) ?_
                        obtain ⟨g1, H⟩ := H
                        obtain ⟨H1, H2⟩ := H
                        refine r_icmp_ge h 242 g1 (by decide) (by decide) (by decide +kernel : decode cX12_worked 229 = .ok (.if_icmp .ge 13, 3)) (fun hc => ?_) (fun hc => ?_)
                        · have H := H1 hc
                          refine r_iconst h (v := 0) (by decide +kernel : decode cX12_worked 242 = .ok (.iconst 0, 1)) ?_
                          refine r_drop h [1, 2, 3, 4, 0] rfl ?_
                          exact H
                        · have H := H2 hc
                          refine r_aloadn h (q := 0) 1 rfl (by decide +kernel : decode cX12_worked 232 = .ok (.aload_n 0, 1)) ?_
                          refine r_getR h (r := 25) f_Mod_81 at1M rfl (by decide) (by decide +kernel : decode cX12_worked 233 = .ok (.getfield 81, 3)) ?_
                          refine r_iload h 0 rfl (by decide +kernel : decode cX12_worked 236 = .ok (.iload 4, 2)) ?_
                          obtain ⟨g1, H⟩ := H
                          refine r_iald h (M 13 x3.toNat).toNat rfl atM_25 g1 (by decide) (by decide +kernel : decode cX12_worked 238 = .ok (.iaload, 1)) ?_
                          refine r_goto h 243 (by decide) (by decide +kernel : decode cX12_worked 239 = .ok (.goto 4, 3)) ?_
                          refine r_drop h [1, 2, 3, 4, 0] rfl ?_
                          exact H
                      · have H := H2 hc
                        refine r_iload h 0 rfl (by decide +kernel : decode cX12_worked 217 = .ok (.iload 4, 2)) ?_
                        refine r_bipush h (v := 100) (by decide) (by decide +kernel : decode cX12_worked 219 = .ok (.bipush 100, 2)) ?_
                        refine r_isubW h (by decide +kernel : decode cX12_worked 221 = .ok (.isub, 1)) ?_
                        refine r_goto h 243 (by decide) (by decide +kernel : decode cX12_worked 222 = .ok (.goto 21, 3)) ?_
                        refine r_drop h [1, 2, 3, 4, 0] rfl ?_
                        exact H
                    · have H := H2 hc
                      refine r_drop h [1, 2, 3, 4, 0] rfl ?_
                      exact H
                · have H := H2 hc
                  refine r_drop h [1, 2, 3, 4, 0] rfl ?_
                  exact H
            · have H := H2 hc
              refine r_aloadn h (q := 0) 1 rfl (by decide +kernel : decode cX12_worked 112 = .ok (.aload_n 0, 1)) ?_
              refine r_getR h (r := 23) f_Mod_75 at1M rfl (by decide) (by decide +kernel : decode cX12_worked 113 = .ok (.getfield 75, 3)) ?_
              refine r_iloadn h (q := 2) 3 rfl (by decide +kernel : decode cX12_worked 116 = .ok (.iload_n 2, 1)) ?_
              refine r_iload h 0 rfl (by decide +kernel : decode cX12_worked 117 = .ok (.iload 4, 2)) ?_
              obtain ⟨g1, H⟩ := H
              refine r_iast h x2.toNat rfl atM_23 g1 (by decide) (by decide +kernel : decode cX12_worked 119 = .ok (.iastore, 1)) ?_
              have H := H _ rfl
              revert H
              generalize (upr M 23 (up1 (M 23) x2.toNat (M 13 x3.toNat))) = M2
              intro H
              refine r_goto h 329 (by decide) (by decide +kernel : decode cX12_worked 120 = .ok (.goto 209, 3)) ?_
              refine r_iinc h (i := 3) (v := 1) (L' := [(3, vi (x3 + 1)), (4, vi (M 13 x3.toNat)), (0, vr 1), (1, vi x1), (2, vi x2)]) 4 rfl (by decide) rfl (by decide +kernel : decode cX12_worked 329 = .ok (.iinc 3 1, 3)) ?_
              refine r_goto h 14 (by decide) (by decide +kernel : decode cX12_worked 332 = .ok (.goto (-318), 3)) ?_
              refine r_drop h [2, 3, 4, 0] rfl ?_
              exact H
          · have H := H2 hc
            refine r_drop h [1, 2, 3, 4, 0] rfl ?_
            exact H
      · have H := H2 hc
        refine r_drop h [1, 2, 3, 4, 0] rfl ?_
        exact H
set_option maxHeartbeats 4000000 in
set_option maxRecDepth 100000 in
theorem w_Mod_worked_46 {P : Int → Mm → Prop} {K : Nat → Rr → Nat → List (Nat × AV) → List AV → Mm → Prop} (h : EK shM yX12_worked cX12_worked 6 (some .int) 3 NM NM (QI RRM P) K) (x1 : Int) (x2 : Int) (x3 : Int) (x4 : Int) (M : Mm)
    (H : (rng x4) ∧ (x4 ≠ 30 → ((0 ≤ (x2 + 1) ∧ (x2 + 1) < 7) ∧ ∀ M1 : Mm, M1 = (upr M 24 (up1 (M 24) (x2 + 1).toNat 0)) → ∃ P2 : Mm → Prop, S_Mod_opens (x2 + 1) M1 P2 ∧ ∀ M2 : Mm, P2 M2 → K NM RRM 14 [(0, vr 1), (1, vi x1), (2, vi (x2 + 1)), (3, vi (x3 + 1))] [] M2)) ∧ (x4 = 30 → ((0 ≤ (x2 + 1) ∧ (x2 + 1) < 7) ∧ ∀ M3 : Mm, M3 = (upr M 24 (up1 (M 24) (x2 + 1).toNat 1)) → ∃ P4 : Mm → Prop, S_Mod_opens (x2 + 1) M3 P4 ∧ ∀ M4 : Mm, P4 M4 → K NM RRM 14 [(0, vr 1), (1, vi x1), (2, vi (x2 + 1)), (3, vi (x3 + 1))] [] M4))) :
    K NM RRM 46 [(0, vr 1), (1, vi x1), (2, vi x2), (3, vi x3), (4, vi x4)] [] M := by
  refine r_iinc h (i := 2) (v := 1) (L' := [(2, vi (x2 + 1)), (0, vr 1), (1, vi x1), (3, vi x3), (4, vi x4)]) 2 rfl (by decide) rfl (by decide +kernel : decode cX12_worked 46 = .ok (.iinc 2 1, 3)) ?_
  refine r_aloadn h (q := 0) 1 rfl (by decide +kernel : decode cX12_worked 49 = .ok (.aload_n 0, 1)) ?_
  refine r_getR h (r := 24) f_Mod_78 at1M rfl (by decide) (by decide +kernel : decode cX12_worked 50 = .ok (.getfield 78, 3)) ?_
  refine r_iloadn h (q := 2) 0 rfl (by decide +kernel : decode cX12_worked 53 = .ok (.iload_n 2, 1)) ?_
  refine r_iload h 4 rfl (by decide +kernel : decode cX12_worked 54 = .ok (.iload 4, 2)) ?_
  refine r_bipush h (v := 30) (by decide) (by decide +kernel : decode cX12_worked 56 = .ok (.bipush 30, 2)) ?_
  obtain ⟨g1, H⟩ := H
  obtain ⟨H1, H2⟩ := H
  refine r_icmp_ne h 65 g1 (by decide) (by decide) (by decide +kernel : decode cX12_worked 58 = .ok (.if_icmp .ne 7, 3)) (fun hc => ?_) (fun hc => ?_)
  · have H := H1 hc
    refine r_iconst h (v := 0) (by decide +kernel : decode cX12_worked 65 = .ok (.iconst 0, 1)) ?_
    obtain ⟨g1, H⟩ := H
    refine r_iast h (x2 + 1).toNat rfl atM_24 g1 (by decide) (by decide +kernel : decode cX12_worked 66 = .ok (.iastore, 1)) ?_
    have H := H _ rfl
    revert H
    generalize (upr M 24 (up1 (M 24) (x2 + 1).toNat 0)) = M1
    intro H
    refine r_aloadn h (q := 0) 1 rfl (by decide +kernel : decode cX12_worked 67 = .ok (.aload_n 0, 1)) ?_
    refine r_iloadn h (q := 2) 0 rfl (by decide +kernel : decode cX12_worked 68 = .ok (.iload_n 2, 1)) ?_
    obtain ⟨P2, hSP2, H⟩ := H
    refine r_callV h (as := [vi (x2 + 1)]) (S := []) (b := 1) m_Mod_233 hSP2 (by decide) (Nat.le_refl _) rfl at1M rfl (Nat.le_of_ble_eq_true rfl) (by decide +kernel : decode cX12_worked 69 = .ok (.invokevirtual 233, 3)) ?_
    rintro _ _ M2 ⟨rfl, rfl, hP⟩
    have H := H M2 hP
    show K NM RRM _ _ [] _
    refine r_goto h 329 (by decide) (by decide +kernel : decode cX12_worked 72 = .ok (.goto 257, 3)) ?_
    refine r_iinc h (i := 3) (v := 1) (L' := [(3, vi (x3 + 1)), (2, vi (x2 + 1)), (0, vr 1), (1, vi x1), (4, vi x4)]) 3 rfl (by decide) rfl (by decide +kernel : decode cX12_worked 329 = .ok (.iinc 3 1, 3)) ?_
    refine r_goto h 14 (by decide) (by decide +kernel : decode cX12_worked 332 = .ok (.goto (-318), 3)) ?_
    refine r_drop h [2, 3, 1, 0] rfl ?_
    exact H
  · have H := H2 hc
    refine r_iconst h (v := 1) (by decide +kernel : decode cX12_worked 61 = .ok (.iconst 1, 1)) ?_
    refine r_goto h 66 (by decide) (by decide +kernel : decode cX12_worked 62 = .ok (.goto 4, 3)) ?_
    obtain ⟨g1, H⟩ := H
    refine r_iast h (x2 + 1).toNat rfl atM_24 g1 (by decide) (by decide +kernel : decode cX12_worked 66 = .ok (.iastore, 1)) ?_
    have H := H _ rfl
    revert H
    generalize (upr M 24 (up1 (M 24) (x2 + 1).toNat 1)) = M3
    intro H
    refine r_aloadn h (q := 0) 1 rfl (by decide +kernel : decode cX12_worked 67 = .ok (.aload_n 0, 1)) ?_
    refine r_iloadn h (q := 2) 0 rfl (by decide +kernel : decode cX12_worked 68 = .ok (.iload_n 2, 1)) ?_
    obtain ⟨P4, hSP4, H⟩ := H
    refine r_callV h (as := [vi (x2 + 1)]) (S := []) (b := 1) m_Mod_233 hSP4 (by decide) (Nat.le_refl _) rfl at1M rfl (Nat.le_of_ble_eq_true rfl) (by decide +kernel : decode cX12_worked 69 = .ok (.invokevirtual 233, 3)) ?_
    rintro _ _ M4 ⟨rfl, rfl, hP⟩
    have H := H M4 hP
    show K NM RRM _ _ [] _
    refine r_goto h 329 (by decide) (by decide +kernel : decode cX12_worked 72 = .ok (.goto 257, 3)) ?_
    refine r_iinc h (i := 3) (v := 1) (L' := [(3, vi (x3 + 1)), (2, vi (x2 + 1)), (0, vr 1), (1, vi x1), (4, vi x4)]) 3 rfl (by decide) rfl (by decide +kernel : decode cX12_worked 329 = .ok (.iinc 3 1, 3)) ?_
    refine r_goto h 14 (by decide) (by decide +kernel : decode cX12_worked 332 = .ok (.goto (-318), 3)) ?_
    refine r_drop h [2, 3, 1, 0] rfl ?_
    exact H
set_option maxHeartbeats 4000000 in
set_option maxRecDepth 100000 in
theorem w_Mod_worked_89 {P : Int → Mm → Prop} {K : Nat → Rr → Nat → List (Nat × AV) → List AV → Mm → Prop} (h : EK shM yX12_worked cX12_worked 6 (some .int) 3 NM NM (QI RRM P) K) (x1 : Int) (x2 : Int) (x3 : Int) (x4 : Int) (M : Mm)
    (H : ∃ P1 : Mm → Prop, S_Mod_sums x2 M P1 ∧ ∀ M1 : Mm, P1 M1 → (0 ≤ x2 ∧ x2 < 7) ∧ ∀ M2 : Mm, M2 = (upr M1 21 (up1 (M1 21) x2.toNat x4)) → K NM RRM 14 [(0, vr 1), (1, vi x1), (2, vi x2), (3, vi (x3 + 1))] [] M2) :
    K NM RRM 89 [(0, vr 1), (1, vi x1), (2, vi x2), (3, vi x3), (4, vi x4)] [] M := by
  refine r_aloadn h (q := 0) 0 rfl (by decide +kernel : decode cX12_worked 89 = .ok (.aload_n 0, 1)) ?_
  refine r_iloadn h (q := 2) 2 rfl (by decide +kernel : decode cX12_worked 90 = .ok (.iload_n 2, 1)) ?_
  obtain ⟨P1, hSP1, H⟩ := H
  refine r_callV h (as := [vi x2]) (S := []) (b := 1) m_Mod_230 hSP1 (by decide) (Nat.le_refl _) rfl at1M rfl (Nat.le_of_ble_eq_true rfl) (by decide +kernel : decode cX12_worked 91 = .ok (.invokevirtual 230, 3)) ?_
  rintro _ _ M1 ⟨rfl, rfl, hP⟩
  have H := H M1 hP
  show K NM RRM _ _ [] _
  refine r_aloadn h (q := 0) 0 rfl (by decide +kernel : decode cX12_worked 94 = .ok (.aload_n 0, 1)) ?_
  refine r_getR h (r := 21) f_Mod_69 at1M rfl (by decide) (by decide +kernel : decode cX12_worked 95 = .ok (.getfield 69, 3)) ?_
  refine r_iloadn h (q := 2) 2 rfl (by decide +kernel : decode cX12_worked 98 = .ok (.iload_n 2, 1)) ?_
  refine r_iload h 4 rfl (by decide +kernel : decode cX12_worked 99 = .ok (.iload 4, 2)) ?_
  obtain ⟨g1, H⟩ := H
  refine r_iast h x2.toNat rfl atM_21 g1 (by decide) (by decide +kernel : decode cX12_worked 101 = .ok (.iastore, 1)) ?_
  have H := H _ rfl
  revert H
  generalize (upr M1 21 (up1 (M1 21) x2.toNat x4)) = M2
  intro H
  refine r_goto h 329 (by decide) (by decide +kernel : decode cX12_worked 102 = .ok (.goto 227, 3)) ?_
  refine r_iinc h (i := 3) (v := 1) (L' := [(3, vi (x3 + 1)), (0, vr 1), (1, vi x1), (2, vi x2), (4, vi x4)]) 3 rfl (by decide) rfl (by decide +kernel : decode cX12_worked 329 = .ok (.iinc 3 1, 3)) ?_
  refine r_goto h 14 (by decide) (by decide +kernel : decode cX12_worked 332 = .ok (.goto (-318), 3)) ?_
  refine r_drop h [1, 2, 3, 0] rfl ?_
  exact H
set_option maxHeartbeats 4000000 in
set_option maxRecDepth 100000 in
theorem w_Mod_worked_137 {P : Int → Mm → Prop} {K : Nat → Rr → Nat → List (Nat × AV) → List AV → Mm → Prop} (h : EK shM yX12_worked cX12_worked 6 (some .int) 3 NM NM (QI RRM P) K) (x1 : Int) (x2 : Int) (x3 : Int) (x4 : Int) (M : Mm)
    (H : ∃ P1 : Mm → Prop, S_Mod_sums x2 M P1 ∧ ∀ M1 : Mm, P1 M1 → (0 ≤ x2 ∧ x2 < 7) ∧ (0 ≤ x2 ∧ x2 < 7) ∧ ∀ M2 : Mm, M2 = (upr M1 18 (up1 (M1 18) x2.toNat (M1 20 x2.toNat))) → (0 ≤ x2 ∧ x2 < 7) ∧ ∀ M3 : Mm, M3 = (upr M2 19 (up1 (M2 19) x2.toNat x4)) → (0 ≤ x2 ∧ x2 < 7) ∧ ∀ M4 : Mm, M4 = (upr M3 20 (up1 (M3 20) x2.toNat 0)) → (0 ≤ x2 ∧ x2 < 7) ∧ ∀ M5 : Mm, M5 = (upr M4 21 (up1 (M4 21) x2.toNat 20)) → K NM RRM 14 [(0, vr 1), (1, vi x1), (2, vi x2), (3, vi (x3 + 1))] [] M5) :
    K NM RRM 137 [(0, vr 1), (1, vi x1), (2, vi x2), (3, vi x3), (4, vi x4)] [] M := by
  refine r_aloadn h (q := 0) 0 rfl (by decide +kernel : decode cX12_worked 137 = .ok (.aload_n 0, 1)) ?_
  refine r_iloadn h (q := 2) 2 rfl (by decide +kernel : decode cX12_worked 138 = .ok (.iload_n 2, 1)) ?_
  obtain ⟨P1, hSP1, H⟩ := H
  refine r_callV h (as := [vi x2]) (S := []) (b := 1) m_Mod_230 hSP1 (by decide) (Nat.le_refl _) rfl at1M rfl (Nat.le_of_ble_eq_true rfl) (by decide +kernel : decode cX12_worked 139 = .ok (.invokevirtual 230, 3)) ?_
  rintro _ _ M1 ⟨rfl, rfl, hP⟩
  have H := H M1 hP
  show K NM RRM _ _ [] _
  refine r_aloadn h (q := 0) 0 rfl (by decide +kernel : decode cX12_worked 142 = .ok (.aload_n 0, 1)) ?_
  refine r_getR h (r := 18) f_Mod_60 at1M rfl (by decide) (by decide +kernel : decode cX12_worked 143 = .ok (.getfield 60, 3)) ?_
  refine r_iloadn h (q := 2) 2 rfl (by decide +kernel : decode cX12_worked 146 = .ok (.iload_n 2, 1)) ?_
  refine r_aloadn h (q := 0) 0 rfl (by decide +kernel : decode cX12_worked 147 = .ok (.aload_n 0, 1)) ?_
  refine r_getR h (r := 20) f_Mod_66 at1M rfl (by decide) (by decide +kernel : decode cX12_worked 148 = .ok (.getfield 66, 3)) ?_
  refine r_iloadn h (q := 2) 2 rfl (by decide +kernel : decode cX12_worked 151 = .ok (.iload_n 2, 1)) ?_
  obtain ⟨g1, H⟩ := H
  refine r_iald h x2.toNat rfl atM_20 g1 (by decide) (by decide +kernel : decode cX12_worked 152 = .ok (.iaload, 1)) ?_
  obtain ⟨g1, H⟩ := H
  refine r_iast h x2.toNat rfl atM_18 g1 (by decide) (by decide +kernel : decode cX12_worked 153 = .ok (.iastore, 1)) ?_
  have H := H _ rfl
  revert H
  generalize (upr M1 18 (up1 (M1 18) x2.toNat (M1 20 x2.toNat))) = M2
  intro H
  refine r_aloadn h (q := 0) 0 rfl (by decide +kernel : decode cX12_worked 154 = .ok (.aload_n 0, 1)) ?_
  refine r_getR h (r := 19) f_Mod_63 at1M rfl (by decide) (by decide +kernel : decode cX12_worked 155 = .ok (.getfield 63, 3)) ?_
  refine r_iloadn h (q := 2) 2 rfl (by decide +kernel : decode cX12_worked 158 = .ok (.iload_n 2, 1)) ?_
  refine r_iload h 4 rfl (by decide +kernel : decode cX12_worked 159 = .ok (.iload 4, 2)) ?_
  obtain ⟨g1, H⟩ := H
  refine r_iast h x2.toNat rfl atM_19 g1 (by decide) (by decide +kernel : decode cX12_worked 161 = .ok (.iastore, 1)) ?_
  have H := H _ rfl
  revert H
  generalize (upr M2 19 (up1 (M2 19) x2.toNat x4)) = M3
  intro H
  refine r_aloadn h (q := 0) 0 rfl (by decide +kernel : decode cX12_worked 162 = .ok (.aload_n 0, 1)) ?_
  refine r_getR h (r := 20) f_Mod_66 at1M rfl (by decide) (by decide +kernel : decode cX12_worked 163 = .ok (.getfield 66, 3)) ?_
  refine r_iloadn h (q := 2) 2 rfl (by decide +kernel : decode cX12_worked 166 = .ok (.iload_n 2, 1)) ?_
  refine r_iconst h (v := 0) (by decide +kernel : decode cX12_worked 167 = .ok (.iconst 0, 1)) ?_
  obtain ⟨g1, H⟩ := H
  refine r_iast h x2.toNat rfl atM_20 g1 (by decide) (by decide +kernel : decode cX12_worked 168 = .ok (.iastore, 1)) ?_
  have H := H _ rfl
  revert H
  generalize (upr M3 20 (up1 (M3 20) x2.toNat 0)) = M4
  intro H
  refine r_aloadn h (q := 0) 0 rfl (by decide +kernel : decode cX12_worked 169 = .ok (.aload_n 0, 1)) ?_
  refine r_getR h (r := 21) f_Mod_69 at1M rfl (by decide) (by decide +kernel : decode cX12_worked 170 = .ok (.getfield 69, 3)) ?_
  refine r_iloadn h (q := 2) 2 rfl (by decide +kernel : decode cX12_worked 173 = .ok (.iload_n 2, 1)) ?_
  refine r_bipush h (v := 20) (by decide) (by decide +kernel : decode cX12_worked 174 = .ok (.bipush 20, 2)) ?_
  obtain ⟨g1, H⟩ := H
  refine r_iast h x2.toNat rfl atM_21 g1 (by decide) (by decide +kernel : decode cX12_worked 176 = .ok (.iastore, 1)) ?_
  have H := H _ rfl
  revert H
  generalize (upr M4 21 (up1 (M4 21) x2.toNat 20)) = M5
  intro H
  refine r_goto h 329 (by decide) (by decide +kernel : decode cX12_worked 177 = .ok (.goto 152, 3)) ?_
  refine r_iinc h (i := 3) (v := 1) (L' := [(3, vi (x3 + 1)), (0, vr 1), (1, vi x1), (2, vi x2), (4, vi x4)]) 3 rfl (by decide) rfl (by decide +kernel : decode cX12_worked 329 = .ok (.iinc 3 1, 3)) ?_
  refine r_goto h 14 (by decide) (by decide +kernel : decode cX12_worked 332 = .ok (.goto (-318), 3)) ?_
  refine r_drop h [1, 2, 3, 0] rfl ?_
  exact H
set_option maxHeartbeats 4000000 in
set_option maxRecDepth 100000 in
theorem w_Mod_worked_194 {P : Int → Mm → Prop} {K : Nat → Rr → Nat → List (Nat × AV) → List AV → Mm → Prop} (h : EK shM yX12_worked cX12_worked 6 (some .int) 3 NM NM (QI RRM P) K) (x1 : Int) (x2 : Int) (x3 : Int) (x4 : Int) (M : Mm)
    (H : ∃ P1 : Mm → Prop, S_Mod_tests x2 M P1 ∧ ∀ M1 : Mm, P1 M1 → (0 ≤ x2 ∧ x2 < 7) ∧ ∀ M2 : Mm, M2 = (upr M1 17 (up1 (M1 17) x2.toNat x4)) → K NM RRM 14 [(0, vr 1), (1, vi x1), (2, vi x2), (3, vi (x3 + 1))] [] M2) :
    K NM RRM 194 [(0, vr 1), (1, vi x1), (2, vi x2), (3, vi x3), (4, vi x4)] [] M := by
  refine r_aloadn h (q := 0) 0 rfl (by decide +kernel : decode cX12_worked 194 = .ok (.aload_n 0, 1)) ?_
  refine r_iloadn h (q := 2) 2 rfl (by decide +kernel : decode cX12_worked 195 = .ok (.iload_n 2, 1)) ?_
  obtain ⟨P1, hSP1, H⟩ := H
  refine r_callV h (as := [vi x2]) (S := []) (b := 1) m_Mod_236 hSP1 (by decide) (Nat.le_refl _) rfl at1M rfl (Nat.le_of_ble_eq_true rfl) (by decide +kernel : decode cX12_worked 196 = .ok (.invokevirtual 236, 3)) ?_
  rintro _ _ M1 ⟨rfl, rfl, hP⟩
  have H := H M1 hP
  show K NM RRM _ _ [] _
  refine r_aloadn h (q := 0) 0 rfl (by decide +kernel : decode cX12_worked 199 = .ok (.aload_n 0, 1)) ?_
  refine r_getR h (r := 17) f_Mod_57 at1M rfl (by decide) (by decide +kernel : decode cX12_worked 200 = .ok (.getfield 57, 3)) ?_
  refine r_iloadn h (q := 2) 2 rfl (by decide +kernel : decode cX12_worked 203 = .ok (.iload_n 2, 1)) ?_
  refine r_iload h 4 rfl (by decide +kernel : decode cX12_worked 204 = .ok (.iload 4, 2)) ?_
  obtain ⟨g1, H⟩ := H
  refine r_iast h x2.toNat rfl atM_17 g1 (by decide) (by decide +kernel : decode cX12_worked 206 = .ok (.iastore, 1)) ?_
  have H := H _ rfl
  revert H
  generalize (upr M1 17 (up1 (M1 17) x2.toNat x4)) = M2
  intro H
  refine r_goto h 329 (by decide) (by decide +kernel : decode cX12_worked 207 = .ok (.goto 122, 3)) ?_
  refine r_iinc h (i := 3) (v := 1) (L' := [(3, vi (x3 + 1)), (0, vr 1), (1, vi x1), (2, vi x2), (4, vi x4)]) 3 rfl (by decide) rfl (by decide +kernel : decode cX12_worked 329 = .ok (.iinc 3 1, 3)) ?_
  refine r_goto h 14 (by decide) (by decide +kernel : decode cX12_worked 332 = .ok (.goto (-318), 3)) ?_
  refine r_drop h [1, 2, 3, 0] rfl ?_
  exact H
set_option maxHeartbeats 4000000 in
set_option maxRecDepth 100000 in
theorem w_Mod_worked_243 {P : Int → Mm → Prop} {K : Nat → Rr → Nat → List (Nat × AV) → List AV → Mm → Prop} (h : EK shM yX12_worked cX12_worked 6 (some .int) 3 NM NM (QI RRM P) K) (x1 : Int) (x2 : Int) (x3 : Int) (x4 : Int) (s0 : Int) (M : Mm)
    (H : (rng x4) ∧ (x4 ≠ 29 → (K NM RRM 268 [(0, vr 1), (1, vi x1), (2, vi x2), (3, vi x3), (5, vi s0)] [] M)) ∧ (x4 = 29 → (∃ P1 : Mm → Prop, S_Mod_tests x2 M P1 ∧ ∀ M1 : Mm, P1 M1 → (0 ≤ x2 ∧ x2 < 7) ∧ K NM RRM 268 [(0, vr 1), (1, vi x1), (2, vi (x2 + (-1))), (3, vi x3), (5, vi (M1 16 x2.toNat))] [] M1))) :
    K NM RRM 243 [(0, vr 1), (1, vi x1), (2, vi x2), (3, vi x3), (4, vi x4)] [vi s0] M := by
  refine r_istore h (L' := [(5, vi s0), (0, vr 1), (1, vi x1), (2, vi x2), (3, vi x3), (4, vi x4)]) (by decide) rfl (by decide +kernel : decode cX12_worked 243 = .ok (.istore 5, 2)) ?_
  refine r_iload h 5 rfl (by decide +kernel : decode cX12_worked 245 = .ok (.iload 4, 2)) ?_
  refine r_bipush h (v := 29) (by decide) (by decide +kernel : decode cX12_worked 247 = .ok (.bipush 29, 2)) ?_
  obtain ⟨g1, H⟩ := H
  obtain ⟨H1, H2⟩ := H
  refine r_icmp_ne h 268 g1 (by decide) (by decide) (by decide +kernel : decode cX12_worked 249 = .ok (.if_icmp .ne 19, 3)) (fun hc => ?_) (fun hc => ?_)
  · have H := H1 hc
    refine r_drop h [1, 2, 3, 4, 0] rfl ?_
    exact H
  · have H := H2 hc
    refine r_aloadn h (q := 0) 1 rfl (by decide +kernel : decode cX12_worked 252 = .ok (.aload_n 0, 1)) ?_
    refine r_iloadn h (q := 2) 3 rfl (by decide +kernel : decode cX12_worked 253 = .ok (.iload_n 2, 1)) ?_
    obtain ⟨P1, hSP1, H⟩ := H
    refine r_callV h (as := [vi x2]) (S := []) (b := 1) m_Mod_236 hSP1 (by decide) (Nat.le_refl _) rfl at1M rfl (Nat.le_of_ble_eq_true rfl) (by decide +kernel : decode cX12_worked 254 = .ok (.invokevirtual 236, 3)) ?_
    rintro _ _ M1 ⟨rfl, rfl, hP⟩
    have H := H M1 hP
    show K NM RRM _ _ [] _
    refine r_aloadn h (q := 0) 1 rfl (by decide +kernel : decode cX12_worked 257 = .ok (.aload_n 0, 1)) ?_
    refine r_getR h (r := 16) f_Mod_54 at1M rfl (by decide) (by decide +kernel : decode cX12_worked 258 = .ok (.getfield 54, 3)) ?_
    refine r_iloadn h (q := 2) 3 rfl (by decide +kernel : decode cX12_worked 261 = .ok (.iload_n 2, 1)) ?_
    obtain ⟨g1, H⟩ := H
    refine r_iald h x2.toNat rfl atM_16 g1 (by decide) (by decide +kernel : decode cX12_worked 262 = .ok (.iaload, 1)) ?_
    refine r_istore h (L' := [(5, vi (M1 16 x2.toNat)), (0, vr 1), (1, vi x1), (2, vi x2), (3, vi x3), (4, vi x4)]) (by decide) rfl (by decide +kernel : decode cX12_worked 263 = .ok (.istore 5, 2)) ?_
    refine r_iinc h (i := 2) (v := (-1)) (L' := [(2, vi (x2 + (-1))), (5, vi (M1 16 x2.toNat)), (0, vr 1), (1, vi x1), (3, vi x3), (4, vi x4)]) 3 rfl (by decide) rfl (by decide +kernel : decode cX12_worked 265 = .ok (.iinc 2 (-1), 3)) ?_
    refine r_drop h [2, 3, 0, 4, 1] rfl ?_
    exact H
set_option maxHeartbeats 4000000 in
set_option maxRecDepth 100000 in
theorem w_Mod_worked_268 {P : Int → Mm → Prop} {K : Nat → Rr → Nat → List (Nat × AV) → List AV → Mm → Prop} (h : EK shM yX12_worked cX12_worked 6 (some .int) 3 NM NM (QI RRM P) K) (x1 : Int) (x2 : Int) (x3 : Int) (x5 : Int) (M : Mm)
    (H : (rng x2) ∧ (x2 ≤ 0 → (K NM RRM 300 [(0, vr 1), (1, vi x1), (2, vi x2), (3, vi x3), (5, vi x5)] [] M)) ∧ (¬ (x2 ≤ 0) → ((0 ≤ x2 ∧ x2 < 7) ∧ (rng (M 24 x2.toNat)) ∧ ((M 24 x2.toNat) ≠ 1 → (K NM RRM 300 [(0, vr 1), (1, vi x1), (2, vi x2), (3, vi x3), (5, vi x5)] [] M)) ∧ ((M 24 x2.toNat) = 1 → ((rng x5) ∧ (x5 ≠ 0 → (K NM RRM 268 [(0, vr 1), (1, vi x1), (2, vi (x2 + (-1))), (3, vi x3), (5, vi 0)] [] M)) ∧ (x5 = 0 → (K NM RRM 268 [(0, vr 1), (1, vi x1), (2, vi (x2 + (-1))), (3, vi x3), (5, vi 1)] [] M))))))) :
    K NM RRM 268 [(0, vr 1), (1, vi x1), (2, vi x2), (3, vi x3), (5, vi x5)] [] M := by
  refine r_iloadn h (q := 2) 2 rfl (by decide +kernel : decode cX12_worked 268 = .ok (.iload_n 2, 1)) ?_
  obtain ⟨g1, H⟩ := H
  obtain ⟨H1, H2⟩ := H
  refine r_if_le h 300 g1 (by decide) (by decide +kernel : decode cX12_worked 269 = .ok (.ifCond .le 31, 3)) (fun hc => ?_) (fun hc => ?_)
  · have H := H1 hc
    exact H
  · have H := H2 hc
    refine r_aloadn h (q := 0) 0 rfl (by decide +kernel : decode cX12_worked 272 = .ok (.aload_n 0, 1)) ?_
    refine r_getR h (r := 24) f_Mod_78 at1M rfl (by decide) (by decide +kernel : decode cX12_worked 273 = .ok (.getfield 78, 3)) ?_
    refine r_iloadn h (q := 2) 2 rfl (by decide +kernel : decode cX12_worked 276 = .ok (.iload_n 2, 1)) ?_
    obtain ⟨g1, H⟩ := H
    refine r_iald h x2.toNat rfl atM_24 g1 (by decide) (by decide +kernel : decode cX12_worked 277 = .ok (.iaload, 1)) ?_
    refine r_iconst h (v := 1) (by decide +kernel : decode cX12_worked 278 = .ok (.iconst 1, 1)) ?_
    obtain ⟨g1, H⟩ := H
    obtain ⟨H1, H2⟩ := H
    refine r_icmp_ne h 300 g1 (by decide) (by decide) (by decide +kernel : decode cX12_worked 279 = .ok (.if_icmp .ne 21, 3)) (fun hc => ?_) (fun hc => ?_)
    · have H := H1 hc
      exact H
    · have H := H2 hc
      refine r_iload h 4 rfl (by decide +kernel : decode cX12_worked 282 = .ok (.iload 5, 2)) ?_
      obtain ⟨g1, H⟩ := H
      obtain ⟨H1, H2⟩ := H
      refine r_if_ne h 291 g1 (by decide) (by decide +kernel : decode cX12_worked 284 = .ok (.ifCond .ne 7, 3)) (fun hc => ?_) (fun hc => ?_)
      · have H := H1 hc
        refine r_iconst h (v := 0) (by decide +kernel : decode cX12_worked 291 = .ok (.iconst 0, 1)) ?_
        refine r_istore h (L' := [(5, vi 0), (0, vr 1), (1, vi x1), (2, vi x2), (3, vi x3)]) (by decide) rfl (by decide +kernel : decode cX12_worked 292 = .ok (.istore 5, 2)) ?_
        refine r_iinc h (i := 2) (v := (-1)) (L' := [(2, vi (x2 + (-1))), (5, vi 0), (0, vr 1), (1, vi x1), (3, vi x3)]) 3 rfl (by decide) rfl (by decide +kernel : decode cX12_worked 294 = .ok (.iinc 2 (-1), 3)) ?_
        refine r_goto h 268 (by decide) (by decide +kernel : decode cX12_worked 297 = .ok (.goto (-29), 3)) ?_
        refine r_drop h [2, 3, 0, 4, 1] rfl ?_
        exact H
      · have H := H2 hc
        refine r_iconst h (v := 1) (by decide +kernel : decode cX12_worked 287 = .ok (.iconst 1, 1)) ?_
        refine r_goto h 292 (by decide) (by decide +kernel : decode cX12_worked 288 = .ok (.goto 4, 3)) ?_
        refine r_istore h (L' := [(5, vi 1), (0, vr 1), (1, vi x1), (2, vi x2), (3, vi x3)]) (by decide) rfl (by decide +kernel : decode cX12_worked 292 = .ok (.istore 5, 2)) ?_
        refine r_iinc h (i := 2) (v := (-1)) (L' := [(2, vi (x2 + (-1))), (5, vi 1), (0, vr 1), (1, vi x1), (3, vi x3)]) 3 rfl (by decide) rfl (by decide +kernel : decode cX12_worked 294 = .ok (.iinc 2 (-1), 3)) ?_
        refine r_goto h 268 (by decide) (by decide +kernel : decode cX12_worked 297 = .ok (.goto (-29), 3)) ?_
        refine r_drop h [2, 3, 0, 4, 1] rfl ?_
        exact H
set_option maxHeartbeats 4000000 in
set_option maxRecDepth 100000 in
theorem w_Mod_worked_300 {P : Int → Mm → Prop} {K : Nat → Rr → Nat → List (Nat × AV) → List AV → Mm → Prop} (h : EK shM yX12_worked cX12_worked 6 (some .int) 3 NM NM (QI RRM P) K) (x1 : Int) (x2 : Int) (x3 : Int) (x5 : Int) (M : Mm)
    (H : (0 ≤ x2 ∧ x2 < 7) ∧ (rng (M 23 x2.toNat)) ∧ ((M 23 x2.toNat) ≠ 0 → ((0 ≤ x2 ∧ x2 < 7) ∧ (0 ≤ x2 ∧ x2 < 7) ∧ ∀ M1 : Mm, M1 = (upr M 22 (up1 (M 22) x2.toNat (mulW (M 22 x2.toNat) x5))) → K NM RRM 14 [(0, vr 1), (1, vi x1), (2, vi x2), (3, vi (x3 + 1))] [] M1)) ∧ ((M 23 x2.toNat) = 0 → ((0 ≤ x2 ∧ x2 < 7) ∧ ∀ M2 : Mm, M2 = (upr M 22 (up1 (M 22) x2.toNat x5)) → K NM RRM 14 [(0, vr 1), (1, vi x1), (2, vi x2), (3, vi (x3 + 1))] [] M2))) :
    K NM RRM 300 [(0, vr 1), (1, vi x1), (2, vi x2), (3, vi x3), (5, vi x5)] [] M := by
  refine r_aloadn h (q := 0) 0 rfl (by decide +kernel : decode cX12_worked 300 = .ok (.aload_n 0, 1)) ?_
  refine r_getR h (r := 22) f_Mod_72 at1M rfl (by decide) (by decide +kernel : decode cX12_worked 301 = .ok (.getfield 72, 3)) ?_
  refine r_iloadn h (q := 2) 2 rfl (by decide +kernel : decode cX12_worked 304 = .ok (.iload_n 2, 1)) ?_
  refine r_aloadn h (q := 0) 0 rfl (by decide +kernel : decode cX12_worked 305 = .ok (.aload_n 0, 1)) ?_
  refine r_getR h (r := 23) f_Mod_75 at1M rfl (by decide) (by decide +kernel : decode cX12_worked 306 = .ok (.getfield 75, 3)) ?_
  refine r_iloadn h (q := 2) 2 rfl (by decide +kernel : decode cX12_worked 309 = .ok (.iload_n 2, 1)) ?_
  obtain ⟨g1, H⟩ := H
  refine r_iald h x2.toNat rfl atM_23 g1 (by decide) (by decide +kernel : decode cX12_worked 310 = .ok (.iaload, 1)) ?_
  obtain ⟨g1, H⟩ := H
  obtain ⟨H1, H2⟩ := H
  refine r_if_ne h 319 g1 (by decide) (by decide +kernel : decode cX12_worked 311 = .ok (.ifCond .ne 8, 3)) (fun hc => ?_) (fun hc => ?_)
  · have H := H1 hc
    refine r_aloadn h (q := 0) 0 rfl (by decide +kernel : decode cX12_worked 319 = .ok (.aload_n 0, 1)) ?_
    refine r_getR h (r := 22) f_Mod_72 at1M rfl (by decide) (by decide +kernel : decode cX12_worked 320 = .ok (.getfield 72, 3)) ?_
    refine r_iloadn h (q := 2) 2 rfl (by decide +kernel : decode cX12_worked 323 = .ok (.iload_n 2, 1)) ?_
    obtain ⟨g1, H⟩ := H
    refine r_iald h x2.toNat rfl atM_22 g1 (by decide) (by decide +kernel : decode cX12_worked 324 = .ok (.iaload, 1)) ?_
    refine r_iload h 4 rfl (by decide +kernel : decode cX12_worked 325 = .ok (.iload 5, 2)) ?_
    refine r_imulW h (by decide +kernel : decode cX12_worked 327 = .ok (.imul, 1)) ?_
    obtain ⟨g1, H⟩ := H
    refine r_iast h x2.toNat rfl atM_22 g1 (by decide) (by decide +kernel : decode cX12_worked 328 = .ok (.iastore, 1)) ?_
    have H := H _ rfl
    revert H
    generalize (upr M 22 (up1 (M 22) x2.toNat (mulW (M 22 x2.toNat) x5))) = M1
    intro H
    refine r_iinc h (i := 3) (v := 1) (L' := [(3, vi (x3 + 1)), (0, vr 1), (1, vi x1), (2, vi x2), (5, vi x5)]) 3 rfl (by decide) rfl (by decide +kernel : decode cX12_worked 329 = .ok (.iinc 3 1, 3)) ?_
    refine r_goto h 14 (by decide) (by decide +kernel : decode cX12_worked 332 = .ok (.goto (-318), 3)) ?_
    refine r_drop h [1, 2, 3, 0] rfl ?_
    exact H
  · have H := H2 hc
    refine r_iload h 4 rfl (by decide +kernel : decode cX12_worked 314 = .ok (.iload 5, 2)) ?_
    refine r_goto h 328 (by decide) (by decide +kernel : decode cX12_worked 316 = .ok (.goto 12, 3)) ?_
    obtain ⟨g1, H⟩ := H
    refine r_iast h x2.toNat rfl atM_22 g1 (by decide) (by decide +kernel : decode cX12_worked 328 = .ok (.iastore, 1)) ?_
    have H := H _ rfl
    revert H
    generalize (upr M 22 (up1 (M 22) x2.toNat x5)) = M2
    intro H
    refine r_iinc h (i := 3) (v := 1) (L' := [(3, vi (x3 + 1)), (0, vr 1), (1, vi x1), (2, vi x2), (5, vi x5)]) 3 rfl (by decide) rfl (by decide +kernel : decode cX12_worked 329 = .ok (.iinc 3 1, 3)) ?_
    refine r_goto h 14 (by decide) (by decide +kernel : decode cX12_worked 332 = .ok (.goto (-318), 3)) ?_
    refine r_drop h [1, 2, 3, 0] rfl ?_
    exact H
set_option maxHeartbeats 4000000 in
set_option maxRecDepth 100000 in
theorem w_Mod_needsNumber_0 {P : Int → Mm → Prop} {K : Nat → Rr → Nat → List (Nat × AV) → List AV → Mm → Prop} (h : EK shM yX12_needsNumber cX12_needsNumber 3 (some .boolean) 3 NM NM (QI RRM P) K) (x1 : Int) (x2 : Int) (M : Mm)
    (H : (rng (M 1 6)) ∧ ((M 1 6) = 2 → (∃ P1 : Int → Mm → Prop, S_Mod_within (M 1 8) x1 x2 M P1 ∧ ∀ (r1 : Int) (M1 : Mm), P1 r1 M1 → (rng r1) ∧ (r1 ≠ 0 → (∀ M2 : Mm, M2 = (upr M1 1 (up1 (M1 1) 36 (M1 1 8))) → ∃ P3 : Mm → Prop, S_Mod_nextToken  M2 P3 ∧ ∀ M3 : Mm, P3 M3 → P 1 M3)) ∧ (r1 = 0 → (∃ P4 : Int → Mm → Prop, S_Mod_fails 4 M1 P4 ∧ ∀ (r3 : Int) (M4 : Mm), P4 r3 M4 → (r3 = 0 ∨ r3 = 1) ∧ P r3 M4)))) ∧ ((M 1 6) ≠ 2 → (∃ P5 : Int → Mm → Prop, S_Mod_fails 1 M P5 ∧ ∀ (r4 : Int) (M5 : Mm), P5 r4 M5 → (r4 = 0 ∨ r4 = 1) ∧ P r4 M5))) :
    K NM RRM 0 [(0, vr 1), (1, vi x1), (2, vi x2)] [] M := by
  refine r_aloadn h (q := 0) 0 rfl (by decide +kernel : decode cX12_needsNumber 0 = .ok (.aload_n 0, 1)) ?_
  refine r_getI h f_Mod_172 at1M (by decide +kernel : decode cX12_needsNumber 1 = .ok (.getfield 172, 3)) ?_
  refine r_iconst h (v := 2) (by decide +kernel : decode cX12_needsNumber 4 = .ok (.iconst 2, 1)) ?_
  obtain ⟨g1, H⟩ := H
  obtain ⟨H1, H2⟩ := H
  refine r_icmp_eq h 14 g1 (by decide) (by decide) (by decide +kernel : decode cX12_needsNumber 5 = .ok (.if_icmp .eq 9, 3)) (fun hc => ?_) (fun hc => ?_)
  · have H := H1 hc
    refine r_aloadn h (q := 0) 0 rfl (by decide +kernel : decode cX12_needsNumber 14 = .ok (.aload_n 0, 1)) ?_
    refine r_getI h f_Mod_169 at1M (by decide +kernel : decode cX12_needsNumber 15 = .ok (.getfield 169, 3)) ?_
    refine r_iloadn h (q := 1) 1 rfl (by decide +kernel : decode cX12_needsNumber 18 = .ok (.iload_n 1, 1)) ?_
    refine r_iloadn h (q := 2) 2 rfl (by decide +kernel : decode cX12_needsNumber 19 = .ok (.iload_n 2, 1)) ?_
    obtain ⟨P1, hSP1, H⟩ := H
    refine r_callS h (as := [vi (M 1 8), vi x1, vi x2]) (S := []) m_Mod_275 hSP1 (by decide) (Nat.le_refl _) rfl rfl (Nat.le_of_ble_eq_true rfl) (by decide +kernel : decode cX12_needsNumber 20 = .ok (.invokestatic 275, 3)) ?_
    rintro _ _ M1 ⟨rfl, r1, rfl, hP⟩
    have H := H r1 M1 hP
    show K NM RRM _ _ [vi r1] _
    obtain ⟨g1, H⟩ := H
    obtain ⟨H1, H2⟩ := H
    refine r_if_ne h 32 g1 (by decide) (by decide +kernel : decode cX12_needsNumber 23 = .ok (.ifCond .ne 9, 3)) (fun hc => ?_) (fun hc => ?_)
    · have H := H1 hc
      refine r_aloadn h (q := 0) 0 rfl (by decide +kernel : decode cX12_needsNumber 32 = .ok (.aload_n 0, 1)) ?_
      refine r_aloadn h (q := 0) 0 rfl (by decide +kernel : decode cX12_needsNumber 33 = .ok (.aload_n 0, 1)) ?_
      refine r_getI h f_Mod_169 at1M (by decide +kernel : decode cX12_needsNumber 34 = .ok (.getfield 169, 3)) ?_
      refine r_putI h f_Mod_279 at1M rfl rfl (by decide +kernel : decode cX12_needsNumber 37 = .ok (.putfield 279, 3)) ?_
      have H := H _ rfl
      revert H
      generalize (upr M1 1 (up1 (M1 1) 36 (M1 1 8))) = M2
      intro H
      refine r_aloadn h (q := 0) 0 rfl (by decide +kernel : decode cX12_needsNumber 40 = .ok (.aload_n 0, 1)) ?_
      obtain ⟨P3, hSP3, H⟩ := H
      refine r_callV h (as := []) (S := []) (b := 1) m_Mod_223 hSP3 (by decide) (Nat.le_refl _) rfl at1M rfl (Nat.le_of_ble_eq_true rfl) (by decide +kernel : decode cX12_needsNumber 41 = .ok (.invokevirtual 223, 3)) ?_
      rintro _ _ M3 ⟨rfl, rfl, hP⟩
      have H := H M3 hP
      show K NM RRM _ _ [] _
      refine r_iconst h (v := 1) (by decide +kernel : decode cX12_needsNumber 44 = .ok (.iconst 1, 1)) ?_
      exact r_zret h rfl (by decide) (by decide +kernel : decode cX12_needsNumber 45 = .ok (.ireturn, 1)) rfl ⟨rfl, _, rfl, H⟩
    · have H := H2 hc
      refine r_aloadn h (q := 0) 0 rfl (by decide +kernel : decode cX12_needsNumber 26 = .ok (.aload_n 0, 1)) ?_
      refine r_iconst h (v := 4) (by decide +kernel : decode cX12_needsNumber 27 = .ok (.iconst 4, 1)) ?_
      obtain ⟨P4, hSP4, H⟩ := H
      refine r_callV h (as := [vi 4]) (S := []) (b := 1) m_Mod_216 hSP4 (by decide) (Nat.le_refl _) rfl at1M rfl (Nat.le_of_ble_eq_true rfl) (by decide +kernel : decode cX12_needsNumber 28 = .ok (.invokevirtual 216, 3)) ?_
      rintro _ _ M4 ⟨rfl, r3, rfl, hP⟩
      have H := H r3 M4 hP
      show K NM RRM _ _ [vi r3] _
      exact r_zret h rfl H.1 (by decide +kernel : decode cX12_needsNumber 31 = .ok (.ireturn, 1)) rfl ⟨rfl, _, rfl, H.2⟩
  · have H := H2 hc
    refine r_aloadn h (q := 0) 0 rfl (by decide +kernel : decode cX12_needsNumber 8 = .ok (.aload_n 0, 1)) ?_
    refine r_iconst h (v := 1) (by decide +kernel : decode cX12_needsNumber 9 = .ok (.iconst 1, 1)) ?_
    obtain ⟨P5, hSP5, H⟩ := H
    refine r_callV h (as := [vi 1]) (S := []) (b := 1) m_Mod_216 hSP5 (by decide) (Nat.le_refl _) rfl at1M rfl (Nat.le_of_ble_eq_true rfl) (by decide +kernel : decode cX12_needsNumber 10 = .ok (.invokevirtual 216, 3)) ?_
    rintro _ _ M5 ⟨rfl, r4, rfl, hP⟩
    have H := H r4 M5 hP
    show K NM RRM _ _ [vi r4] _
    exact r_zret h rfl H.1 (by decide +kernel : decode cX12_needsNumber 13 = .ok (.ireturn, 1)) rfl ⟨rfl, _, rfl, H.2⟩
theorem W_Mod_needsNumber (x1 : Int) (x2 : Int) (M : Mm) {P : Int → Mm → Prop} (H : (rng (M 1 6)) ∧ ((M 1 6) = 2 → (∃ P1 : Int → Mm → Prop, S_Mod_within (M 1 8) x1 x2 M P1 ∧ ∀ (r1 : Int) (M1 : Mm), P1 r1 M1 → (rng r1) ∧ (r1 ≠ 0 → (∀ M2 : Mm, M2 = (upr M1 1 (up1 (M1 1) 36 (M1 1 8))) → ∃ P3 : Mm → Prop, S_Mod_nextToken  M2 P3 ∧ ∀ M3 : Mm, P3 M3 → P 1 M3)) ∧ (r1 = 0 → (∃ P4 : Int → Mm → Prop, S_Mod_fails 4 M1 P4 ∧ ∀ (r3 : Int) (M4 : Mm), P4 r3 M4 → (r3 = 0 ∨ r3 = 1) ∧ P r3 M4)))) ∧ ((M 1 6) ≠ 2 → (∃ P5 : Int → Mm → Prop, S_Mod_fails 1 M P5 ∧ ∀ (r4 : Int) (M5 : Mm), P5 r4 M5 → (r4 = 0 ∨ r4 = 1) ∧ P r4 M5))) : S_Mod_needsNumber x1 x2 M P := e_Mod_needsNumber x1 x2 M (fun _ h => w_Mod_needsNumber_0 h x1 x2 M H)
set_option maxHeartbeats 4000000 in
set_option maxRecDepth 100000 in
theorem w_Mod_closes_0 {P : Int → Mm → Prop} {K : Nat → Rr → Nat → List (Nat × AV) → List AV → Mm → Prop} (h : EK shM yX12_closes cX12_closes 1 (some .boolean) 3 NM NM (QI RRM P) K)  (M : Mm)
    (H : ∃ P1 : Int → Mm → Prop, S_Mod_isSign 59 M P1 ∧ ∀ (r1 : Int) (M1 : Mm), P1 r1 M1 → (rng r1) ∧ (r1 ≠ 0 → (∃ P2 : Mm → Prop, S_Mod_nextToken  M1 P2 ∧ ∀ M2 : Mm, P2 M2 → P 1 M2)) ∧ (r1 = 0 → (∃ P3 : Int → Mm → Prop, S_Mod_fails 1 M1 P3 ∧ ∀ (r3 : Int) (M3 : Mm), P3 r3 M3 → (r3 = 0 ∨ r3 = 1) ∧ P r3 M3))) :
    K NM RRM 0 [(0, vr 1)] [] M := by
  refine r_aloadn h (q := 0) 0 rfl (by decide +kernel : decode cX12_closes 0 = .ok (.aload_n 0, 1)) ?_
  refine r_bipush h (v := 59) (by decide) (by decide +kernel : decode cX12_closes 1 = .ok (.bipush 59, 2)) ?_
  obtain ⟨P1, hSP1, H⟩ := H
  refine r_callV h (as := [vi 59]) (S := []) (b := 1) m_Mod_212 hSP1 (by decide) (Nat.le_refl _) rfl at1M rfl (Nat.le_of_ble_eq_true rfl) (by decide +kernel : decode cX12_closes 3 = .ok (.invokevirtual 212, 3)) ?_
  rintro _ _ M1 ⟨rfl, r1, rfl, hP⟩
  have H := H r1 M1 hP
  show K NM RRM _ _ [vi r1] _
  obtain ⟨g1, H⟩ := H
  obtain ⟨H1, H2⟩ := H
  refine r_if_ne h 15 g1 (by decide) (by decide +kernel : decode cX12_closes 6 = .ok (.ifCond .ne 9, 3)) (fun hc => ?_) (fun hc => ?_)
  · have H := H1 hc
    refine r_aloadn h (q := 0) 0 rfl (by decide +kernel : decode cX12_closes 15 = .ok (.aload_n 0, 1)) ?_
    obtain ⟨P2, hSP2, H⟩ := H
    refine r_callV h (as := []) (S := []) (b := 1) m_Mod_223 hSP2 (by decide) (Nat.le_refl _) rfl at1M rfl (Nat.le_of_ble_eq_true rfl) (by decide +kernel : decode cX12_closes 16 = .ok (.invokevirtual 223, 3)) ?_
    rintro _ _ M2 ⟨rfl, rfl, hP⟩
    have H := H M2 hP
    show K NM RRM _ _ [] _
    refine r_iconst h (v := 1) (by decide +kernel : decode cX12_closes 19 = .ok (.iconst 1, 1)) ?_
    exact r_zret h rfl (by decide) (by decide +kernel : decode cX12_closes 20 = .ok (.ireturn, 1)) rfl ⟨rfl, _, rfl, H⟩
  · have H := H2 hc
    refine r_aloadn h (q := 0) 0 rfl (by decide +kernel : decode cX12_closes 9 = .ok (.aload_n 0, 1)) ?_
    refine r_iconst h (v := 1) (by decide +kernel : decode cX12_closes 10 = .ok (.iconst 1, 1)) ?_
    obtain ⟨P3, hSP3, H⟩ := H
    refine r_callV h (as := [vi 1]) (S := []) (b := 1) m_Mod_216 hSP3 (by decide) (Nat.le_refl _) rfl at1M rfl (Nat.le_of_ble_eq_true rfl) (by decide +kernel : decode cX12_closes 11 = .ok (.invokevirtual 216, 3)) ?_
    rintro _ _ M3 ⟨rfl, r3, rfl, hP⟩
    have H := H r3 M3 hP
    show K NM RRM _ _ [vi r3] _
    exact r_zret h rfl H.1 (by decide +kernel : decode cX12_closes 14 = .ok (.ireturn, 1)) rfl ⟨rfl, _, rfl, H.2⟩
theorem W_Mod_closes  (M : Mm) {P : Int → Mm → Prop} (H : ∃ P1 : Int → Mm → Prop, S_Mod_isSign 59 M P1 ∧ ∀ (r1 : Int) (M1 : Mm), P1 r1 M1 → (rng r1) ∧ (r1 ≠ 0 → (∃ P2 : Mm → Prop, S_Mod_nextToken  M1 P2 ∧ ∀ M2 : Mm, P2 M2 → P 1 M2)) ∧ (r1 = 0 → (∃ P3 : Int → Mm → Prop, S_Mod_fails 1 M1 P3 ∧ ∀ (r3 : Int) (M3 : Mm), P3 r3 M3 → (r3 = 0 ∨ r3 = 1) ∧ P r3 M3))) : S_Mod_closes  M P := e_Mod_closes  M (fun _ h => w_Mod_closes_0 h  M H)
set_option maxHeartbeats 4000000 in
set_option maxRecDepth 100000 in
theorem w_Mod_begins_0 {P : Mm → Prop} {K : Nat → Rr → Nat → List (Nat × AV) → List AV → Mm → Prop} (h : EK shM yX12_begins cX12_begins 1 none 3 NM NM (QV RRM P) K)  (M : Mm)
    (H : ∀ M1 : Mm, M1 = (upr M 1 (up1 (M 1) 3 (M 1 1))) → ∀ M2 : Mm, M2 = (upr M1 1 (up1 (M1 1) 1 0)) → ∀ M3 : Mm, M3 = (upr M2 1 (up1 (M2 1) 4 0)) → ∃ P4 : Mm → Prop, S_Mod_nextToken  M3 P4 ∧ ∀ M4 : Mm, P4 M4 → P M4) :
    K NM RRM 0 [(0, vr 1)] [] M := by
  refine r_aloadn h (q := 0) 0 rfl (by decide +kernel : decode cX12_begins 0 = .ok (.aload_n 0, 1)) ?_
  refine r_aloadn h (q := 0) 0 rfl (by decide +kernel : decode cX12_begins 1 = .ok (.aload_n 0, 1)) ?_
  refine r_getI h f_Mod_153 at1M (by decide +kernel : decode cX12_begins 2 = .ok (.getfield 153, 3)) ?_
  refine r_putI h f_Mod_156 at1M rfl rfl (by decide +kernel : decode cX12_begins 5 = .ok (.putfield 156, 3)) ?_
  have H := H _ rfl
  revert H
  generalize (upr M 1 (up1 (M 1) 3 (M 1 1))) = M1
  intro H
  refine r_aloadn h (q := 0) 0 rfl (by decide +kernel : decode cX12_begins 8 = .ok (.aload_n 0, 1)) ?_
  refine r_iconst h (v := 0) (by decide +kernel : decode cX12_begins 9 = .ok (.iconst 0, 1)) ?_
  refine r_putI h f_Mod_153 at1M rfl rfl (by decide +kernel : decode cX12_begins 10 = .ok (.putfield 153, 3)) ?_
  have H := H _ rfl
  revert H
  generalize (upr M1 1 (up1 (M1 1) 1 0)) = M2
  intro H
  refine r_aloadn h (q := 0) 0 rfl (by decide +kernel : decode cX12_begins 13 = .ok (.aload_n 0, 1)) ?_
  refine r_iconst h (v := 0) (by decide +kernel : decode cX12_begins 14 = .ok (.iconst 0, 1)) ?_
  refine r_putI h f_Mod_159 at1M rfl rfl (by decide +kernel : decode cX12_begins 15 = .ok (.putfield 159, 3)) ?_
  have H := H _ rfl
  revert H
  generalize (upr M2 1 (up1 (M2 1) 4 0)) = M3
  intro H
  refine r_aloadn h (q := 0) 0 rfl (by decide +kernel : decode cX12_begins 18 = .ok (.aload_n 0, 1)) ?_
  obtain ⟨P4, hSP4, H⟩ := H
  refine r_callV h (as := []) (S := []) (b := 1) m_Mod_223 hSP4 (by decide) (Nat.le_refl _) rfl at1M rfl (Nat.le_of_ble_eq_true rfl) (by decide +kernel : decode cX12_begins 19 = .ok (.invokevirtual 223, 3)) ?_
  rintro _ _ M4 ⟨rfl, rfl, hP⟩
  have H := H M4 hP
  show K NM RRM _ _ [] _
  exact r_vret h rfl (by decide +kernel : decode cX12_begins 22 = .ok (.return_, 1)) rfl ⟨rfl, rfl, H⟩
theorem W_Mod_begins  (M : Mm) {P : Mm → Prop} (H : ∀ M1 : Mm, M1 = (upr M 1 (up1 (M 1) 3 (M 1 1))) → ∀ M2 : Mm, M2 = (upr M1 1 (up1 (M1 1) 1 0)) → ∀ M3 : Mm, M3 = (upr M2 1 (up1 (M2 1) 4 0)) → ∃ P4 : Mm → Prop, S_Mod_nextToken  M3 P4 ∧ ∀ M4 : Mm, P4 M4 → P M4) : S_Mod_begins  M P := e_Mod_begins  M (fun _ h => w_Mod_begins_0 h  M H)
set_option maxHeartbeats 4000000 in
set_option maxRecDepth 100000 in
theorem w_Mod_shunnedNow_0 {P : Int → Mm → Prop} {K : Nat → Rr → Nat → List (Nat × AV) → List AV → Mm → Prop} (h : EK shM yX12_shunnedNow cX12_shunnedNow 3 (some .int) 3 NM NM (QI RRM P) K)  (M : Mm)
    (H : K NM RRM 4 [(0, vr 1), (1, vi 0), (2, vi 0)] [] M) :
    K NM RRM 0 [(0, vr 1)] [] M := by
  refine r_iconst h (v := 0) (by decide +kernel : decode cX12_shunnedNow 0 = .ok (.iconst 0, 1)) ?_
  refine r_istoren h (q := 1) (L' := [(1, vi 0), (0, vr 1)]) (by decide) rfl (by decide +kernel : decode cX12_shunnedNow 1 = .ok (.istore_n 1, 1)) ?_
  refine r_iconst h (v := 0) (by decide +kernel : decode cX12_shunnedNow 2 = .ok (.iconst 0, 1)) ?_
  refine r_istoren h (q := 2) (L' := [(2, vi 0), (1, vi 0), (0, vr 1)]) (by decide) rfl (by decide +kernel : decode cX12_shunnedNow 3 = .ok (.istore_n 2, 1)) ?_
  refine r_drop h [2, 1, 0] rfl ?_
  exact H
set_option maxHeartbeats 4000000 in
set_option maxRecDepth 100000 in
theorem w_Mod_shunnedNow_4 {P : Int → Mm → Prop} {K : Nat → Rr → Nat → List (Nat × AV) → List AV → Mm → Prop} (h : EK shM yX12_shunnedNow cX12_shunnedNow 3 (some .int) 3 NM NM (QI RRM P) K) (x1 : Int) (x2 : Int) (M : Mm)
    (H : (rng x2) ∧ (rng (M 3 0)) ∧ ((M 3 0) ≤ x2 → (P x1 M)) ∧ (¬ ((M 3 0) ≤ x2) → (∃ P1 : Int → Mm → Prop, S_Mod_isGoing x2 M P1 ∧ ∀ (r1 : Int) (M1 : Mm), P1 r1 M1 → (rng r1) ∧ (r1 = 0 → (K NM RRM 4 [(0, vr 1), (1, vi (x1 + 0)), (2, vi (x2 + 1))] [] M1)) ∧ (r1 ≠ 0 → (∃ P2 : Int → Mm → Prop, S_Mod_aheadOf x2 M1 P2 ∧ ∀ (r2 : Int) (M2 : Mm), P2 r2 M2 → ∃ P3 : Int → Mm → Prop, S_Mod_doesShun x2 r2 M2 P3 ∧ ∀ (r3 : Int) (M3 : Mm), P3 r3 M3 → (rng r3) ∧ (r3 = 0 → (K NM RRM 4 [(0, vr 1), (1, vi (x1 + 0)), (2, vi (x2 + 1))] [] M3)) ∧ (r3 ≠ 0 → (K NM RRM 4 [(0, vr 1), (1, vi (x1 + 1)), (2, vi (x2 + 1))] [] M3))))))) :
    K NM RRM 4 [(0, vr 1), (1, vi x1), (2, vi x2)] [] M := by
  refine r_iloadn h (q := 2) 2 rfl (by decide +kernel : decode cX12_shunnedNow 4 = .ok (.iload_n 2, 1)) ?_
  refine r_aloadn h (q := 0) 0 rfl (by decide +kernel : decode cX12_shunnedNow 5 = .ok (.aload_n 0, 1)) ?_
  refine r_getR h (r := 3) f_Mod_13 at1M rfl (by decide) (by decide +kernel : decode cX12_shunnedNow 6 = .ok (.getfield 13, 3)) ?_
  refine r_iconst h (v := 0) (by decide +kernel : decode cX12_shunnedNow 9 = .ok (.iconst 0, 1)) ?_
  refine r_iald h 0 rfl atM_3 (by decide) (by decide) (by decide +kernel : decode cX12_shunnedNow 10 = .ok (.iaload, 1)) ?_
  obtain ⟨g1, g2, H⟩ := H
  obtain ⟨H1, H2⟩ := H
  refine r_icmp_ge h 49 g1 g2 (by decide) (by decide +kernel : decode cX12_shunnedNow 11 = .ok (.if_icmp .ge 38, 3)) (fun hc => ?_) (fun hc => ?_)
  · have H := H1 hc
    refine r_iloadn h (q := 1) 1 rfl (by decide +kernel : decode cX12_shunnedNow 49 = .ok (.iload_n 1, 1)) ?_
    exact r_iret h rfl (by decide +kernel : decode cX12_shunnedNow 50 = .ok (.ireturn, 1)) rfl ⟨rfl, _, rfl, H⟩
  · have H := H2 hc
    refine r_iloadn h (q := 1) 1 rfl (by decide +kernel : decode cX12_shunnedNow 14 = .ok (.iload_n 1, 1)) ?_
    refine r_aloadn h (q := 0) 0 rfl (by decide +kernel : decode cX12_shunnedNow 15 = .ok (.aload_n 0, 1)) ?_
    refine r_iloadn h (q := 2) 2 rfl (by decide +kernel : decode cX12_shunnedNow 16 = .ok (.iload_n 2, 1)) ?_
    obtain ⟨P1, hSP1, H⟩ := H
    refine r_callV h (as := [vi x2]) (S := [vi x1]) (b := 1) m_Mod_363 hSP1 (by decide) (Nat.le_refl _) rfl at1M rfl (Nat.le_of_ble_eq_true rfl) (by decide +kernel : decode cX12_shunnedNow 17 = .ok (.invokevirtual 363, 3)) ?_
    rintro _ _ M1 ⟨rfl, r1, rfl, hP⟩
    have H := H r1 M1 hP
    show K NM RRM _ _ [vi r1, vi x1] _
    obtain ⟨g1, H⟩ := H
    obtain ⟨H1, H2⟩ := H
    refine r_if_eq h 40 g1 (by decide) (by decide +kernel : decode cX12_shunnedNow 20 = .ok (.ifCond .eq 20, 3)) (fun hc => ?_) (fun hc => ?_)
    · have H := H1 hc
      refine r_iconst h (v := 0) (by decide +kernel : decode cX12_shunnedNow 40 = .ok (.iconst 0, 1)) ?_
      refine r_iadd h (by decide +kernel : decode cX12_shunnedNow 41 = .ok (.iadd, 1)) ?_
      refine r_istoren h (q := 1) (L' := [(1, vi (x1 + 0)), (0, vr 1), (2, vi x2)]) (by decide) rfl (by decide +kernel : decode cX12_shunnedNow 42 = .ok (.istore_n 1, 1)) ?_
      refine r_iinc h (i := 2) (v := 1) (L' := [(2, vi (x2 + 1)), (1, vi (x1 + 0)), (0, vr 1)]) 2 rfl (by decide) rfl (by decide +kernel : decode cX12_shunnedNow 43 = .ok (.iinc 2 1, 3)) ?_
      refine r_goto h 4 (by decide) (by decide +kernel : decode cX12_shunnedNow 46 = .ok (.goto (-42), 3)) ?_
      refine r_drop h [2, 1, 0] rfl ?_
      exact H
    · have H := H2 hc
      refine r_aloadn h (q := 0) 0 rfl (by decide +kernel : decode cX12_shunnedNow 23 = .ok (.aload_n 0, 1)) ?_
      refine r_iloadn h (q := 2) 2 rfl (by decide +kernel : decode cX12_shunnedNow 24 = .ok (.iload_n 2, 1)) ?_
      refine r_aloadn h (q := 0) 0 rfl (by decide +kernel : decode cX12_shunnedNow 25 = .ok (.aload_n 0, 1)) ?_
      refine r_iloadn h (q := 2) 2 rfl (by decide +kernel : decode cX12_shunnedNow 26 = .ok (.iload_n 2, 1)) ?_
      obtain ⟨P2, hSP2, H⟩ := H
      refine r_callV h (as := [vi x2]) (S := [vi x2, vr 1, vi x1]) (b := 1) m_Mod_366 hSP2 (by decide) (Nat.le_refl _) rfl at1M rfl (Nat.le_of_ble_eq_true rfl) (by decide +kernel : decode cX12_shunnedNow 27 = .ok (.invokevirtual 366, 3)) ?_
      rintro _ _ M2 ⟨rfl, r2, rfl, hP⟩
      have H := H r2 M2 hP
      show K NM RRM _ _ [vi r2, vi x2, vr 1, vi x1] _
      obtain ⟨P3, hSP3, H⟩ := H
      refine r_callV h (as := [vi x2, vi r2]) (S := [vi x1]) (b := 1) m_Mod_369 hSP3 (by decide) (Nat.le_refl _) rfl at1M rfl (Nat.le_of_ble_eq_true rfl) (by decide +kernel : decode cX12_shunnedNow 30 = .ok (.invokevirtual 369, 3)) ?_
      rintro _ _ M3 ⟨rfl, r3, rfl, hP⟩
      have H := H r3 M3 hP
      show K NM RRM _ _ [vi r3, vi x1] _
      obtain ⟨g1, H⟩ := H
      obtain ⟨H1, H2⟩ := H
      refine r_if_eq h 40 g1 (by decide) (by decide +kernel : decode cX12_shunnedNow 33 = .ok (.ifCond .eq 7, 3)) (fun hc => ?_) (fun hc => ?_)
      · have H := H1 hc
        refine r_iconst h (v := 0) (by decide +kernel : decode cX12_shunnedNow 40 = .ok (.iconst 0, 1)) ?_
        refine r_iadd h (by decide +kernel : decode cX12_shunnedNow 41 = .ok (.iadd, 1)) ?_
        refine r_istoren h (q := 1) (L' := [(1, vi (x1 + 0)), (0, vr 1), (2, vi x2)]) (by decide) rfl (by decide +kernel : decode cX12_shunnedNow 42 = .ok (.istore_n 1, 1)) ?_
        refine r_iinc h (i := 2) (v := 1) (L' := [(2, vi (x2 + 1)), (1, vi (x1 + 0)), (0, vr 1)]) 2 rfl (by decide) rfl (by decide +kernel : decode cX12_shunnedNow 43 = .ok (.iinc 2 1, 3)) ?_
        refine r_goto h 4 (by decide) (by decide +kernel : decode cX12_shunnedNow 46 = .ok (.goto (-42), 3)) ?_
        refine r_drop h [2, 1, 0] rfl ?_
        exact H
      · have H := H2 hc
        refine r_iconst h (v := 1) (by decide +kernel : decode cX12_shunnedNow 36 = .ok (.iconst 1, 1)) ?_
        refine r_goto h 41 (by decide) (by decide +kernel : decode cX12_shunnedNow 37 = .ok (.goto 4, 3)) ?_
        refine r_iadd h (by decide +kernel : decode cX12_shunnedNow 41 = .ok (.iadd, 1)) ?_
        refine r_istoren h (q := 1) (L' := [(1, vi (x1 + 1)), (0, vr 1), (2, vi x2)]) (by decide) rfl (by decide +kernel : decode cX12_shunnedNow 42 = .ok (.istore_n 1, 1)) ?_
        refine r_iinc h (i := 2) (v := 1) (L' := [(2, vi (x2 + 1)), (1, vi (x1 + 1)), (0, vr 1)]) 2 rfl (by decide) rfl (by decide +kernel : decode cX12_shunnedNow 43 = .ok (.iinc 2 1, 3)) ?_
        refine r_goto h 4 (by decide) (by decide +kernel : decode cX12_shunnedNow 46 = .ok (.goto (-42), 3)) ?_
        refine r_drop h [2, 1, 0] rfl ?_
        exact H
set_option maxHeartbeats 4000000 in
set_option maxRecDepth 100000 in
theorem w_Mod_ahead_0 {P : Int → Mm → Prop} {K : Nat → Rr → Nat → List (Nat × AV) → List AV → Mm → Prop} (h : EK shM yX12_ahead cX12_ahead 2 (some .int) 3 NM NM (QI RRM P) K) (x1 : Int) (M : Mm)
    (H : ∀ M1 : Mm, M1 = (upr M 1 (up1 (M 1) 0 0)) → ∃ P2 : Int → Mm → Prop, S_Mod_isHouse x1 M1 P2 ∧ ∀ (r1 : Int) (M2 : Mm), P2 r1 M2 → (rng r1) ∧ (r1 = 0 → (P (-1) M2)) ∧ (r1 ≠ 0 → (∃ P3 : Int → Mm → Prop, S_Mod_isGoing x1 M2 P3 ∧ ∀ (r2 : Int) (M3 : Mm), P3 r2 M3 → (rng r2) ∧ (r2 = 0 → (P (-1) M3)) ∧ (r2 ≠ 0 → (∃ P4 : Int → Mm → Prop, S_Mod_aheadOf x1 M3 P4 ∧ ∀ (r3 : Int) (M4 : Mm), P4 r3 M4 → P r3 M4))))) :
    K NM RRM 0 [(0, vr 1), (1, vi x1)] [] M := by
  refine r_aloadn h (q := 0) 0 rfl (by decide +kernel : decode cX12_ahead 0 = .ok (.aload_n 0, 1)) ?_
  refine r_iconst h (v := 0) (by decide +kernel : decode cX12_ahead 1 = .ok (.iconst 0, 1)) ?_
  refine r_putI h f_Mod_147 at1M rfl rfl (by decide +kernel : decode cX12_ahead 2 = .ok (.putfield 147, 3)) ?_
  have H := H _ rfl
  revert H
  generalize (upr M 1 (up1 (M 1) 0 0)) = M1
  intro H
  refine r_aloadn h (q := 0) 0 rfl (by decide +kernel : decode cX12_ahead 5 = .ok (.aload_n 0, 1)) ?_
  refine r_iloadn h (q := 1) 1 rfl (by decide +kernel : decode cX12_ahead 6 = .ok (.iload_n 1, 1)) ?_
  obtain ⟨P2, hSP2, H⟩ := H
  refine r_callV h (as := [vi x1]) (S := []) (b := 1) m_Mod_390 hSP2 (by decide) (Nat.le_refl _) rfl at1M rfl (Nat.le_of_ble_eq_true rfl) (by decide +kernel : decode cX12_ahead 7 = .ok (.invokevirtual 390, 3)) ?_
  rintro _ _ M2 ⟨rfl, r1, rfl, hP⟩
  have H := H r1 M2 hP
  show K NM RRM _ _ [vi r1] _
  obtain ⟨g1, H⟩ := H
  obtain ⟨H1, H2⟩ := H
  refine r_if_eq h 29 g1 (by decide) (by decide +kernel : decode cX12_ahead 10 = .ok (.ifCond .eq 19, 3)) (fun hc => ?_) (fun hc => ?_)
  · have H := H1 hc
    refine r_iconst h (v := (-1)) (by decide +kernel : decode cX12_ahead 29 = .ok (.iconst (-1), 1)) ?_
    exact r_iret h rfl (by decide +kernel : decode cX12_ahead 30 = .ok (.ireturn, 1)) rfl ⟨rfl, _, rfl, H⟩
  · have H := H2 hc
    refine r_aloadn h (q := 0) 0 rfl (by decide +kernel : decode cX12_ahead 13 = .ok (.aload_n 0, 1)) ?_
    refine r_iloadn h (q := 1) 1 rfl (by decide +kernel : decode cX12_ahead 14 = .ok (.iload_n 1, 1)) ?_
    obtain ⟨P3, hSP3, H⟩ := H
    refine r_callV h (as := [vi x1]) (S := []) (b := 1) m_Mod_363 hSP3 (by decide) (Nat.le_refl _) rfl at1M rfl (Nat.le_of_ble_eq_true rfl) (by decide +kernel : decode cX12_ahead 15 = .ok (.invokevirtual 363, 3)) ?_
    rintro _ _ M3 ⟨rfl, r2, rfl, hP⟩
    have H := H r2 M3 hP
    show K NM RRM _ _ [vi r2] _
    obtain ⟨g1, H⟩ := H
    obtain ⟨H1, H2⟩ := H
    refine r_if_eq h 29 g1 (by decide) (by decide +kernel : decode cX12_ahead 18 = .ok (.ifCond .eq 11, 3)) (fun hc => ?_) (fun hc => ?_)
    · have H := H1 hc
      refine r_iconst h (v := (-1)) (by decide +kernel : decode cX12_ahead 29 = .ok (.iconst (-1), 1)) ?_
      exact r_iret h rfl (by decide +kernel : decode cX12_ahead 30 = .ok (.ireturn, 1)) rfl ⟨rfl, _, rfl, H⟩
    · have H := H2 hc
      refine r_aloadn h (q := 0) 0 rfl (by decide +kernel : decode cX12_ahead 21 = .ok (.aload_n 0, 1)) ?_
      refine r_iloadn h (q := 1) 1 rfl (by decide +kernel : decode cX12_ahead 22 = .ok (.iload_n 1, 1)) ?_
      obtain ⟨P4, hSP4, H⟩ := H
      refine r_callV h (as := [vi x1]) (S := []) (b := 1) m_Mod_366 hSP4 (by decide) (Nat.le_refl _) rfl at1M rfl (Nat.le_of_ble_eq_true rfl) (by decide +kernel : decode cX12_ahead 23 = .ok (.invokevirtual 366, 3)) ?_
      rintro _ _ M4 ⟨rfl, r3, rfl, hP⟩
      have H := H r3 M4 hP
      show K NM RRM _ _ [vi r3] _
      refine r_goto h 30 (by decide) (by decide +kernel : decode cX12_ahead 26 = .ok (.goto 4, 3)) ?_
      exact r_iret h rfl (by decide +kernel : decode cX12_ahead 30 = .ok (.ireturn, 1)) rfl ⟨rfl, _, rfl, H⟩
theorem W_Mod_ahead (x1 : Int) (M : Mm) {P : Int → Mm → Prop} (H : ∀ M1 : Mm, M1 = (upr M 1 (up1 (M 1) 0 0)) → ∃ P2 : Int → Mm → Prop, S_Mod_isHouse x1 M1 P2 ∧ ∀ (r1 : Int) (M2 : Mm), P2 r1 M2 → (rng r1) ∧ (r1 = 0 → (P (-1) M2)) ∧ (r1 ≠ 0 → (∃ P3 : Int → Mm → Prop, S_Mod_isGoing x1 M2 P3 ∧ ∀ (r2 : Int) (M3 : Mm), P3 r2 M3 → (rng r2) ∧ (r2 = 0 → (P (-1) M3)) ∧ (r2 ≠ 0 → (∃ P4 : Int → Mm → Prop, S_Mod_aheadOf x1 M3 P4 ∧ ∀ (r3 : Int) (M4 : Mm), P4 r3 M4 → P r3 M4))))) : S_Mod_ahead x1 M P := e_Mod_ahead x1 M (fun _ h => w_Mod_ahead_0 h x1 M H)
set_option maxHeartbeats 4000000 in
set_option maxRecDepth 100000 in
theorem w_Mod_put_0 {P : Int → Mm → Prop} {K : Nat → Rr → Nat → List (Nat × AV) → List AV → Mm → Prop} (h : EK shM yX12_put cX12_put 3 (some .boolean) 3 NM NM (QI RRM P) K) (x1 : Int) (x2 : Int) (M : Mm)
    (H : ∀ M1 : Mm, M1 = (upr M 1 (up1 (M 1) 0 0)) → ∃ P2 : Int → Mm → Prop, S_Mod_isHouse x1 M1 P2 ∧ ∀ (r1 : Int) (M2 : Mm), P2 r1 M2 → (rng r1) ∧ (r1 = 0 → (P 0 M2)) ∧ (r1 ≠ 0 → (∃ P3 : Int → Mm → Prop, S_Mod_isHouse x2 M2 P3 ∧ ∀ (r2 : Int) (M3 : Mm), P3 r2 M3 → (rng r2) ∧ (r2 ≠ 0 → (∃ P4 : Mm → Prop, S_Mod_keeps  M3 P4 ∧ ∀ M4 : Mm, P4 M4 → ∃ P5 : Mm → Prop, S_Mod_laysAt x1 x2 M4 P5 ∧ ∀ M5 : Mm, P5 M5 → P 1 M5)) ∧ (r2 = 0 → (P 0 M3))))) :
    K NM RRM 0 [(0, vr 1), (1, vi x1), (2, vi x2)] [] M := by
  refine r_aloadn h (q := 0) 0 rfl (by decide +kernel : decode cX12_put 0 = .ok (.aload_n 0, 1)) ?_
  refine r_iconst h (v := 0) (by decide +kernel : decode cX12_put 1 = .ok (.iconst 0, 1)) ?_
  refine r_putI h f_Mod_147 at1M rfl rfl (by decide +kernel : decode cX12_put 2 = .ok (.putfield 147, 3)) ?_
  have H := H _ rfl
  revert H
  generalize (upr M 1 (up1 (M 1) 0 0)) = M1
  intro H
  refine r_aloadn h (q := 0) 0 rfl (by decide +kernel : decode cX12_put 5 = .ok (.aload_n 0, 1)) ?_
  refine r_iloadn h (q := 1) 1 rfl (by decide +kernel : decode cX12_put 6 = .ok (.iload_n 1, 1)) ?_
  obtain ⟨P2, hSP2, H⟩ := H
  refine r_callV h (as := [vi x1]) (S := []) (b := 1) m_Mod_390 hSP2 (by decide) (Nat.le_refl _) rfl at1M rfl (Nat.le_of_ble_eq_true rfl) (by decide +kernel : decode cX12_put 7 = .ok (.invokevirtual 390, 3)) ?_
  rintro _ _ M2 ⟨rfl, r1, rfl, hP⟩
  have H := H r1 M2 hP
  show K NM RRM _ _ [vi r1] _
  obtain ⟨g1, H⟩ := H
  obtain ⟨H1, H2⟩ := H
  refine r_if_eq h 21 g1 (by decide) (by decide +kernel : decode cX12_put 10 = .ok (.ifCond .eq 11, 3)) (fun hc => ?_) (fun hc => ?_)
  · have H := H1 hc
    refine r_iconst h (v := 0) (by decide +kernel : decode cX12_put 21 = .ok (.iconst 0, 1)) ?_
    exact r_zret h rfl (by decide) (by decide +kernel : decode cX12_put 22 = .ok (.ireturn, 1)) rfl ⟨rfl, _, rfl, H⟩
  · have H := H2 hc
    refine r_aloadn h (q := 0) 0 rfl (by decide +kernel : decode cX12_put 13 = .ok (.aload_n 0, 1)) ?_
    refine r_iloadn h (q := 2) 2 rfl (by decide +kernel : decode cX12_put 14 = .ok (.iload_n 2, 1)) ?_
    obtain ⟨P3, hSP3, H⟩ := H
    refine r_callV h (as := [vi x2]) (S := []) (b := 1) m_Mod_390 hSP3 (by decide) (Nat.le_refl _) rfl at1M rfl (Nat.le_of_ble_eq_true rfl) (by decide +kernel : decode cX12_put 15 = .ok (.invokevirtual 390, 3)) ?_
    rintro _ _ M3 ⟨rfl, r2, rfl, hP⟩
    have H := H r2 M3 hP
    show K NM RRM _ _ [vi r2] _
    obtain ⟨g1, H⟩ := H
    obtain ⟨H1, H2⟩ := H
    refine r_if_ne h 23 g1 (by decide) (by decide +kernel : decode cX12_put 18 = .ok (.ifCond .ne 5, 3)) (fun hc => ?_) (fun hc => ?_)
    · have H := H1 hc
      refine r_aloadn h (q := 0) 0 rfl (by decide +kernel : decode cX12_put 23 = .ok (.aload_n 0, 1)) ?_
      obtain ⟨P4, hSP4, H⟩ := H
      refine r_callV h (as := []) (S := []) (b := 1) m_Mod_397 hSP4 (by decide) (Nat.le_refl _) rfl at1M rfl (Nat.le_of_ble_eq_true rfl) (by decide +kernel : decode cX12_put 24 = .ok (.invokevirtual 397, 3)) ?_
      rintro _ _ M4 ⟨rfl, rfl, hP⟩
      have H := H M4 hP
      show K NM RRM _ _ [] _
      refine r_aloadn h (q := 0) 0 rfl (by decide +kernel : decode cX12_put 27 = .ok (.aload_n 0, 1)) ?_
      refine r_iloadn h (q := 1) 1 rfl (by decide +kernel : decode cX12_put 28 = .ok (.iload_n 1, 1)) ?_
      refine r_iloadn h (q := 2) 2 rfl (by decide +kernel : decode cX12_put 29 = .ok (.iload_n 2, 1)) ?_
      obtain ⟨P5, hSP5, H⟩ := H
      refine r_callV h (as := [vi x1, vi x2]) (S := []) (b := 1) m_Mod_400 hSP5 (by decide) (Nat.le_refl _) rfl at1M rfl (Nat.le_of_ble_eq_true rfl) (by decide +kernel : decode cX12_put 30 = .ok (.invokevirtual 400, 3)) ?_
      rintro _ _ M5 ⟨rfl, rfl, hP⟩
      have H := H M5 hP
      show K NM RRM _ _ [] _
      refine r_iconst h (v := 1) (by decide +kernel : decode cX12_put 33 = .ok (.iconst 1, 1)) ?_
      exact r_zret h rfl (by decide) (by decide +kernel : decode cX12_put 34 = .ok (.ireturn, 1)) rfl ⟨rfl, _, rfl, H⟩
    · have H := H2 hc
      refine r_iconst h (v := 0) (by decide +kernel : decode cX12_put 21 = .ok (.iconst 0, 1)) ?_
      exact r_zret h rfl (by decide) (by decide +kernel : decode cX12_put 22 = .ok (.ireturn, 1)) rfl ⟨rfl, _, rfl, H⟩
theorem W_Mod_put (x1 : Int) (x2 : Int) (M : Mm) {P : Int → Mm → Prop} (H : ∀ M1 : Mm, M1 = (upr M 1 (up1 (M 1) 0 0)) → ∃ P2 : Int → Mm → Prop, S_Mod_isHouse x1 M1 P2 ∧ ∀ (r1 : Int) (M2 : Mm), P2 r1 M2 → (rng r1) ∧ (r1 = 0 → (P 0 M2)) ∧ (r1 ≠ 0 → (∃ P3 : Int → Mm → Prop, S_Mod_isHouse x2 M2 P3 ∧ ∀ (r2 : Int) (M3 : Mm), P3 r2 M3 → (rng r2) ∧ (r2 ≠ 0 → (∃ P4 : Mm → Prop, S_Mod_keeps  M3 P4 ∧ ∀ M4 : Mm, P4 M4 → ∃ P5 : Mm → Prop, S_Mod_laysAt x1 x2 M4 P5 ∧ ∀ M5 : Mm, P5 M5 → P 1 M5)) ∧ (r2 = 0 → (P 0 M3))))) : S_Mod_put x1 x2 M P := e_Mod_put x1 x2 M (fun _ h => w_Mod_put_0 h x1 x2 M H)
set_option maxHeartbeats 4000000 in
set_option maxRecDepth 100000 in
theorem w_Mod_road_0 {P : Int → Mm → Prop} {K : Nat → Rr → Nat → List (Nat × AV) → List AV → Mm → Prop} (h : EK shM yX12_road cX12_road 2 (some .boolean) 3 NM NM (QI RRM P) K) (x1 : Int) (M : Mm)
    (H : ∀ M1 : Mm, M1 = (upr M 1 (up1 (M 1) 0 0)) → ∃ P2 : Int → Mm → Prop, S_Mod_isHouse x1 M1 P2 ∧ ∀ (r1 : Int) (M2 : Mm), P2 r1 M2 → (rng r1) ∧ (r1 ≠ 0 → (∃ P3 : Mm → Prop, S_Mod_keeps  M2 P3 ∧ ∀ M3 : Mm, P3 M3 → ∀ M4 : Mm, M4 = (upr M3 34 (up1 (M3 34) 4 (xorI (M3 34 4) (shlI 1 x1)))) → P 1 M4)) ∧ (r1 = 0 → (P 0 M2))) :
    K NM RRM 0 [(0, vr 1), (1, vi x1)] [] M := by
  refine r_aloadn h (q := 0) 0 rfl (by decide +kernel : decode cX12_road 0 = .ok (.aload_n 0, 1)) ?_
  refine r_iconst h (v := 0) (by decide +kernel : decode cX12_road 1 = .ok (.iconst 0, 1)) ?_
  refine r_putI h f_Mod_147 at1M rfl rfl (by decide +kernel : decode cX12_road 2 = .ok (.putfield 147, 3)) ?_
  have H := H _ rfl
  revert H
  generalize (upr M 1 (up1 (M 1) 0 0)) = M1
  intro H
  refine r_aloadn h (q := 0) 0 rfl (by decide +kernel : decode cX12_road 5 = .ok (.aload_n 0, 1)) ?_
  refine r_iloadn h (q := 1) 1 rfl (by decide +kernel : decode cX12_road 6 = .ok (.iload_n 1, 1)) ?_
  obtain ⟨P2, hSP2, H⟩ := H
  refine r_callV h (as := [vi x1]) (S := []) (b := 1) m_Mod_390 hSP2 (by decide) (Nat.le_refl _) rfl at1M rfl (Nat.le_of_ble_eq_true rfl) (by decide +kernel : decode cX12_road 7 = .ok (.invokevirtual 390, 3)) ?_
  rintro _ _ M2 ⟨rfl, r1, rfl, hP⟩
  have H := H r1 M2 hP
  show K NM RRM _ _ [vi r1] _
  obtain ⟨g1, H⟩ := H
  obtain ⟨H1, H2⟩ := H
  refine r_if_ne h 15 g1 (by decide) (by decide +kernel : decode cX12_road 10 = .ok (.ifCond .ne 5, 3)) (fun hc => ?_) (fun hc => ?_)
  · have H := H1 hc
    refine r_aloadn h (q := 0) 0 rfl (by decide +kernel : decode cX12_road 15 = .ok (.aload_n 0, 1)) ?_
    obtain ⟨P3, hSP3, H⟩ := H
    refine r_callV h (as := []) (S := []) (b := 1) m_Mod_397 hSP3 (by decide) (Nat.le_refl _) rfl at1M rfl (Nat.le_of_ble_eq_true rfl) (by decide +kernel : decode cX12_road 16 = .ok (.invokevirtual 397, 3)) ?_
    rintro _ _ M3 ⟨rfl, rfl, hP⟩
    have H := H M3 hP
    show K NM RRM _ _ [] _
    refine r_aloadn h (q := 0) 0 rfl (by decide +kernel : decode cX12_road 19 = .ok (.aload_n 0, 1)) ?_
    refine r_getR h (r := 34) f_Mod_108 at1M rfl (by decide) (by decide +kernel : decode cX12_road 20 = .ok (.getfield 108, 3)) ?_
    refine r_iconst h (v := 4) (by decide +kernel : decode cX12_road 23 = .ok (.iconst 4, 1)) ?_
    refine r_dup2 h rfl rfl (by decide +kernel : decode cX12_road 24 = .ok (.dup2, 1)) ?_
    refine r_iald h 4 rfl atM_34 (by decide) (by decide) (by decide +kernel : decode cX12_road 25 = .ok (.iaload, 1)) ?_
    refine r_iconst h (v := 1) (by decide +kernel : decode cX12_road 26 = .ok (.iconst 1, 1)) ?_
    refine r_iloadn h (q := 1) 1 rfl (by decide +kernel : decode cX12_road 27 = .ok (.iload_n 1, 1)) ?_
    refine r_ishl h (by decide +kernel : decode cX12_road 28 = .ok (.ishl, 1)) ?_
    refine r_ixor h (by decide +kernel : decode cX12_road 29 = .ok (.ixor, 1)) ?_
    refine r_iast h 4 rfl atM_34 (by decide) (by decide) (by decide +kernel : decode cX12_road 30 = .ok (.iastore, 1)) ?_
    have H := H _ rfl
    revert H
    generalize (upr M3 34 (up1 (M3 34) 4 (xorI (M3 34 4) (shlI 1 x1)))) = M4
    intro H
    refine r_iconst h (v := 1) (by decide +kernel : decode cX12_road 31 = .ok (.iconst 1, 1)) ?_
    exact r_zret h rfl (by decide) (by decide +kernel : decode cX12_road 32 = .ok (.ireturn, 1)) rfl ⟨rfl, _, rfl, H⟩
  · have H := H2 hc
    refine r_iconst h (v := 0) (by decide +kernel : decode cX12_road 13 = .ok (.iconst 0, 1)) ?_
    exact r_zret h rfl (by decide) (by decide +kernel : decode cX12_road 14 = .ok (.ireturn, 1)) rfl ⟨rfl, _, rfl, H⟩
theorem W_Mod_road (x1 : Int) (M : Mm) {P : Int → Mm → Prop} (H : ∀ M1 : Mm, M1 = (upr M 1 (up1 (M 1) 0 0)) → ∃ P2 : Int → Mm → Prop, S_Mod_isHouse x1 M1 P2 ∧ ∀ (r1 : Int) (M2 : Mm), P2 r1 M2 → (rng r1) ∧ (r1 ≠ 0 → (∃ P3 : Mm → Prop, S_Mod_keeps  M2 P3 ∧ ∀ M3 : Mm, P3 M3 → ∀ M4 : Mm, M4 = (upr M3 34 (up1 (M3 34) 4 (xorI (M3 34 4) (shlI 1 x1)))) → P 1 M4)) ∧ (r1 = 0 → (P 0 M2))) : S_Mod_road x1 M P := e_Mod_road x1 M (fun _ h => w_Mod_road_0 h x1 M H)
set_option maxHeartbeats 4000000 in
set_option maxRecDepth 100000 in
theorem w_Mod_sell_0 {P : Int → Mm → Prop} {K : Nat → Rr → Nat → List (Nat × AV) → List AV → Mm → Prop} (h : EK shM yX12_sell cX12_sell 2 (some .int) 3 NM NM (QI RRM P) K) (x1 : Int) (M : Mm)
    (H : ∀ M1 : Mm, M1 = (upr M 1 (up1 (M 1) 0 0)) → ∃ P2 : Int → Mm → Prop, S_Mod_within x1 1 99 M1 P2 ∧ ∀ (r1 : Int) (M2 : Mm), P2 r1 M2 → (rng r1) ∧ (r1 = 0 → (P (-1) M2)) ∧ (r1 ≠ 0 → ((rng (M2 34 2)) ∧ (rng x1) ∧ (x1 ≤ (M2 34 2) → (∃ P3 : Mm → Prop, S_Mod_keeps  M2 P3 ∧ ∀ M3 : Mm, P3 M3 → ∃ P4 : Mm → Prop, S_Mod_sells x1 M3 P4 ∧ ∀ M4 : Mm, P4 M4 → P (M4 34 3) M4)) ∧ (¬ (x1 ≤ (M2 34 2)) → (P (-1) M2))))) :
    K NM RRM 0 [(0, vr 1), (1, vi x1)] [] M := by
  refine r_aloadn h (q := 0) 0 rfl (by decide +kernel : decode cX12_sell 0 = .ok (.aload_n 0, 1)) ?_
  refine r_iconst h (v := 0) (by decide +kernel : decode cX12_sell 1 = .ok (.iconst 0, 1)) ?_
  refine r_putI h f_Mod_147 at1M rfl rfl (by decide +kernel : decode cX12_sell 2 = .ok (.putfield 147, 3)) ?_
  have H := H _ rfl
  revert H
  generalize (upr M 1 (up1 (M 1) 0 0)) = M1
  intro H
  refine r_iloadn h (q := 1) 1 rfl (by decide +kernel : decode cX12_sell 5 = .ok (.iload_n 1, 1)) ?_
  refine r_iconst h (v := 1) (by decide +kernel : decode cX12_sell 6 = .ok (.iconst 1, 1)) ?_
  refine r_bipush h (v := 99) (by decide) (by decide +kernel : decode cX12_sell 7 = .ok (.bipush 99, 2)) ?_
  obtain ⟨P2, hSP2, H⟩ := H
  refine r_callS h (as := [vi x1, vi 1, vi 99]) (S := []) m_Mod_275 hSP2 (by decide) (Nat.le_refl _) rfl rfl (Nat.le_of_ble_eq_true rfl) (by decide +kernel : decode cX12_sell 9 = .ok (.invokestatic 275, 3)) ?_
  rintro _ _ M2 ⟨rfl, r1, rfl, hP⟩
  have H := H r1 M2 hP
  show K NM RRM _ _ [vi r1] _
  obtain ⟨g1, H⟩ := H
  obtain ⟨H1, H2⟩ := H
  refine r_if_eq h 25 g1 (by decide) (by decide +kernel : decode cX12_sell 12 = .ok (.ifCond .eq 13, 3)) (fun hc => ?_) (fun hc => ?_)
  · have H := H1 hc
    refine r_iconst h (v := (-1)) (by decide +kernel : decode cX12_sell 25 = .ok (.iconst (-1), 1)) ?_
    exact r_iret h rfl (by decide +kernel : decode cX12_sell 26 = .ok (.ireturn, 1)) rfl ⟨rfl, _, rfl, H⟩
  · have H := H2 hc
    refine r_aloadn h (q := 0) 0 rfl (by decide +kernel : decode cX12_sell 15 = .ok (.aload_n 0, 1)) ?_
    refine r_getR h (r := 34) f_Mod_108 at1M rfl (by decide) (by decide +kernel : decode cX12_sell 16 = .ok (.getfield 108, 3)) ?_
    refine r_iconst h (v := 2) (by decide +kernel : decode cX12_sell 19 = .ok (.iconst 2, 1)) ?_
    refine r_iald h 2 rfl atM_34 (by decide) (by decide) (by decide +kernel : decode cX12_sell 20 = .ok (.iaload, 1)) ?_
    refine r_iloadn h (q := 1) 1 rfl (by decide +kernel : decode cX12_sell 21 = .ok (.iload_n 1, 1)) ?_
    obtain ⟨g1, g2, H⟩ := H
    obtain ⟨H1, H2⟩ := H
    refine r_icmp_ge h 27 g1 g2 (by decide) (by decide +kernel : decode cX12_sell 22 = .ok (.if_icmp .ge 5, 3)) (fun hc => ?_) (fun hc => ?_)
    · have H := H1 hc
      refine r_aloadn h (q := 0) 0 rfl (by decide +kernel : decode cX12_sell 27 = .ok (.aload_n 0, 1)) ?_
      obtain ⟨P3, hSP3, H⟩ := H
      refine r_callV h (as := []) (S := []) (b := 1) m_Mod_397 hSP3 (by decide) (Nat.le_refl _) rfl at1M rfl (Nat.le_of_ble_eq_true rfl) (by decide +kernel : decode cX12_sell 28 = .ok (.invokevirtual 397, 3)) ?_
      rintro _ _ M3 ⟨rfl, rfl, hP⟩
      have H := H M3 hP
      show K NM RRM _ _ [] _
      refine r_aloadn h (q := 0) 0 rfl (by decide +kernel : decode cX12_sell 31 = .ok (.aload_n 0, 1)) ?_
      refine r_iloadn h (q := 1) 1 rfl (by decide +kernel : decode cX12_sell 32 = .ok (.iload_n 1, 1)) ?_
      obtain ⟨P4, hSP4, H⟩ := H
      refine r_callV h (as := [vi x1]) (S := []) (b := 1) m_Mod_406 hSP4 (by decide) (Nat.le_refl _) rfl at1M rfl (Nat.le_of_ble_eq_true rfl) (by decide +kernel : decode cX12_sell 33 = .ok (.invokevirtual 406, 3)) ?_
      rintro _ _ M4 ⟨rfl, rfl, hP⟩
      have H := H M4 hP
      show K NM RRM _ _ [] _
      refine r_aloadn h (q := 0) 0 rfl (by decide +kernel : decode cX12_sell 36 = .ok (.aload_n 0, 1)) ?_
      refine r_getR h (r := 34) f_Mod_108 at1M rfl (by decide) (by decide +kernel : decode cX12_sell 37 = .ok (.getfield 108, 3)) ?_
      refine r_iconst h (v := 3) (by decide +kernel : decode cX12_sell 40 = .ok (.iconst 3, 1)) ?_
      refine r_iald h 3 rfl atM_34 (by decide) (by decide) (by decide +kernel : decode cX12_sell 41 = .ok (.iaload, 1)) ?_
      exact r_iret h rfl (by decide +kernel : decode cX12_sell 42 = .ok (.ireturn, 1)) rfl ⟨rfl, _, rfl, H⟩
    · have H := H2 hc
      refine r_iconst h (v := (-1)) (by decide +kernel : decode cX12_sell 25 = .ok (.iconst (-1), 1)) ?_
      exact r_iret h rfl (by decide +kernel : decode cX12_sell 26 = .ok (.ireturn, 1)) rfl ⟨rfl, _, rfl, H⟩
theorem W_Mod_sell (x1 : Int) (M : Mm) {P : Int → Mm → Prop} (H : ∀ M1 : Mm, M1 = (upr M 1 (up1 (M 1) 0 0)) → ∃ P2 : Int → Mm → Prop, S_Mod_within x1 1 99 M1 P2 ∧ ∀ (r1 : Int) (M2 : Mm), P2 r1 M2 → (rng r1) ∧ (r1 = 0 → (P (-1) M2)) ∧ (r1 ≠ 0 → ((rng (M2 34 2)) ∧ (rng x1) ∧ (x1 ≤ (M2 34 2) → (∃ P3 : Mm → Prop, S_Mod_keeps  M2 P3 ∧ ∀ M3 : Mm, P3 M3 → ∃ P4 : Mm → Prop, S_Mod_sells x1 M3 P4 ∧ ∀ M4 : Mm, P4 M4 → P (M4 34 3) M4)) ∧ (¬ (x1 ≤ (M2 34 2)) → (P (-1) M2))))) : S_Mod_sell x1 M P := e_Mod_sell x1 M (fun _ h => w_Mod_sell_0 h x1 M H)
set_option maxHeartbeats 4000000 in
set_option maxRecDepth 100000 in
theorem w_Mod_orders_0 {P : Int → Mm → Prop} {K : Nat → Rr → Nat → List (Nat × AV) → List AV → Mm → Prop} (h : EK shM yX12_orders cX12_orders 1 (some .int) 3 NM NM (QI RRM P) K)  (M : Mm)
    (H : ∀ M1 : Mm, M1 = (upr M 1 (up1 (M 1) 0 0)) → ∃ P2 : Int → Mm → Prop, S_Mod_laysOrders  M1 P2 ∧ ∀ (r1 : Int) (M2 : Mm), P2 r1 M2 → P r1 M2) :
    K NM RRM 0 [(0, vr 1)] [] M := by
  refine r_aloadn h (q := 0) 0 rfl (by decide +kernel : decode cX12_orders 0 = .ok (.aload_n 0, 1)) ?_
  refine r_iconst h (v := 0) (by decide +kernel : decode cX12_orders 1 = .ok (.iconst 0, 1)) ?_
  refine r_putI h f_Mod_147 at1M rfl rfl (by decide +kernel : decode cX12_orders 2 = .ok (.putfield 147, 3)) ?_
  have H := H _ rfl
  revert H
  generalize (upr M 1 (up1 (M 1) 0 0)) = M1
  intro H
  refine r_aloadn h (q := 0) 0 rfl (by decide +kernel : decode cX12_orders 5 = .ok (.aload_n 0, 1)) ?_
  obtain ⟨P2, hSP2, H⟩ := H
  refine r_callV h (as := []) (S := []) (b := 1) m_Mod_453 hSP2 (by decide) (Nat.le_refl _) rfl at1M rfl (Nat.le_of_ble_eq_true rfl) (by decide +kernel : decode cX12_orders 6 = .ok (.invokevirtual 453, 3)) ?_
  rintro _ _ M2 ⟨rfl, r1, rfl, hP⟩
  have H := H r1 M2 hP
  show K NM RRM _ _ [vi r1] _
  exact r_iret h rfl (by decide +kernel : decode cX12_orders 9 = .ok (.ireturn, 1)) rfl ⟨rfl, _, rfl, H⟩
theorem W_Mod_orders  (M : Mm) {P : Int → Mm → Prop} (H : ∀ M1 : Mm, M1 = (upr M 1 (up1 (M 1) 0 0)) → ∃ P2 : Int → Mm → Prop, S_Mod_laysOrders  M1 P2 ∧ ∀ (r1 : Int) (M2 : Mm), P2 r1 M2 → P r1 M2) : S_Mod_orders  M P := e_Mod_orders  M (fun _ h => w_Mod_orders_0 h  M H)
set_option maxHeartbeats 4000000 in
set_option maxRecDepth 100000 in
theorem w_Mod_first_0 {P : Int → Mm → Prop} {K : Nat → Rr → Nat → List (Nat × AV) → List AV → Mm → Prop} (h : EK shM yX12_first cX12_first 5 (some .int) 3 NM NM (QI RRM P) K) (x1 : Int) (M : Mm)
    (H : ∀ M1 : Mm, M1 = (upr M 1 (up1 (M 1) 0 0)) → ∃ P2 : Int → Mm → Prop, S_Mod_isHouse x1 M1 P2 ∧ ∀ (r1 : Int) (M2 : Mm), P2 r1 M2 → (rng r1) ∧ (r1 = 0 → (P (-1) M2)) ∧ (r1 ≠ 0 → (∃ P3 : Int → Mm → Prop, S_Mod_laysOrders  M2 P3 ∧ ∀ (r2 : Int) (M3 : Mm), P3 r2 M3 → (rng r2) ∧ (r2 ≠ 0 → (K NM RRM 29 [(0, vr 1), (1, vi x1), (2, vi 0), (3, vi (-1)), (4, vi 0)] [] M3)) ∧ (r2 = 0 → (P (-1) M3))))) :
    K NM RRM 0 [(0, vr 1), (1, vi x1)] [] M := by
  refine r_aloadn h (q := 0) 0 rfl (by decide +kernel : decode cX12_first 0 = .ok (.aload_n 0, 1)) ?_
  refine r_iconst h (v := 0) (by decide +kernel : decode cX12_first 1 = .ok (.iconst 0, 1)) ?_
  refine r_putI h f_Mod_147 at1M rfl rfl (by decide +kernel : decode cX12_first 2 = .ok (.putfield 147, 3)) ?_
  have H := H _ rfl
  revert H
  generalize (upr M 1 (up1 (M 1) 0 0)) = M1
  intro H
  refine r_aloadn h (q := 0) 0 rfl (by decide +kernel : decode cX12_first 5 = .ok (.aload_n 0, 1)) ?_
  refine r_iloadn h (q := 1) 1 rfl (by decide +kernel : decode cX12_first 6 = .ok (.iload_n 1, 1)) ?_
  obtain ⟨P2, hSP2, H⟩ := H
  refine r_callV h (as := [vi x1]) (S := []) (b := 1) m_Mod_390 hSP2 (by decide) (Nat.le_refl _) rfl at1M rfl (Nat.le_of_ble_eq_true rfl) (by decide +kernel : decode cX12_first 7 = .ok (.invokevirtual 390, 3)) ?_
  rintro _ _ M2 ⟨rfl, r1, rfl, hP⟩
  have H := H r1 M2 hP
  show K NM RRM _ _ [vi r1] _
  obtain ⟨g1, H⟩ := H
  obtain ⟨H1, H2⟩ := H
  refine r_if_eq h 20 g1 (by decide) (by decide +kernel : decode cX12_first 10 = .ok (.ifCond .eq 10, 3)) (fun hc => ?_) (fun hc => ?_)
  · have H := H1 hc
    refine r_iconst h (v := (-1)) (by decide +kernel : decode cX12_first 20 = .ok (.iconst (-1), 1)) ?_
    exact r_iret h rfl (by decide +kernel : decode cX12_first 21 = .ok (.ireturn, 1)) rfl ⟨rfl, _, rfl, H⟩
  · have H := H2 hc
    refine r_aloadn h (q := 0) 0 rfl (by decide +kernel : decode cX12_first 13 = .ok (.aload_n 0, 1)) ?_
    obtain ⟨P3, hSP3, H⟩ := H
    refine r_callV h (as := []) (S := []) (b := 1) m_Mod_453 hSP3 (by decide) (Nat.le_refl _) rfl at1M rfl (Nat.le_of_ble_eq_true rfl) (by decide +kernel : decode cX12_first 14 = .ok (.invokevirtual 453, 3)) ?_
    rintro _ _ M3 ⟨rfl, r2, rfl, hP⟩
    have H := H r2 M3 hP
    show K NM RRM _ _ [vi r2] _
    obtain ⟨g1, H⟩ := H
    obtain ⟨H1, H2⟩ := H
    refine r_if_ne h 22 g1 (by decide) (by decide +kernel : decode cX12_first 17 = .ok (.ifCond .ne 5, 3)) (fun hc => ?_) (fun hc => ?_)
    · have H := H1 hc
      refine r_iconst h (v := 0) (by decide +kernel : decode cX12_first 22 = .ok (.iconst 0, 1)) ?_
      refine r_istoren h (q := 2) (L' := [(2, vi 0), (0, vr 1), (1, vi x1)]) (by decide) rfl (by decide +kernel : decode cX12_first 23 = .ok (.istore_n 2, 1)) ?_
      refine r_iconst h (v := (-1)) (by decide +kernel : decode cX12_first 24 = .ok (.iconst (-1), 1)) ?_
      refine r_istoren h (q := 3) (L' := [(3, vi (-1)), (2, vi 0), (0, vr 1), (1, vi x1)]) (by decide) rfl (by decide +kernel : decode cX12_first 25 = .ok (.istore_n 3, 1)) ?_
      refine r_iconst h (v := 0) (by decide +kernel : decode cX12_first 26 = .ok (.iconst 0, 1)) ?_
      refine r_istore h (L' := [(4, vi 0), (3, vi (-1)), (2, vi 0), (0, vr 1), (1, vi x1)]) (by decide) rfl (by decide +kernel : decode cX12_first 27 = .ok (.istore 4, 2)) ?_
      refine r_drop h [3, 4, 2, 1, 0] rfl ?_
      exact H
    · have H := H2 hc
      refine r_iconst h (v := (-1)) (by decide +kernel : decode cX12_first 20 = .ok (.iconst (-1), 1)) ?_
      exact r_iret h rfl (by decide +kernel : decode cX12_first 21 = .ok (.ireturn, 1)) rfl ⟨rfl, _, rfl, H⟩
set_option maxHeartbeats 4000000 in
set_option maxRecDepth 100000 in
theorem w_Mod_first_29 {P : Int → Mm → Prop} {K : Nat → Rr → Nat → List (Nat × AV) → List AV → Mm → Prop} (h : EK shM yX12_first cX12_first 5 (some .int) 3 NM NM (QI RRM P) K) (x1 : Int) (x2 : Int) (x3 : Int) (x4 : Int) (M : Mm)
    (H : (rng x4) ∧ (rng x1) ∧ (x1 < x4 → (P x3 M)) ∧ (¬ (x1 < x4) → (K NM RRM 37 [(0, vr 1), (1, vi x1), (2, vi x2), (3, vi 0), (4, vi x4)] [] M))) :
    K NM RRM 29 [(0, vr 1), (1, vi x1), (2, vi x2), (3, vi x3), (4, vi x4)] [] M := by
  refine r_iload h 4 rfl (by decide +kernel : decode cX12_first 29 = .ok (.iload 4, 2)) ?_
  refine r_iloadn h (q := 1) 1 rfl (by decide +kernel : decode cX12_first 31 = .ok (.iload_n 1, 1)) ?_
  obtain ⟨g1, g2, H⟩ := H
  obtain ⟨H1, H2⟩ := H
  refine r_icmp_gt h 77 g1 g2 (by decide) (by decide +kernel : decode cX12_first 32 = .ok (.if_icmp .gt 45, 3)) (fun hc => ?_) (fun hc => ?_)
  · have H := H1 hc
    refine r_iloadn h (q := 3) 3 rfl (by decide +kernel : decode cX12_first 77 = .ok (.iload_n 3, 1)) ?_
    exact r_iret h rfl (by decide +kernel : decode cX12_first 78 = .ok (.ireturn, 1)) rfl ⟨rfl, _, rfl, H⟩
  · have H := H2 hc
    refine r_iconst h (v := 0) (by decide +kernel : decode cX12_first 35 = .ok (.iconst 0, 1)) ?_
    refine r_istoren h (q := 3) (L' := [(3, vi 0), (0, vr 1), (1, vi x1), (2, vi x2), (4, vi x4)]) (by decide) rfl (by decide +kernel : decode cX12_first 36 = .ok (.istore_n 3, 1)) ?_
    refine r_drop h [1, 2, 3, 0, 4] rfl ?_
    exact H
set_option maxHeartbeats 4000000 in
set_option maxRecDepth 100000 in
theorem w_Mod_first_37 {P : Int → Mm → Prop} {K : Nat → Rr → Nat → List (Nat × AV) → List AV → Mm → Prop} (h : EK shM yX12_first cX12_first 5 (some .int) 3 NM NM (QI RRM P) K) (x1 : Int) (x2 : Int) (x3 : Int) (x4 : Int) (M : Mm)
    (H : ∃ P1 : Int → Mm → Prop, S_Mod_mayFollow x2 x3 M P1 ∧ ∀ (r1 : Int) (M1 : Mm), P1 r1 M1 → (rng r1) ∧ (r1 = 0 → (K NM RRM 37 [(0, vr 1), (1, vi x1), (2, vi x2), (3, vi (x3 + 1)), (4, vi x4)] [] M1)) ∧ (r1 ≠ 0 → ((0 ≤ (orI x2 (shlI 1 x3)) ∧ (orI x2 (shlI 1 x3)) < 128) ∧ (rng (M1 43 (orI x2 (shlI 1 x3)).toNat)) ∧ ((M1 43 (orI x2 (shlI 1 x3)).toNat) ≠ 0 → (K NM RRM 29 [(0, vr 1), (1, vi x1), (2, vi (orI x2 (shlI 1 x3))), (3, vi x3), (4, vi (x4 + 1))] [] M1)) ∧ ((M1 43 (orI x2 (shlI 1 x3)).toNat) = 0 → (K NM RRM 37 [(0, vr 1), (1, vi x1), (2, vi x2), (3, vi (x3 + 1)), (4, vi x4)] [] M1))))) :
    K NM RRM 37 [(0, vr 1), (1, vi x1), (2, vi x2), (3, vi x3), (4, vi x4)] [] M := by
  refine r_aloadn h (q := 0) 0 rfl (by decide +kernel : decode cX12_first 37 = .ok (.aload_n 0, 1)) ?_
  refine r_iloadn h (q := 2) 2 rfl (by decide +kernel : decode cX12_first 38 = .ok (.iload_n 2, 1)) ?_
  refine r_iloadn h (q := 3) 3 rfl (by decide +kernel : decode cX12_first 39 = .ok (.iload_n 3, 1)) ?_
  obtain ⟨P1, hSP1, H⟩ := H
  refine r_callV h (as := [vi x2, vi x3]) (S := []) (b := 1) m_Mod_450 hSP1 (by decide) (Nat.le_refl _) rfl at1M rfl (Nat.le_of_ble_eq_true rfl) (by decide +kernel : decode cX12_first 40 = .ok (.invokevirtual 450, 3)) ?_
  rintro _ _ M1 ⟨rfl, r1, rfl, hP⟩
  have H := H r1 M1 hP
  show K NM RRM _ _ [vi r1] _
  obtain ⟨g1, H⟩ := H
  obtain ⟨H1, H2⟩ := H
  refine r_if_eq h 59 g1 (by decide) (by decide +kernel : decode cX12_first 43 = .ok (.ifCond .eq 16, 3)) (fun hc => ?_) (fun hc => ?_)
  · have H := H1 hc
    refine r_iinc h (i := 3) (v := 1) (L' := [(3, vi (x3 + 1)), (0, vr 1), (1, vi x1), (2, vi x2), (4, vi x4)]) 3 rfl (by decide) rfl (by decide +kernel : decode cX12_first 59 = .ok (.iinc 3 1, 3)) ?_
    refine r_goto h 37 (by decide) (by decide +kernel : decode cX12_first 62 = .ok (.goto (-25), 3)) ?_
    refine r_drop h [1, 2, 3, 0, 4] rfl ?_
    exact H
  · have H := H2 hc
    refine r_aloadn h (q := 0) 0 rfl (by decide +kernel : decode cX12_first 46 = .ok (.aload_n 0, 1)) ?_
    refine r_getR h (r := 43) f_Mod_135 at1M rfl (by decide) (by decide +kernel : decode cX12_first 47 = .ok (.getfield 135, 3)) ?_
    refine r_iloadn h (q := 2) 2 rfl (by decide +kernel : decode cX12_first 50 = .ok (.iload_n 2, 1)) ?_
    refine r_iconst h (v := 1) (by decide +kernel : decode cX12_first 51 = .ok (.iconst 1, 1)) ?_
    refine r_iloadn h (q := 3) 3 rfl (by decide +kernel : decode cX12_first 52 = .ok (.iload_n 3, 1)) ?_
    refine r_ishl h (by decide +kernel : decode cX12_first 53 = .ok (.ishl, 1)) ?_
    refine r_ior h (by decide +kernel : decode cX12_first 54 = .ok (.ior, 1)) ?_
    obtain ⟨g1, H⟩ := H
    refine r_iald h (orI x2 (shlI 1 x3)).toNat rfl atM_43 g1 (by decide) (by decide +kernel : decode cX12_first 55 = .ok (.iaload, 1)) ?_
    obtain ⟨g1, H⟩ := H
    obtain ⟨H1, H2⟩ := H
    refine r_if_ne h 65 g1 (by decide) (by decide +kernel : decode cX12_first 56 = .ok (.ifCond .ne 9, 3)) (fun hc => ?_) (fun hc => ?_)
    · have H := H1 hc
      refine r_iloadn h (q := 2) 2 rfl (by decide +kernel : decode cX12_first 65 = .ok (.iload_n 2, 1)) ?_
      refine r_iconst h (v := 1) (by decide +kernel : decode cX12_first 66 = .ok (.iconst 1, 1)) ?_
      refine r_iloadn h (q := 3) 3 rfl (by decide +kernel : decode cX12_first 67 = .ok (.iload_n 3, 1)) ?_
      refine r_ishl h (by decide +kernel : decode cX12_first 68 = .ok (.ishl, 1)) ?_
      refine r_ior h (by decide +kernel : decode cX12_first 69 = .ok (.ior, 1)) ?_
      refine r_istoren h (q := 2) (L' := [(2, vi (orI x2 (shlI 1 x3))), (0, vr 1), (1, vi x1), (3, vi x3), (4, vi x4)]) (by decide) rfl (by decide +kernel : decode cX12_first 70 = .ok (.istore_n 2, 1)) ?_
      refine r_iinc h (i := 4) (v := 1) (L' := [(4, vi (x4 + 1)), (2, vi (orI x2 (shlI 1 x3))), (0, vr 1), (1, vi x1), (3, vi x3)]) 4 rfl (by decide) rfl (by decide +kernel : decode cX12_first 71 = .ok (.iinc 4 1, 3)) ?_
      refine r_goto h 29 (by decide) (by decide +kernel : decode cX12_first 74 = .ok (.goto (-45), 3)) ?_
      refine r_drop h [2, 3, 1, 4, 0] rfl ?_
      exact H
    · have H := H2 hc
      refine r_iinc h (i := 3) (v := 1) (L' := [(3, vi (x3 + 1)), (0, vr 1), (1, vi x1), (2, vi x2), (4, vi x4)]) 3 rfl (by decide) rfl (by decide +kernel : decode cX12_first 59 = .ok (.iinc 3 1, 3)) ?_
      refine r_goto h 37 (by decide) (by decide +kernel : decode cX12_first 62 = .ok (.goto (-25), 3)) ?_
      refine r_drop h [1, 2, 3, 0, 4] rfl ?_
      exact H
set_option maxHeartbeats 4000000 in
set_option maxRecDepth 100000 in
theorem w_Mod_ask_0 {P : Int → Mm → Prop} {K : Nat → Rr → Nat → List (Nat × AV) → List AV → Mm → Prop} (h : EK shM yX12_ask cX12_ask 6 (some .int) 3 NM NM (QI RRM P) K)  (M : Mm)
    (H : ∀ M1 : Mm, M1 = (upr M 1 (up1 (M 1) 0 0)) → ∃ P2 : Int → Mm → Prop, S_Mod_laysOrders  M1 P2 ∧ ∀ (r1 : Int) (M2 : Mm), P2 r1 M2 → ∃ P3 : Mm → Prop, S_Mod_laysAheads  M2 P3 ∧ ∀ M3 : Mm, P3 M3 → K NM RRM 18 [(0, vr 1), (1, vi r1), (2, vi (-1)), (3, vi 0)] [] M3) :
    K NM RRM 0 [(0, vr 1)] [] M := by
  refine r_aloadn h (q := 0) 0 rfl (by decide +kernel : decode cX12_ask 0 = .ok (.aload_n 0, 1)) ?_
  refine r_iconst h (v := 0) (by decide +kernel : decode cX12_ask 1 = .ok (.iconst 0, 1)) ?_
  refine r_putI h f_Mod_147 at1M rfl rfl (by decide +kernel : decode cX12_ask 2 = .ok (.putfield 147, 3)) ?_
  have H := H _ rfl
  revert H
  generalize (upr M 1 (up1 (M 1) 0 0)) = M1
  intro H
  refine r_aloadn h (q := 0) 0 rfl (by decide +kernel : decode cX12_ask 5 = .ok (.aload_n 0, 1)) ?_
  obtain ⟨P2, hSP2, H⟩ := H
  refine r_callV h (as := []) (S := []) (b := 1) m_Mod_453 hSP2 (by decide) (Nat.le_refl _) rfl at1M rfl (Nat.le_of_ble_eq_true rfl) (by decide +kernel : decode cX12_ask 6 = .ok (.invokevirtual 453, 3)) ?_
  rintro _ _ M2 ⟨rfl, r1, rfl, hP⟩
  have H := H r1 M2 hP
  show K NM RRM _ _ [vi r1] _
  refine r_istoren h (q := 1) (L' := [(1, vi r1), (0, vr 1)]) (by decide) rfl (by decide +kernel : decode cX12_ask 9 = .ok (.istore_n 1, 1)) ?_
  refine r_aloadn h (q := 0) 1 rfl (by decide +kernel : decode cX12_ask 10 = .ok (.aload_n 0, 1)) ?_
  obtain ⟨P3, hSP3, H⟩ := H
  refine r_callV h (as := []) (S := []) (b := 1) m_Mod_456 hSP3 (by decide) (Nat.le_refl _) rfl at1M rfl (Nat.le_of_ble_eq_true rfl) (by decide +kernel : decode cX12_ask 11 = .ok (.invokevirtual 456, 3)) ?_
  rintro _ _ M3 ⟨rfl, rfl, hP⟩
  have H := H M3 hP
  show K NM RRM _ _ [] _
  refine r_iconst h (v := (-1)) (by decide +kernel : decode cX12_ask 14 = .ok (.iconst (-1), 1)) ?_
  refine r_istoren h (q := 2) (L' := [(2, vi (-1)), (1, vi r1), (0, vr 1)]) (by decide) rfl (by decide +kernel : decode cX12_ask 15 = .ok (.istore_n 2, 1)) ?_
  refine r_iconst h (v := 0) (by decide +kernel : decode cX12_ask 16 = .ok (.iconst 0, 1)) ?_
  refine r_istoren h (q := 3) (L' := [(3, vi 0), (2, vi (-1)), (1, vi r1), (0, vr 1)]) (by decide) rfl (by decide +kernel : decode cX12_ask 17 = .ok (.istore_n 3, 1)) ?_
  refine r_drop h [3, 2, 1, 0] rfl ?_
  exact H
set_option maxHeartbeats 4000000 in
set_option maxRecDepth 100000 in
theorem w_Mod_ask_18 {P : Int → Mm → Prop} {K : Nat → Rr → Nat → List (Nat × AV) → List AV → Mm → Prop} (h : EK shM yX12_ask cX12_ask 6 (some .int) 3 NM NM (QI RRM P) K) (x1 : Int) (x2 : Int) (x3 : Int) (M : Mm)
    (H : (rng x3) ∧ (rng (M 3 0)) ∧ ((M 3 0) ≤ x3 → (P x2 M)) ∧ (¬ ((M 3 0) ≤ x3) → (K NM RRM 33 [(0, vr 1), (1, vi x1), (2, vi x2), (3, vi x3), (4, vi (x3 + 1))] [] M))) :
    K NM RRM 18 [(0, vr 1), (1, vi x1), (2, vi x2), (3, vi x3)] [] M := by
  refine r_iloadn h (q := 3) 3 rfl (by decide +kernel : decode cX12_ask 18 = .ok (.iload_n 3, 1)) ?_
  refine r_aloadn h (q := 0) 0 rfl (by decide +kernel : decode cX12_ask 19 = .ok (.aload_n 0, 1)) ?_
  refine r_getR h (r := 3) f_Mod_13 at1M rfl (by decide) (by decide +kernel : decode cX12_ask 20 = .ok (.getfield 13, 3)) ?_
  refine r_iconst h (v := 0) (by decide +kernel : decode cX12_ask 23 = .ok (.iconst 0, 1)) ?_
  refine r_iald h 0 rfl atM_3 (by decide) (by decide) (by decide +kernel : decode cX12_ask 24 = .ok (.iaload, 1)) ?_
  obtain ⟨g1, g2, H⟩ := H
  obtain ⟨H1, H2⟩ := H
  refine r_icmp_ge h 105 g1 g2 (by decide) (by decide +kernel : decode cX12_ask 25 = .ok (.if_icmp .ge 80, 3)) (fun hc => ?_) (fun hc => ?_)
  · have H := H1 hc
    refine r_iloadn h (q := 2) 2 rfl (by decide +kernel : decode cX12_ask 105 = .ok (.iload_n 2, 1)) ?_
    exact r_iret h rfl (by decide +kernel : decode cX12_ask 106 = .ok (.ireturn, 1)) rfl ⟨rfl, _, rfl, H⟩
  · have H := H2 hc
    refine r_iloadn h (q := 3) 3 rfl (by decide +kernel : decode cX12_ask 28 = .ok (.iload_n 3, 1)) ?_
    refine r_iconst h (v := 1) (by decide +kernel : decode cX12_ask 29 = .ok (.iconst 1, 1)) ?_
    refine r_iadd h (by decide +kernel : decode cX12_ask 30 = .ok (.iadd, 1)) ?_
    refine r_istore h (L' := [(4, vi (x3 + 1)), (0, vr 1), (1, vi x1), (2, vi x2), (3, vi x3)]) (by decide) rfl (by decide +kernel : decode cX12_ask 31 = .ok (.istore 4, 2)) ?_
    refine r_drop h [1, 2, 3, 4, 0] rfl ?_
    exact H
set_option maxHeartbeats 4000000 in
set_option maxRecDepth 100000 in
theorem w_Mod_ask_33 {P : Int → Mm → Prop} {K : Nat → Rr → Nat → List (Nat × AV) → List AV → Mm → Prop} (h : EK shM yX12_ask cX12_ask 6 (some .int) 3 NM NM (QI RRM P) K) (x1 : Int) (x2 : Int) (x3 : Int) (x4 : Int) (M : Mm)
    (H : (rng x4) ∧ (rng (M 3 0)) ∧ ((M 3 0) ≤ x4 → (K NM RRM 18 [(0, vr 1), (1, vi x1), (2, vi x2), (3, vi (x3 + 1))] [] M)) ∧ (¬ ((M 3 0) ≤ x4) → ((0 ≤ ((7 * x3) + x4) ∧ ((7 * x3) + x4) < 49) ∧ (0 ≤ ((7 * x4) + x3) ∧ ((7 * x4) + x3) < 49) ∧ (rng (M 44 ((7 * x3) + x4).toNat)) ∧ (rng (M 44 ((7 * x4) + x3).toNat)) ∧ (rng x1) ∧ ((max (M 44 ((7 * x3) + x4).toNat) (M 44 ((7 * x4) + x3).toNat)) < x1 → (K NM RRM 33 [(0, vr 1), (1, vi (max (M 44 ((7 * x3) + x4).toNat) (M 44 ((7 * x4) + x3).toNat))), (2, vi ((8 * x3) + x4)), (3, vi x3), (4, vi (x4 + 1))] [] M)) ∧ (¬ ((max (M 44 ((7 * x3) + x4).toNat) (M 44 ((7 * x4) + x3).toNat)) < x1) → (K NM RRM 33 [(0, vr 1), (1, vi x1), (2, vi x2), (3, vi x3), (4, vi (x4 + 1))] [] M))))) :
    K NM RRM 33 [(0, vr 1), (1, vi x1), (2, vi x2), (3, vi x3), (4, vi x4)] [] M := by
  refine r_iload h 4 rfl (by decide +kernel : decode cX12_ask 33 = .ok (.iload 4, 2)) ?_
  refine r_aloadn h (q := 0) 0 rfl (by decide +kernel : decode cX12_ask 35 = .ok (.aload_n 0, 1)) ?_
  refine r_getR h (r := 3) f_Mod_13 at1M rfl (by decide) (by decide +kernel : decode cX12_ask 36 = .ok (.getfield 13, 3)) ?_
  refine r_iconst h (v := 0) (by decide +kernel : decode cX12_ask 39 = .ok (.iconst 0, 1)) ?_
  refine r_iald h 0 rfl atM_3 (by decide) (by decide) (by decide +kernel : decode cX12_ask 40 = .ok (.iaload, 1)) ?_
  obtain ⟨g1, g2, H⟩ := H
  obtain ⟨H1, H2⟩ := H
  refine r_icmp_ge h 99 g1 g2 (by decide) (by decide +kernel : decode cX12_ask 41 = .ok (.if_icmp .ge 58, 3)) (fun hc => ?_) (fun hc => ?_)
  · have H := H1 hc
    refine r_iinc h (i := 3) (v := 1) (L' := [(3, vi (x3 + 1)), (0, vr 1), (1, vi x1), (2, vi x2), (4, vi x4)]) 3 rfl (by decide) rfl (by decide +kernel : decode cX12_ask 99 = .ok (.iinc 3 1, 3)) ?_
    refine r_goto h 18 (by decide) (by decide +kernel : decode cX12_ask 102 = .ok (.goto (-84), 3)) ?_
    refine r_drop h [1, 2, 3, 0] rfl ?_
    exact H
  · have H := H2 hc
    refine r_aloadn h (q := 0) 0 rfl (by decide +kernel : decode cX12_ask 44 = .ok (.aload_n 0, 1)) ?_
    refine r_getR h (r := 44) f_Mod_138 at1M rfl (by decide) (by decide +kernel : decode cX12_ask 45 = .ok (.getfield 138, 3)) ?_
    refine r_bipush h (v := 7) (by decide) (by decide +kernel : decode cX12_ask 48 = .ok (.bipush 7, 2)) ?_
    refine r_iloadn h (q := 3) 3 rfl (by decide +kernel : decode cX12_ask 50 = .ok (.iload_n 3, 1)) ?_
    refine r_imul h (by decide +kernel : decode cX12_ask 51 = .ok (.imul, 1)) ?_
    refine r_iload h 4 rfl (by decide +kernel : decode cX12_ask 52 = .ok (.iload 4, 2)) ?_
    refine r_iadd h (by decide +kernel : decode cX12_ask 54 = .ok (.iadd, 1)) ?_
    obtain ⟨g1, H⟩ := H
    refine r_iald h ((7 * x3) + x4).toNat rfl atM_44 g1 (by decide) (by decide +kernel : decode cX12_ask 55 = .ok (.iaload, 1)) ?_
    refine r_aloadn h (q := 0) 0 rfl (by decide +kernel : decode cX12_ask 56 = .ok (.aload_n 0, 1)) ?_
    refine r_getR h (r := 44) f_Mod_138 at1M rfl (by decide) (by decide +kernel : decode cX12_ask 57 = .ok (.getfield 138, 3)) ?_
    refine r_bipush h (v := 7) (by decide) (by decide +kernel : decode cX12_ask 60 = .ok (.bipush 7, 2)) ?_
    refine r_iload h 4 rfl (by decide +kernel : decode cX12_ask 62 = .ok (.iload 4, 2)) ?_
    refine r_imul h (by decide +kernel : decode cX12_ask 64 = .ok (.imul, 1)) ?_
    refine r_iloadn h (q := 3) 3 rfl (by decide +kernel : decode cX12_ask 65 = .ok (.iload_n 3, 1)) ?_
    refine r_iadd h (by decide +kernel : decode cX12_ask 66 = .ok (.iadd, 1)) ?_
    obtain ⟨g1, H⟩ := H
    refine r_iald h ((7 * x4) + x3).toNat rfl atM_44 g1 (by decide) (by decide +kernel : decode cX12_ask 67 = .ok (.iaload, 1)) ?_
    obtain ⟨g1, g2, H⟩ := H
    refine r_max h g1 g2 kM_max_Mod (by decide) (Nat.le_refl _) (Nat.le_of_ble_eq_true rfl) (by decide +kernel : decode cX12_ask 68 = .ok (.invokestatic 447, 3)) ?_
    rw [max_if]
    have gm1 : rng (max (M 44 ((7 * x3) + x4).toNat) (M 44 ((7 * x4) + x3).toNat)) := max_rng g1 g2
    refine r_istore h (L' := [(5, vi (max (M 44 ((7 * x3) + x4).toNat) (M 44 ((7 * x4) + x3).toNat))), (0, vr 1), (1, vi x1), (2, vi x2), (3, vi x3), (4, vi x4)]) (by decide) rfl (by decide +kernel : decode cX12_ask 71 = .ok (.istore 5, 2)) ?_
    refine r_iload h 0 rfl (by decide +kernel : decode cX12_ask 73 = .ok (.iload 5, 2)) ?_
    refine r_iloadn h (q := 1) 2 rfl (by decide +kernel : decode cX12_ask 75 = .ok (.iload_n 1, 1)) ?_
    obtain ⟨g1, H⟩ := H
    obtain ⟨H1, H2⟩ := H
    refine r_icmp_lt h 82 gm1 g1 (by decide) (by decide +kernel : decode cX12_ask 76 = .ok (.if_icmp .lt 6, 3)) (fun hc => ?_) (fun hc => ?_)
    · have H := H1 hc
      refine r_iload h 0 rfl (by decide +kernel : decode cX12_ask 82 = .ok (.iload 5, 2)) ?_
      refine r_istoren h (q := 1) (L' := [(1, vi (max (M 44 ((7 * x3) + x4).toNat) (M 44 ((7 * x4) + x3).toNat))), (5, vi (max (M 44 ((7 * x3) + x4).toNat) (M 44 ((7 * x4) + x3).toNat))), (0, vr 1), (2, vi x2), (3, vi x3), (4, vi x4)]) (by decide) rfl (by decide +kernel : decode cX12_ask 84 = .ok (.istore_n 1, 1)) ?_
      refine r_bipush h (v := 8) (by decide) (by decide +kernel : decode cX12_ask 85 = .ok (.bipush 8, 2)) ?_
      refine r_iloadn h (q := 3) 4 rfl (by decide +kernel : decode cX12_ask 87 = .ok (.iload_n 3, 1)) ?_
      refine r_imul h (by decide +kernel : decode cX12_ask 88 = .ok (.imul, 1)) ?_
      refine r_iload h 5 rfl (by decide +kernel : decode cX12_ask 89 = .ok (.iload 4, 2)) ?_
      refine r_iadd h (by decide +kernel : decode cX12_ask 91 = .ok (.iadd, 1)) ?_
      refine r_istoren h (q := 2) (L' := [(2, vi ((8 * x3) + x4)), (1, vi (max (M 44 ((7 * x3) + x4).toNat) (M 44 ((7 * x4) + x3).toNat))), (5, vi (max (M 44 ((7 * x3) + x4).toNat) (M 44 ((7 * x4) + x3).toNat))), (0, vr 1), (3, vi x3), (4, vi x4)]) (by decide) rfl (by decide +kernel : decode cX12_ask 92 = .ok (.istore_n 2, 1)) ?_
      refine r_iinc h (i := 4) (v := 1) (L' := [(4, vi (x4 + 1)), (2, vi ((8 * x3) + x4)), (1, vi (max (M 44 ((7 * x3) + x4).toNat) (M 44 ((7 * x4) + x3).toNat))), (5, vi (max (M 44 ((7 * x3) + x4).toNat) (M 44 ((7 * x4) + x3).toNat))), (0, vr 1), (3, vi x3)]) 5 rfl (by decide) rfl (by decide +kernel : decode cX12_ask 93 = .ok (.iinc 4 1, 3)) ?_
      refine r_goto h 33 (by decide) (by decide +kernel : decode cX12_ask 96 = .ok (.goto (-63), 3)) ?_
      refine r_drop h [4, 2, 1, 5, 0] rfl ?_
      exact H
    · have H := H2 hc
      refine r_goto h 93 (by decide) (by decide +kernel : decode cX12_ask 79 = .ok (.goto 14, 3)) ?_
      refine r_iinc h (i := 4) (v := 1) (L' := [(4, vi (x4 + 1)), (5, vi (max (M 44 ((7 * x3) + x4).toNat) (M 44 ((7 * x4) + x3).toNat))), (0, vr 1), (1, vi x1), (2, vi x2), (3, vi x3)]) 5 rfl (by decide) rfl (by decide +kernel : decode cX12_ask 93 = .ok (.iinc 4 1, 3)) ?_
      refine r_goto h 33 (by decide) (by decide +kernel : decode cX12_ask 96 = .ok (.goto (-63), 3)) ?_
      refine r_drop h [2, 3, 4, 5, 0] rfl ?_
      exact H
set_option maxHeartbeats 4000000 in
set_option maxRecDepth 100000 in
theorem w_Mod_pin_0 {P : Int → Mm → Prop} {K : Nat → Rr → Nat → List (Nat × AV) → List AV → Mm → Prop} (h : EK shM yX12_pin cX12_pin 9 (some .int) 3 NM NM (QI RRM P) K) (x1 : Int) (x2 : Int) (x3 : Int) (M : Mm)
    (H : ∃ P1 : Int → Mm → Prop, S_Mod_within x1 0 10 M P1 ∧ ∀ (r1 : Int) (M1 : Mm), P1 r1 M1 → (rng r1) ∧ (r1 = 0 → (K NM RRM 42 [(0, vr 1), (1, vi x1), (2, vi x2), (3, vi x3)] [vi 1, vr 1] M1)) ∧ (r1 ≠ 0 → (∃ P2 : Int → Mm → Prop, S_Mod_within x2 1 8 M1 P2 ∧ ∀ (r2 : Int) (M2 : Mm), P2 r2 M2 → (rng r2) ∧ (r2 = 0 → (K NM RRM 42 [(0, vr 1), (1, vi x1), (2, vi x2), (3, vi x3)] [vi 1, vr 1] M2)) ∧ (r2 ≠ 0 → (∃ P3 : Int → Mm → Prop, S_Mod_within x3 0 1 M2 P3 ∧ ∀ (r3 : Int) (M3 : Mm), P3 r3 M3 → (rng r3) ∧ (r3 = 0 → (K NM RRM 42 [(0, vr 1), (1, vi x1), (2, vi x2), (3, vi x3)] [vi 1, vr 1] M3)) ∧ (r3 ≠ 0 → (∃ P4 : Int → Mm → Prop, S_Mod_going  M3 P4 ∧ ∀ (r4 : Int) (M4 : Mm), P4 r4 M4 → (rng r4) ∧ (r4 = 0 → (K NM RRM 42 [(0, vr 1), (1, vi x1), (2, vi x2), (3, vi x3)] [vi 1, vr 1] M4)) ∧ (r4 ≠ 0 → (K NM RRM 42 [(0, vr 1), (1, vi x1), (2, vi x2), (3, vi x3)] [vi 0, vr 1] M4))))))))) :
    K NM RRM 0 [(0, vr 1), (1, vi x1), (2, vi x2), (3, vi x3)] [] M := by
  refine r_aloadn h (q := 0) 0 rfl (by decide +kernel : decode cX12_pin 0 = .ok (.aload_n 0, 1)) ?_
  refine r_iloadn h (q := 1) 1 rfl (by decide +kernel : decode cX12_pin 1 = .ok (.iload_n 1, 1)) ?_
  refine r_iconst h (v := 0) (by decide +kernel : decode cX12_pin 2 = .ok (.iconst 0, 1)) ?_
  refine r_bipush h (v := 10) (by decide) (by decide +kernel : decode cX12_pin 3 = .ok (.bipush 10, 2)) ?_
  obtain ⟨P1, hSP1, H⟩ := H
  refine r_callS h (as := [vi x1, vi 0, vi 10]) (S := [vr 1]) m_Mod_275 hSP1 (by decide) (Nat.le_refl _) rfl rfl (Nat.le_of_ble_eq_true rfl) (by decide +kernel : decode cX12_pin 5 = .ok (.invokestatic 275, 3)) ?_
  rintro _ _ M1 ⟨rfl, r1, rfl, hP⟩
  have H := H r1 M1 hP
  show K NM RRM _ _ [vi r1, vr 1] _
  obtain ⟨g1, H⟩ := H
  obtain ⟨H1, H2⟩ := H
  refine r_if_eq h 41 g1 (by decide) (by decide +kernel : decode cX12_pin 8 = .ok (.ifCond .eq 33, 3)) (fun hc => ?_) (fun hc => ?_)
  · have H := H1 hc
    refine r_iconst h (v := 1) (by decide +kernel : decode cX12_pin 41 = .ok (.iconst 1, 1)) ?_
    exact H
  · have H := H2 hc
    refine r_iloadn h (q := 2) 2 rfl (by decide +kernel : decode cX12_pin 11 = .ok (.iload_n 2, 1)) ?_
    refine r_iconst h (v := 1) (by decide +kernel : decode cX12_pin 12 = .ok (.iconst 1, 1)) ?_
    refine r_bipush h (v := 8) (by decide) (by decide +kernel : decode cX12_pin 13 = .ok (.bipush 8, 2)) ?_
    obtain ⟨P2, hSP2, H⟩ := H
    refine r_callS h (as := [vi x2, vi 1, vi 8]) (S := [vr 1]) m_Mod_275 hSP2 (by decide) (Nat.le_refl _) rfl rfl (Nat.le_of_ble_eq_true rfl) (by decide +kernel : decode cX12_pin 15 = .ok (.invokestatic 275, 3)) ?_
    rintro _ _ M2 ⟨rfl, r2, rfl, hP⟩
    have H := H r2 M2 hP
    show K NM RRM _ _ [vi r2, vr 1] _
    obtain ⟨g1, H⟩ := H
    obtain ⟨H1, H2⟩ := H
    refine r_if_eq h 41 g1 (by decide) (by decide +kernel : decode cX12_pin 18 = .ok (.ifCond .eq 23, 3)) (fun hc => ?_) (fun hc => ?_)
    · have H := H1 hc
      refine r_iconst h (v := 1) (by decide +kernel : decode cX12_pin 41 = .ok (.iconst 1, 1)) ?_
      exact H
    · have H := H2 hc
      refine r_iloadn h (q := 3) 3 rfl (by decide +kernel : decode cX12_pin 21 = .ok (.iload_n 3, 1)) ?_
      refine r_iconst h (v := 0) (by decide +kernel : decode cX12_pin 22 = .ok (.iconst 0, 1)) ?_
      refine r_iconst h (v := 1) (by decide +kernel : decode cX12_pin 23 = .ok (.iconst 1, 1)) ?_
      obtain ⟨P3, hSP3, H⟩ := H
      refine r_callS h (as := [vi x3, vi 0, vi 1]) (S := [vr 1]) m_Mod_275 hSP3 (by decide) (Nat.le_refl _) rfl rfl (Nat.le_of_ble_eq_true rfl) (by decide +kernel : decode cX12_pin 24 = .ok (.invokestatic 275, 3)) ?_
      rintro _ _ M3 ⟨rfl, r3, rfl, hP⟩
      have H := H r3 M3 hP
      show K NM RRM _ _ [vi r3, vr 1] _
      obtain ⟨g1, H⟩ := H
      obtain ⟨H1, H2⟩ := H
      refine r_if_eq h 41 g1 (by decide) (by decide +kernel : decode cX12_pin 27 = .ok (.ifCond .eq 14, 3)) (fun hc => ?_) (fun hc => ?_)
      · have H := H1 hc
        refine r_iconst h (v := 1) (by decide +kernel : decode cX12_pin 41 = .ok (.iconst 1, 1)) ?_
        exact H
      · have H := H2 hc
        refine r_aloadn h (q := 0) 0 rfl (by decide +kernel : decode cX12_pin 30 = .ok (.aload_n 0, 1)) ?_
        obtain ⟨P4, hSP4, H⟩ := H
        refine r_callV h (as := []) (S := [vr 1]) (b := 1) m_Mod_426 hSP4 (by decide) (Nat.le_refl _) rfl at1M rfl (Nat.le_of_ble_eq_true rfl) (by decide +kernel : decode cX12_pin 31 = .ok (.invokevirtual 426, 3)) ?_
        rintro _ _ M4 ⟨rfl, r4, rfl, hP⟩
        have H := H r4 M4 hP
        show K NM RRM _ _ [vi r4, vr 1] _
        obtain ⟨g1, H⟩ := H
        obtain ⟨H1, H2⟩ := H
        refine r_if_eq h 41 g1 (by decide) (by decide +kernel : decode cX12_pin 34 = .ok (.ifCond .eq 7, 3)) (fun hc => ?_) (fun hc => ?_)
        · have H := H1 hc
          refine r_iconst h (v := 1) (by decide +kernel : decode cX12_pin 41 = .ok (.iconst 1, 1)) ?_
          exact H
        · have H := H2 hc
          refine r_iconst h (v := 0) (by decide +kernel : decode cX12_pin 37 = .ok (.iconst 0, 1)) ?_
          refine r_goto h 42 (by decide) (by decide +kernel : decode cX12_pin 38 = .ok (.goto 4, 3)) ?_
          exact H
set_option maxHeartbeats 4000000 in
set_option maxRecDepth 100000 in
theorem w_Mod_pin_42 {P : Int → Mm → Prop} {K : Nat → Rr → Nat → List (Nat × AV) → List AV → Mm → Prop} (h : EK shM yX12_pin cX12_pin 9 (some .int) 3 NM NM (QI RRM P) K) (x1 : Int) (x2 : Int) (x3 : Int) (s0 : Int) (M : Mm)
    (H : ∀ M1 : Mm, M1 = (upr M 1 (up1 (M 1) 0 s0)) → (rng (M1 1 0)) ∧ ((M1 1 0) ≠ 1 → (K NM RRM 61 [(0, vr 1), (1, vi x1), (2, vi x2), (3, vi x3), (4, vl 0), (6, vi 0)] [] M1)) ∧ ((M1 1 0) = 1 → (P 0 M1))) :
    K NM RRM 42 [(0, vr 1), (1, vi x1), (2, vi x2), (3, vi x3)] [vi s0, vr 1] M := by
  refine r_putI h f_Mod_147 at1M rfl rfl (by decide +kernel : decode cX12_pin 42 = .ok (.putfield 147, 3)) ?_
  have H := H _ rfl
  revert H
  generalize (upr M 1 (up1 (M 1) 0 s0)) = M1
  intro H
  refine r_aloadn h (q := 0) 0 rfl (by decide +kernel : decode cX12_pin 45 = .ok (.aload_n 0, 1)) ?_
  refine r_getI h f_Mod_147 at1M (by decide +kernel : decode cX12_pin 46 = .ok (.getfield 147, 3)) ?_
  refine r_iconst h (v := 1) (by decide +kernel : decode cX12_pin 49 = .ok (.iconst 1, 1)) ?_
  obtain ⟨g1, H⟩ := H
  obtain ⟨H1, H2⟩ := H
  refine r_icmp_ne h 55 g1 (by decide) (by decide) (by decide +kernel : decode cX12_pin 50 = .ok (.if_icmp .ne 5, 3)) (fun hc => ?_) (fun hc => ?_)
  · have H := H1 hc
    refine r_lconst h (v := 0) (w := 0) (by decide) (by decide +kernel : decode cX12_pin 55 = .ok (.lconst 0, 1)) ?_
    refine r_lstore h (L' := [(4, vl 0), (0, vr 1), (1, vi x1), (2, vi x2), (3, vi x3)]) (by decide) rfl (by decide +kernel : decode cX12_pin 56 = .ok (.lstore 4, 2)) ?_
    refine r_iconst h (v := 0) (by decide +kernel : decode cX12_pin 58 = .ok (.iconst 0, 1)) ?_
    refine r_istore h (L' := [(6, vi 0), (4, vl 0), (0, vr 1), (1, vi x1), (2, vi x2), (3, vi x3)]) (by decide) rfl (by decide +kernel : decode cX12_pin 59 = .ok (.istore 6, 2)) ?_
    refine r_drop h [2, 3, 4, 5, 1, 0] rfl ?_
    exact H
  · have H := H2 hc
    refine r_iconst h (v := 0) (by decide +kernel : decode cX12_pin 53 = .ok (.iconst 0, 1)) ?_
    exact r_iret h rfl (by decide +kernel : decode cX12_pin 54 = .ok (.ireturn, 1)) rfl ⟨rfl, _, rfl, H⟩
set_option maxHeartbeats 4000000 in
set_option maxRecDepth 100000 in
theorem w_Mod_pin_61 {P : Int → Mm → Prop} {K : Nat → Rr → Nat → List (Nat × AV) → List AV → Mm → Prop} (h : EK shM yX12_pin cX12_pin 9 (some .int) 3 NM NM (QI RRM P) K) (x1 : Int) (x2 : Int) (x3 : Int) (x4 : Int) (x6 : Int) (M : Mm)
    (H : (rng x6) ∧ (rng (M 3 0)) ∧ ((M 3 0) ≤ x6 → (K NM RRM 134 [(0, vr 1), (1, vi x1), (2, vi x2), (3, vi x3), (4, vl x4), (6, vi (-1)), (7, vi 0), (8, vi 0)] [] M)) ∧ (¬ ((M 3 0) ≤ x6) → (∃ P1 : Int → Mm → Prop, S_Mod_isGoing x6 M P1 ∧ ∀ (r1 : Int) (M1 : Mm), P1 r1 M1 → (rng r1) ∧ (r1 = 0 → (K NM RRM 106 [(0, vr 1), (1, vi x1), (2, vi x2), (3, vi x3), (4, vl x4), (6, vi x6)] [vl 0, vi x6, vr 45] M1)) ∧ (r1 ≠ 0 → ((0 ≤ (12 + x6) ∧ (12 + x6) < 33) ∧ (rng (M1 34 (12 + x6).toNat)) ∧ K NM RRM 106 [(0, vr 1), (1, vi x1), (2, vi x2), (3, vi x3), (4, vl x4), (6, vi x6)] [vl ((M1 34 (12 + x6).toNat) * 100000000), vi x6, vr 45] M1))))) :
    K NM RRM 61 [(0, vr 1), (1, vi x1), (2, vi x2), (3, vi x3), (4, vl x4), (6, vi x6)] [] M := by
  refine r_iload h 5 rfl (by decide +kernel : decode cX12_pin 61 = .ok (.iload 6, 2)) ?_
  refine r_aloadn h (q := 0) 0 rfl (by decide +kernel : decode cX12_pin 63 = .ok (.aload_n 0, 1)) ?_
  refine r_getR h (r := 3) f_Mod_13 at1M rfl (by decide) (by decide +kernel : decode cX12_pin 64 = .ok (.getfield 13, 3)) ?_
  refine r_iconst h (v := 0) (by decide +kernel : decode cX12_pin 67 = .ok (.iconst 0, 1)) ?_
  refine r_iald h 0 rfl atM_3 (by decide) (by decide) (by decide +kernel : decode cX12_pin 68 = .ok (.iaload, 1)) ?_
  obtain ⟨g1, g2, H⟩ := H
  obtain ⟨H1, H2⟩ := H
  refine r_icmp_ge h 125 g1 g2 (by decide) (by decide +kernel : decode cX12_pin 69 = .ok (.if_icmp .ge 56, 3)) (fun hc => ?_) (fun hc => ?_)
  · have H := H1 hc
    refine r_iconst h (v := (-1)) (by decide +kernel : decode cX12_pin 125 = .ok (.iconst (-1), 1)) ?_
    refine r_istore h (L' := [(6, vi (-1)), (0, vr 1), (1, vi x1), (2, vi x2), (3, vi x3), (4, vl x4)]) (by decide) rfl (by decide +kernel : decode cX12_pin 126 = .ok (.istore 6, 2)) ?_
    refine r_iconst h (v := 0) (by decide +kernel : decode cX12_pin 128 = .ok (.iconst 0, 1)) ?_
    refine r_istore h (L' := [(7, vi 0), (6, vi (-1)), (0, vr 1), (1, vi x1), (2, vi x2), (3, vi x3), (4, vl x4)]) (by decide) rfl (by decide +kernel : decode cX12_pin 129 = .ok (.istore 7, 2)) ?_
    refine r_iconst h (v := 0) (by decide +kernel : decode cX12_pin 131 = .ok (.iconst 0, 1)) ?_
    refine r_istore h (L' := [(8, vi 0), (7, vi 0), (6, vi (-1)), (0, vr 1), (1, vi x1), (2, vi x2), (3, vi x3), (4, vl x4)]) (by decide) rfl (by decide +kernel : decode cX12_pin 132 = .ok (.istore 8, 2)) ?_
    refine r_drop h [3, 4, 5, 6, 7, 2, 1, 0] rfl ?_
    exact H
  · have H := H2 hc
    refine r_aloadn h (q := 0) 0 rfl (by decide +kernel : decode cX12_pin 72 = .ok (.aload_n 0, 1)) ?_
    refine r_getR h (r := 45) f_Mod_141 at1M rfl (by decide) (by decide +kernel : decode cX12_pin 73 = .ok (.getfield 141, 3)) ?_
    refine r_iload h 5 rfl (by decide +kernel : decode cX12_pin 76 = .ok (.iload 6, 2)) ?_
    refine r_aloadn h (q := 0) 0 rfl (by decide +kernel : decode cX12_pin 78 = .ok (.aload_n 0, 1)) ?_
    refine r_iload h 5 rfl (by decide +kernel : decode cX12_pin 79 = .ok (.iload 6, 2)) ?_
    obtain ⟨P1, hSP1, H⟩ := H
    refine r_callV h (as := [vi x6]) (S := [vi x6, vr 45]) (b := 1) m_Mod_363 hSP1 (by decide) (Nat.le_refl _) rfl at1M rfl (Nat.le_of_ble_eq_true rfl) (by decide +kernel : decode cX12_pin 81 = .ok (.invokevirtual 363, 3)) ?_
    rintro _ _ M1 ⟨rfl, r1, rfl, hP⟩
    have H := H r1 M1 hP
    show K NM RRM _ _ [vi r1, vi x6, vr 45] _
    obtain ⟨g1, H⟩ := H
    obtain ⟨H1, H2⟩ := H
    refine r_if_eq h 105 g1 (by decide) (by decide +kernel : decode cX12_pin 84 = .ok (.ifCond .eq 21, 3)) (fun hc => ?_) (fun hc => ?_)
    · have H := H1 hc
      refine r_lconst h (v := 0) (w := 0) (by decide) (by decide +kernel : decode cX12_pin 105 = .ok (.lconst 0, 1)) ?_
      exact H
    · have H := H2 hc
      refine r_aloadn h (q := 0) 0 rfl (by decide +kernel : decode cX12_pin 87 = .ok (.aload_n 0, 1)) ?_
      refine r_getR h (r := 34) f_Mod_108 at1M rfl (by decide) (by decide +kernel : decode cX12_pin 88 = .ok (.getfield 108, 3)) ?_
      refine r_bipush h (v := 12) (by decide) (by decide +kernel : decode cX12_pin 91 = .ok (.bipush 12, 2)) ?_
      refine r_iload h 5 rfl (by decide +kernel : decode cX12_pin 93 = .ok (.iload 6, 2)) ?_
      refine r_iadd h (by decide +kernel : decode cX12_pin 95 = .ok (.iadd, 1)) ?_
      obtain ⟨g1, H⟩ := H
      refine r_iald h (12 + x6).toNat rfl atM_34 g1 (by decide) (by decide +kernel : decode cX12_pin 96 = .ok (.iaload, 1)) ?_
      obtain ⟨g1, H⟩ := H
      refine r_i2l h g1 (by decide +kernel : decode cX12_pin 97 = .ok (.i2l, 1)) ?_
      refine r_ldc2 h (v := 100000000) kc_Mod_459 (by decide +kernel : decode cX12_pin 98 = .ok (.ldc2_w 459, 3)) ?_
      refine r_lmul h (by decide +kernel : decode cX12_pin 101 = .ok (.lmul, 1)) ?_
      refine r_goto h 106 (by decide) (by decide +kernel : decode cX12_pin 102 = .ok (.goto 4, 3)) ?_
      exact H
set_option maxHeartbeats 4000000 in
set_option maxRecDepth 100000 in
theorem w_Mod_pin_134 {P : Int → Mm → Prop} {K : Nat → Rr → Nat → List (Nat × AV) → List AV → Mm → Prop} (h : EK shM yX12_pin cX12_pin 9 (some .int) 3 NM NM (QI RRM P) K) (x1 : Int) (x2 : Int) (x3 : Int) (x4 : Int) (x6 : Int) (x7 : Int) (x8 : Int) (M : Mm)
    (H : (rng x8) ∧ (rng x2) ∧ (x2 ≤ x8 → ((rng x3) ∧ (x3 ≠ 0 → (P x7 M)) ∧ (x3 = 0 → (P x6 M)))) ∧ (¬ (x2 ≤ x8) → (∃ P1 : Int → Mm → Prop, S_Mod_likeliest x1 M P1 ∧ ∀ (r1 : Int) (M1 : Mm), P1 r1 M1 → (0 ≤ r1 ∧ r1 < 7) ∧ (rng x1) ∧ (rngL x4) ∧ (x4 ≠ 0) ∧ (0 ≤ r1 ∧ r1 < 7) ∧ (rng (10 - x1)) ∧ (0 ≤ r1 ∧ r1 < 7) ∧ ∀ M2 : Mm, M2 = (upr M1 45 (up1 (M1 45) r1.toNat ((divL (M1 45 r1.toNat) 10) * (10 - x1)))) → K NM RRM 134 [(0, vr 1), (1, vi x1), (2, vi x2), (3, vi x3), (4, vl x4), (6, vi r1), (7, vi (x7 + (divL (((divL (M1 45 r1.toNat) 10) * x1) * 1000000) x4))), (8, vi (x8 + 1))] [] M2))) :
    K NM RRM 134 [(0, vr 1), (1, vi x1), (2, vi x2), (3, vi x3), (4, vl x4), (6, vi x6), (7, vi x7), (8, vi x8)] [] M := by
  refine r_iload h 7 rfl (by decide +kernel : decode cX12_pin 134 = .ok (.iload 8, 2)) ?_
  refine r_iloadn h (q := 2) 2 rfl (by decide +kernel : decode cX12_pin 136 = .ok (.iload_n 2, 1)) ?_
  obtain ⟨g1, g2, H⟩ := H
  obtain ⟨H1, H2⟩ := H
  refine r_icmp_ge h 204 g1 g2 (by decide) (by decide +kernel : decode cX12_pin 137 = .ok (.if_icmp .ge 67, 3)) (fun hc => ?_) (fun hc => ?_)
  · have H := H1 hc
    refine r_iloadn h (q := 3) 3 rfl (by decide +kernel : decode cX12_pin 204 = .ok (.iload_n 3, 1)) ?_
    obtain ⟨g1, H⟩ := H
    obtain ⟨H1, H2⟩ := H
    refine r_if_ne h 213 g1 (by decide) (by decide +kernel : decode cX12_pin 205 = .ok (.ifCond .ne 8, 3)) (fun hc => ?_) (fun hc => ?_)
    · have H := H1 hc
      refine r_iload h 6 rfl (by decide +kernel : decode cX12_pin 213 = .ok (.iload 7, 2)) ?_
      exact r_iret h rfl (by decide +kernel : decode cX12_pin 215 = .ok (.ireturn, 1)) rfl ⟨rfl, _, rfl, H⟩
    · have H := H2 hc
      refine r_iload h 5 rfl (by decide +kernel : decode cX12_pin 208 = .ok (.iload 6, 2)) ?_
      refine r_goto h 215 (by decide) (by decide +kernel : decode cX12_pin 210 = .ok (.goto 5, 3)) ?_
      exact r_iret h rfl (by decide +kernel : decode cX12_pin 215 = .ok (.ireturn, 1)) rfl ⟨rfl, _, rfl, H⟩
  · have H := H2 hc
    refine r_aloadn h (q := 0) 0 rfl (by decide +kernel : decode cX12_pin 140 = .ok (.aload_n 0, 1)) ?_
    refine r_iloadn h (q := 1) 1 rfl (by decide +kernel : decode cX12_pin 141 = .ok (.iload_n 1, 1)) ?_
    obtain ⟨P1, hSP1, H⟩ := H
    refine r_callV h (as := [vi x1]) (S := []) (b := 1) m_Mod_461 hSP1 (by decide) (Nat.le_refl _) rfl at1M rfl (Nat.le_of_ble_eq_true rfl) (by decide +kernel : decode cX12_pin 142 = .ok (.invokevirtual 461, 3)) ?_
    rintro _ _ M1 ⟨rfl, r1, rfl, hP⟩
    have H := H r1 M1 hP
    show K NM RRM _ _ [vi r1] _
    refine r_istore h (L' := [(6, vi r1), (0, vr 1), (1, vi x1), (2, vi x2), (3, vi x3), (4, vl x4), (7, vi x7), (8, vi x8)]) (by decide) rfl (by decide +kernel : decode cX12_pin 145 = .ok (.istore 6, 2)) ?_
    refine r_iload h 6 rfl (by decide +kernel : decode cX12_pin 147 = .ok (.iload 7, 2)) ?_
    refine r_aloadn h (q := 0) 1 rfl (by decide +kernel : decode cX12_pin 149 = .ok (.aload_n 0, 1)) ?_
    refine r_getR h (r := 45) f_Mod_141 at1M rfl (by decide) (by decide +kernel : decode cX12_pin 150 = .ok (.getfield 141, 3)) ?_
    refine r_iload h 0 rfl (by decide +kernel : decode cX12_pin 153 = .ok (.iload 6, 2)) ?_
    obtain ⟨g1, H⟩ := H
    refine r_lald h r1.toNat rfl atM_45 g1 (by decide) (by decide +kernel : decode cX12_pin 155 = .ok (.laload, 1)) ?_
    refine r_ldc2 h (v := 10) kc_Mod_464 (by decide +kernel : decode cX12_pin 156 = .ok (.ldc2_w 464, 3)) ?_
    refine r_ldiv h (by decide) (by decide) (by decide +kernel : decode cX12_pin 159 = .ok (.ldiv, 1)) ?_
    refine r_iloadn h (q := 1) 2 rfl (by decide +kernel : decode cX12_pin 160 = .ok (.iload_n 1, 1)) ?_
    obtain ⟨g1, H⟩ := H
    refine r_i2l h g1 (by decide +kernel : decode cX12_pin 161 = .ok (.i2l, 1)) ?_
    refine r_lmul h (by decide +kernel : decode cX12_pin 162 = .ok (.lmul, 1)) ?_
    refine r_ldc2 h (v := 1000000) kc_Mod_466 (by decide +kernel : decode cX12_pin 163 = .ok (.ldc2_w 466, 3)) ?_
    refine r_lmul h (by decide +kernel : decode cX12_pin 166 = .ok (.lmul, 1)) ?_
    refine r_lload h 5 rfl (by decide +kernel : decode cX12_pin 167 = .ok (.lload 4, 2)) ?_
    obtain ⟨g1, g2, H⟩ := H
    refine r_ldiv h g1 g2 (by decide +kernel : decode cX12_pin 169 = .ok (.ldiv, 1)) ?_
    refine r_l2i h (by decide +kernel : decode cX12_pin 170 = .ok (.l2i, 1)) ?_
    refine r_iadd h (by decide +kernel : decode cX12_pin 171 = .ok (.iadd, 1)) ?_
    refine r_istore h (L' := [(7, vi (x7 + (divL (((divL (M1 45 r1.toNat) 10) * x1) * 1000000) x4))), (6, vi r1), (0, vr 1), (1, vi x1), (2, vi x2), (3, vi x3), (4, vl x4), (8, vi x8)]) (by decide) rfl (by decide +kernel : decode cX12_pin 172 = .ok (.istore 7, 2)) ?_
    refine r_aloadn h (q := 0) 2 rfl (by decide +kernel : decode cX12_pin 174 = .ok (.aload_n 0, 1)) ?_
    refine r_getR h (r := 45) f_Mod_141 at1M rfl (by decide) (by decide +kernel : decode cX12_pin 175 = .ok (.getfield 141, 3)) ?_
    refine r_iload h 1 rfl (by decide +kernel : decode cX12_pin 178 = .ok (.iload 6, 2)) ?_
    refine r_aloadn h (q := 0) 2 rfl (by decide +kernel : decode cX12_pin 180 = .ok (.aload_n 0, 1)) ?_
    refine r_getR h (r := 45) f_Mod_141 at1M rfl (by decide) (by decide +kernel : decode cX12_pin 181 = .ok (.getfield 141, 3)) ?_
    refine r_iload h 1 rfl (by decide +kernel : decode cX12_pin 184 = .ok (.iload 6, 2)) ?_
    obtain ⟨g1, H⟩ := H
    refine r_lald h r1.toNat rfl atM_45 g1 (by decide) (by decide +kernel : decode cX12_pin 186 = .ok (.laload, 1)) ?_
    refine r_ldc2 h (v := 10) kc_Mod_464 (by decide +kernel : decode cX12_pin 187 = .ok (.ldc2_w 464, 3)) ?_
    refine r_ldiv h (by decide) (by decide) (by decide +kernel : decode cX12_pin 190 = .ok (.ldiv, 1)) ?_
    refine r_bipush h (v := 10) (by decide) (by decide +kernel : decode cX12_pin 191 = .ok (.bipush 10, 2)) ?_
    refine r_iloadn h (q := 1) 3 rfl (by decide +kernel : decode cX12_pin 193 = .ok (.iload_n 1, 1)) ?_
    refine r_isub h (by decide +kernel : decode cX12_pin 194 = .ok (.isub, 1)) ?_
    obtain ⟨g1, H⟩ := H
    refine r_i2l h g1 (by decide +kernel : decode cX12_pin 195 = .ok (.i2l, 1)) ?_
    refine r_lmul h (by decide +kernel : decode cX12_pin 196 = .ok (.lmul, 1)) ?_
    obtain ⟨g1, H⟩ := H
    refine r_last h r1.toNat rfl atM_45 g1 (by decide) (by decide +kernel : decode cX12_pin 197 = .ok (.lastore, 1)) ?_
    have H := H _ rfl
    revert H
    generalize (upr M1 45 (up1 (M1 45) r1.toNat ((divL (M1 45 r1.toNat) 10) * (10 - x1)))) = M2
    intro H
    refine r_iinc h (i := 8) (v := 1) (L' := [(8, vi (x8 + 1)), (7, vi (x7 + (divL (((divL (M1 45 r1.toNat) 10) * x1) * 1000000) x4))), (6, vi r1), (0, vr 1), (1, vi x1), (2, vi x2), (3, vi x3), (4, vl x4)]) 7 rfl (by decide) rfl (by decide +kernel : decode cX12_pin 198 = .ok (.iinc 8 1, 3)) ?_
    refine r_goto h 134 (by decide) (by decide +kernel : decode cX12_pin 201 = .ok (.goto (-67), 3)) ?_
    refine r_drop h [3, 4, 5, 6, 7, 2, 1, 0] rfl ?_
    exact H
set_option maxHeartbeats 4000000 in
set_option maxRecDepth 100000 in
theorem w_Mod_pin_106 {P : Int → Mm → Prop} {K : Nat → Rr → Nat → List (Nat × AV) → List AV → Mm → Prop} (h : EK shM yX12_pin cX12_pin 9 (some .int) 3 NM NM (QI RRM P) K) (x1 : Int) (x2 : Int) (x3 : Int) (x4 : Int) (x6 : Int) (s0 : Int) (s1 : Int) (M : Mm)
    (H : (0 ≤ s1 ∧ s1 < 7) ∧ ∀ M1 : Mm, M1 = (upr M 45 (up1 (M 45) s1.toNat s0)) → (0 ≤ x6 ∧ x6 < 7) ∧ K NM RRM 61 [(0, vr 1), (1, vi x1), (2, vi x2), (3, vi x3), (4, vl (x4 + (M1 45 x6.toNat))), (6, vi (x6 + 1))] [] M1) :
    K NM RRM 106 [(0, vr 1), (1, vi x1), (2, vi x2), (3, vi x3), (4, vl x4), (6, vi x6)] [vl s0, vi s1, vr 45] M := by
  obtain ⟨g1, H⟩ := H
  refine r_last h s1.toNat rfl atM_45 g1 (by decide) (by decide +kernel : decode cX12_pin 106 = .ok (.lastore, 1)) ?_
  have H := H _ rfl
  revert H
  generalize (upr M 45 (up1 (M 45) s1.toNat s0)) = M1
  intro H
  refine r_lload h 4 rfl (by decide +kernel : decode cX12_pin 107 = .ok (.lload 4, 2)) ?_
  refine r_aloadn h (q := 0) 0 rfl (by decide +kernel : decode cX12_pin 109 = .ok (.aload_n 0, 1)) ?_
  refine r_getR h (r := 45) f_Mod_141 at1M rfl (by decide) (by decide +kernel : decode cX12_pin 110 = .ok (.getfield 141, 3)) ?_
  refine r_iload h 5 rfl (by decide +kernel : decode cX12_pin 113 = .ok (.iload 6, 2)) ?_
  obtain ⟨g1, H⟩ := H
  refine r_lald h x6.toNat rfl atM_45 g1 (by decide) (by decide +kernel : decode cX12_pin 115 = .ok (.laload, 1)) ?_
  refine r_ladd h (by decide +kernel : decode cX12_pin 116 = .ok (.ladd, 1)) ?_
  refine r_lstore h (L' := [(4, vl (x4 + (M1 45 x6.toNat))), (0, vr 1), (1, vi x1), (2, vi x2), (3, vi x3), (6, vi x6)]) (by decide) rfl (by decide +kernel : decode cX12_pin 117 = .ok (.lstore 4, 2)) ?_
  refine r_iinc h (i := 6) (v := 1) (L' := [(6, vi (x6 + 1)), (4, vl (x4 + (M1 45 x6.toNat))), (0, vr 1), (1, vi x1), (2, vi x2), (3, vi x3)]) 5 rfl (by decide) rfl (by decide +kernel : decode cX12_pin 119 = .ok (.iinc 6 1, 3)) ?_
  refine r_goto h 61 (by decide) (by decide +kernel : decode cX12_pin 122 = .ok (.goto (-61), 3)) ?_
  refine r_drop h [2, 3, 4, 5, 1, 0] rfl ?_
  exact H
set_option maxHeartbeats 4000000 in
set_option maxRecDepth 100000 in
theorem w_Mod_rests_0 {P : Int → Mm → Prop} {K : Nat → Rr → Nat → List (Nat × AV) → List AV → Mm → Prop} (h : EK shM yX12_rests cX12_rests 6 (some .int) 3 NM NM (QI RRM P) K) (x1 : Int) (x2 : Int) (x3 : Int) (M : Mm)
    (H : ∃ P1 : Int → Mm → Prop, S_Mod_within x1 0 9 M P1 ∧ ∀ (r1 : Int) (M1 : Mm), P1 r1 M1 → (rng r1) ∧ (r1 = 0 → (K NM RRM 31 [(0, vr 1), (1, vi x1), (2, vi x2), (3, vi x3)] [vi 1, vr 1] M1)) ∧ (r1 ≠ 0 → (∃ P2 : Int → Mm → Prop, S_Mod_within x2 0 9 M1 P2 ∧ ∀ (r2 : Int) (M2 : Mm), P2 r2 M2 → (rng r2) ∧ (r2 = 0 → (K NM RRM 31 [(0, vr 1), (1, vi x1), (2, vi x2), (3, vi x3)] [vi 1, vr 1] M2)) ∧ (r2 ≠ 0 → ((rng x3) ∧ (x3 < (-1) → (K NM RRM 31 [(0, vr 1), (1, vi x1), (2, vi x2), (3, vi x3)] [vi 1, vr 1] M2)) ∧ (¬ (x3 < (-1)) → (K NM RRM 31 [(0, vr 1), (1, vi x1), (2, vi x2), (3, vi x3)] [vi 0, vr 1] M2))))))) :
    K NM RRM 0 [(0, vr 1), (1, vi x1), (2, vi x2), (3, vi x3)] [] M := by
  refine r_aloadn h (q := 0) 0 rfl (by decide +kernel : decode cX12_rests 0 = .ok (.aload_n 0, 1)) ?_
  refine r_iloadn h (q := 1) 1 rfl (by decide +kernel : decode cX12_rests 1 = .ok (.iload_n 1, 1)) ?_
  refine r_iconst h (v := 0) (by decide +kernel : decode cX12_rests 2 = .ok (.iconst 0, 1)) ?_
  refine r_bipush h (v := 9) (by decide) (by decide +kernel : decode cX12_rests 3 = .ok (.bipush 9, 2)) ?_
  obtain ⟨P1, hSP1, H⟩ := H
  refine r_callS h (as := [vi x1, vi 0, vi 9]) (S := [vr 1]) m_Mod_275 hSP1 (by decide) (Nat.le_refl _) rfl rfl (Nat.le_of_ble_eq_true rfl) (by decide +kernel : decode cX12_rests 5 = .ok (.invokestatic 275, 3)) ?_
  rintro _ _ M1 ⟨rfl, r1, rfl, hP⟩
  have H := H r1 M1 hP
  show K NM RRM _ _ [vi r1, vr 1] _
  obtain ⟨g1, H⟩ := H
  obtain ⟨H1, H2⟩ := H
  refine r_if_eq h 30 g1 (by decide) (by decide +kernel : decode cX12_rests 8 = .ok (.ifCond .eq 22, 3)) (fun hc => ?_) (fun hc => ?_)
  · have H := H1 hc
    refine r_iconst h (v := 1) (by decide +kernel : decode cX12_rests 30 = .ok (.iconst 1, 1)) ?_
    exact H
  · have H := H2 hc
    refine r_iloadn h (q := 2) 2 rfl (by decide +kernel : decode cX12_rests 11 = .ok (.iload_n 2, 1)) ?_
    refine r_iconst h (v := 0) (by decide +kernel : decode cX12_rests 12 = .ok (.iconst 0, 1)) ?_
    refine r_bipush h (v := 9) (by decide) (by decide +kernel : decode cX12_rests 13 = .ok (.bipush 9, 2)) ?_
    obtain ⟨P2, hSP2, H⟩ := H
    refine r_callS h (as := [vi x2, vi 0, vi 9]) (S := [vr 1]) m_Mod_275 hSP2 (by decide) (Nat.le_refl _) rfl rfl (Nat.le_of_ble_eq_true rfl) (by decide +kernel : decode cX12_rests 15 = .ok (.invokestatic 275, 3)) ?_
    rintro _ _ M2 ⟨rfl, r2, rfl, hP⟩
    have H := H r2 M2 hP
    show K NM RRM _ _ [vi r2, vr 1] _
    obtain ⟨g1, H⟩ := H
    obtain ⟨H1, H2⟩ := H
    refine r_if_eq h 30 g1 (by decide) (by decide +kernel : decode cX12_rests 18 = .ok (.ifCond .eq 12, 3)) (fun hc => ?_) (fun hc => ?_)
    · have H := H1 hc
      refine r_iconst h (v := 1) (by decide +kernel : decode cX12_rests 30 = .ok (.iconst 1, 1)) ?_
      exact H
    · have H := H2 hc
      refine r_iloadn h (q := 3) 3 rfl (by decide +kernel : decode cX12_rests 21 = .ok (.iload_n 3, 1)) ?_
      refine r_iconst h (v := (-1)) (by decide +kernel : decode cX12_rests 22 = .ok (.iconst (-1), 1)) ?_
      obtain ⟨g1, H⟩ := H
      obtain ⟨H1, H2⟩ := H
      refine r_icmp_lt h 30 g1 (by decide) (by decide) (by decide +kernel : decode cX12_rests 23 = .ok (.if_icmp .lt 7, 3)) (fun hc => ?_) (fun hc => ?_)
      · have H := H1 hc
        refine r_iconst h (v := 1) (by decide +kernel : decode cX12_rests 30 = .ok (.iconst 1, 1)) ?_
        exact H
      · have H := H2 hc
        refine r_iconst h (v := 0) (by decide +kernel : decode cX12_rests 26 = .ok (.iconst 0, 1)) ?_
        refine r_goto h 31 (by decide) (by decide +kernel : decode cX12_rests 27 = .ok (.goto 4, 3)) ?_
        exact H
set_option maxHeartbeats 4000000 in
set_option maxRecDepth 100000 in
theorem w_Mod_rests_31 {P : Int → Mm → Prop} {K : Nat → Rr → Nat → List (Nat × AV) → List AV → Mm → Prop} (h : EK shM yX12_rests cX12_rests 6 (some .int) 3 NM NM (QI RRM P) K) (x1 : Int) (x2 : Int) (x3 : Int) (s0 : Int) (M : Mm)
    (H : ∀ M1 : Mm, M1 = (upr M 1 (up1 (M 1) 0 s0)) → (rng (M1 1 0)) ∧ ((M1 1 0) ≠ 1 → (K NM RRM 50 [(0, vr 1), (1, vi x1), (2, vi x2), (3, vi x3), (4, vi 0), (5, vi 0)] [] M1)) ∧ ((M1 1 0) = 1 → (P 0 M1))) :
    K NM RRM 31 [(0, vr 1), (1, vi x1), (2, vi x2), (3, vi x3)] [vi s0, vr 1] M := by
  refine r_putI h f_Mod_147 at1M rfl rfl (by decide +kernel : decode cX12_rests 31 = .ok (.putfield 147, 3)) ?_
  have H := H _ rfl
  revert H
  generalize (upr M 1 (up1 (M 1) 0 s0)) = M1
  intro H
  refine r_aloadn h (q := 0) 0 rfl (by decide +kernel : decode cX12_rests 34 = .ok (.aload_n 0, 1)) ?_
  refine r_getI h f_Mod_147 at1M (by decide +kernel : decode cX12_rests 35 = .ok (.getfield 147, 3)) ?_
  refine r_iconst h (v := 1) (by decide +kernel : decode cX12_rests 38 = .ok (.iconst 1, 1)) ?_
  obtain ⟨g1, H⟩ := H
  obtain ⟨H1, H2⟩ := H
  refine r_icmp_ne h 44 g1 (by decide) (by decide) (by decide +kernel : decode cX12_rests 39 = .ok (.if_icmp .ne 5, 3)) (fun hc => ?_) (fun hc => ?_)
  · have H := H1 hc
    refine r_iconst h (v := 0) (by decide +kernel : decode cX12_rests 44 = .ok (.iconst 0, 1)) ?_
    refine r_istore h (L' := [(4, vi 0), (0, vr 1), (1, vi x1), (2, vi x2), (3, vi x3)]) (by decide) rfl (by decide +kernel : decode cX12_rests 45 = .ok (.istore 4, 2)) ?_
    refine r_iconst h (v := 0) (by decide +kernel : decode cX12_rests 47 = .ok (.iconst 0, 1)) ?_
    refine r_istore h (L' := [(5, vi 0), (4, vi 0), (0, vr 1), (1, vi x1), (2, vi x2), (3, vi x3)]) (by decide) rfl (by decide +kernel : decode cX12_rests 48 = .ok (.istore 5, 2)) ?_
    refine r_drop h [2, 3, 4, 5, 1, 0] rfl ?_
    exact H
  · have H := H2 hc
    refine r_iconst h (v := 0) (by decide +kernel : decode cX12_rests 42 = .ok (.iconst 0, 1)) ?_
    exact r_iret h rfl (by decide +kernel : decode cX12_rests 43 = .ok (.ireturn, 1)) rfl ⟨rfl, _, rfl, H⟩
set_option maxHeartbeats 4000000 in
set_option maxRecDepth 100000 in
theorem w_Mod_rests_50 {P : Int → Mm → Prop} {K : Nat → Rr → Nat → List (Nat × AV) → List AV → Mm → Prop} (h : EK shM yX12_rests cX12_rests 6 (some .int) 3 NM NM (QI RRM P) K) (x1 : Int) (x2 : Int) (x3 : Int) (x4 : Int) (x5 : Int) (M : Mm)
    (H : (rng x5) ∧ (100 ≤ x5 → ((rng x3) ∧ (x3 ≠ (-1) → (∀ M1 : Mm, M1 = (upr M 1 (up1 (M 1) 0 1)) → (rng x3) ∧ (x3 ≠ (-1) → (P 0 M1)) ∧ (x3 = (-1) → (P x4 M1)))) ∧ (x3 = (-1) → (∀ M2 : Mm, M2 = (upr M 1 (up1 (M 1) 0 0)) → (rng x3) ∧ (x3 ≠ (-1) → (P 0 M2)) ∧ (x3 = (-1) → (P x4 M2)))))) ∧ (¬ (100 ≤ x5) → (∃ P3 : Int → Mm → Prop, S_Mod_isRest x1 x2 (divI x5 10) (remI x5 10) M P3 ∧ ∀ (r1 : Int) (M3 : Mm), P3 r1 M3 → (rng r1) ∧ (r1 ≠ 0 → ((rng x4) ∧ (rng x3) ∧ (x4 ≠ x3 → (K NM RRM 50 [(0, vr 1), (1, vi x1), (2, vi x2), (3, vi x3), (4, vi (x4 + 1)), (5, vi (x5 + 1))] [] M3)) ∧ (x4 = x3 → (P x5 M3)))) ∧ (r1 = 0 → (K NM RRM 50 [(0, vr 1), (1, vi x1), (2, vi x2), (3, vi x3), (4, vi x4), (5, vi (x5 + 1))] [] M3))))) :
    K NM RRM 50 [(0, vr 1), (1, vi x1), (2, vi x2), (3, vi x3), (4, vi x4), (5, vi x5)] [] M := by
  refine r_iload h 5 rfl (by decide +kernel : decode cX12_rests 50 = .ok (.iload 5, 2)) ?_
  refine r_bipush h (v := 100) (by decide) (by decide +kernel : decode cX12_rests 52 = .ok (.bipush 100, 2)) ?_
  obtain ⟨g1, H⟩ := H
  obtain ⟨H1, H2⟩ := H
  refine r_icmp_ge h 96 g1 (by decide) (by decide) (by decide +kernel : decode cX12_rests 54 = .ok (.if_icmp .ge 42, 3)) (fun hc => ?_) (fun hc => ?_)
  · have H := H1 hc
    refine r_aloadn h (q := 0) 0 rfl (by decide +kernel : decode cX12_rests 96 = .ok (.aload_n 0, 1)) ?_
    refine r_iloadn h (q := 3) 3 rfl (by decide +kernel : decode cX12_rests 97 = .ok (.iload_n 3, 1)) ?_
    refine r_iconst h (v := (-1)) (by decide +kernel : decode cX12_rests 98 = .ok (.iconst (-1), 1)) ?_
    obtain ⟨g1, H⟩ := H
    obtain ⟨H1, H2⟩ := H
    refine r_icmp_ne h 106 g1 (by decide) (by decide) (by decide +kernel : decode cX12_rests 99 = .ok (.if_icmp .ne 7, 3)) (fun hc => ?_) (fun hc => ?_)
    · have H := H1 hc
      refine r_iconst h (v := 1) (by decide +kernel : decode cX12_rests 106 = .ok (.iconst 1, 1)) ?_
      refine r_putI h f_Mod_147 at1M rfl rfl (by decide +kernel : decode cX12_rests 107 = .ok (.putfield 147, 3)) ?_
      have H := H _ rfl
      revert H
      generalize (upr M 1 (up1 (M 1) 0 1)) = M1
      intro H
      refine r_iloadn h (q := 3) 3 rfl (by decide +kernel : decode cX12_rests 110 = .ok (.iload_n 3, 1)) ?_
      refine r_iconst h (v := (-1)) (by decide +kernel : decode cX12_rests 111 = .ok (.iconst (-1), 1)) ?_
      obtain ⟨g1, H⟩ := H
      obtain ⟨H1, H2⟩ := H
      refine r_icmp_ne h 120 g1 (by decide) (by decide) (by decide +kernel : decode cX12_rests 112 = .ok (.if_icmp .ne 8, 3)) (fun hc => ?_) (fun hc => ?_)
      · have H := H1 hc
        refine r_iconst h (v := 0) (by decide +kernel : decode cX12_rests 120 = .ok (.iconst 0, 1)) ?_
        exact r_iret h rfl (by decide +kernel : decode cX12_rests 121 = .ok (.ireturn, 1)) rfl ⟨rfl, _, rfl, H⟩
      · have H := H2 hc
        refine r_iload h 4 rfl (by decide +kernel : decode cX12_rests 115 = .ok (.iload 4, 2)) ?_
        refine r_goto h 121 (by decide) (by decide +kernel : decode cX12_rests 117 = .ok (.goto 4, 3)) ?_
        exact r_iret h rfl (by decide +kernel : decode cX12_rests 121 = .ok (.ireturn, 1)) rfl ⟨rfl, _, rfl, H⟩
    · have H := H2 hc
      refine r_iconst h (v := 0) (by decide +kernel : decode cX12_rests 102 = .ok (.iconst 0, 1)) ?_
      refine r_goto h 107 (by decide) (by decide +kernel : decode cX12_rests 103 = .ok (.goto 4, 3)) ?_
      refine r_putI h f_Mod_147 at1M rfl rfl (by decide +kernel : decode cX12_rests 107 = .ok (.putfield 147, 3)) ?_
      have H := H _ rfl
      revert H
      generalize (upr M 1 (up1 (M 1) 0 0)) = M2
      intro H
      refine r_iloadn h (q := 3) 3 rfl (by decide +kernel : decode cX12_rests 110 = .ok (.iload_n 3, 1)) ?_
      refine r_iconst h (v := (-1)) (by decide +kernel : decode cX12_rests 111 = .ok (.iconst (-1), 1)) ?_
      obtain ⟨g1, H⟩ := H
      obtain ⟨H1, H2⟩ := H
      refine r_icmp_ne h 120 g1 (by decide) (by decide) (by decide +kernel : decode cX12_rests 112 = .ok (.if_icmp .ne 8, 3)) (fun hc => ?_) (fun hc => ?_)
      · have H := H1 hc
        refine r_iconst h (v := 0) (by decide +kernel : decode cX12_rests 120 = .ok (.iconst 0, 1)) ?_
        exact r_iret h rfl (by decide +kernel : decode cX12_rests 121 = .ok (.ireturn, 1)) rfl ⟨rfl, _, rfl, H⟩
      · have H := H2 hc
        refine r_iload h 4 rfl (by decide +kernel : decode cX12_rests 115 = .ok (.iload 4, 2)) ?_
        refine r_goto h 121 (by decide) (by decide +kernel : decode cX12_rests 117 = .ok (.goto 4, 3)) ?_
        exact r_iret h rfl (by decide +kernel : decode cX12_rests 121 = .ok (.ireturn, 1)) rfl ⟨rfl, _, rfl, H⟩
  · have H := H2 hc
    refine r_iloadn h (q := 1) 1 rfl (by decide +kernel : decode cX12_rests 57 = .ok (.iload_n 1, 1)) ?_
    refine r_iloadn h (q := 2) 2 rfl (by decide +kernel : decode cX12_rests 58 = .ok (.iload_n 2, 1)) ?_
    refine r_iload h 5 rfl (by decide +kernel : decode cX12_rests 59 = .ok (.iload 5, 2)) ?_
    refine r_bipush h (v := 10) (by decide) (by decide +kernel : decode cX12_rests 61 = .ok (.bipush 10, 2)) ?_
    refine r_idiv h (by decide) (by decide) (by decide +kernel : decode cX12_rests 63 = .ok (.idiv, 1)) ?_
    refine r_iload h 5 rfl (by decide +kernel : decode cX12_rests 64 = .ok (.iload 5, 2)) ?_
    refine r_bipush h (v := 10) (by decide) (by decide +kernel : decode cX12_rests 66 = .ok (.bipush 10, 2)) ?_
    refine r_irem h (by decide) (by decide) (by decide +kernel : decode cX12_rests 68 = .ok (.irem, 1)) ?_
    obtain ⟨P3, hSP3, H⟩ := H
    refine r_callS h (as := [vi x1, vi x2, vi (divI x5 10), vi (remI x5 10)]) (S := []) m_Mod_474 hSP3 (by decide) (Nat.le_refl _) rfl rfl (Nat.le_of_ble_eq_true rfl) (by decide +kernel : decode cX12_rests 69 = .ok (.invokestatic 474, 3)) ?_
    rintro _ _ M3 ⟨rfl, r1, rfl, hP⟩
    have H := H r1 M3 hP
    show K NM RRM _ _ [vi r1] _
    obtain ⟨g1, H⟩ := H
    obtain ⟨H1, H2⟩ := H
    refine r_if_ne h 78 g1 (by decide) (by decide +kernel : decode cX12_rests 72 = .ok (.ifCond .ne 6, 3)) (fun hc => ?_) (fun hc => ?_)
    · have H := H1 hc
      refine r_iload h 4 rfl (by decide +kernel : decode cX12_rests 78 = .ok (.iload 4, 2)) ?_
      refine r_iloadn h (q := 3) 3 rfl (by decide +kernel : decode cX12_rests 80 = .ok (.iload_n 3, 1)) ?_
      obtain ⟨g1, g2, H⟩ := H
      obtain ⟨H1, H2⟩ := H
      refine r_icmp_ne h 87 g1 g2 (by decide) (by decide +kernel : decode cX12_rests 81 = .ok (.if_icmp .ne 6, 3)) (fun hc => ?_) (fun hc => ?_)
      · have H := H1 hc
        refine r_iinc h (i := 4) (v := 1) (L' := [(4, vi (x4 + 1)), (0, vr 1), (1, vi x1), (2, vi x2), (3, vi x3), (5, vi x5)]) 4 rfl (by decide) rfl (by decide +kernel : decode cX12_rests 87 = .ok (.iinc 4 1, 3)) ?_
        refine r_iinc h (i := 5) (v := 1) (L' := [(5, vi (x5 + 1)), (4, vi (x4 + 1)), (0, vr 1), (1, vi x1), (2, vi x2), (3, vi x3)]) 5 rfl (by decide) rfl (by decide +kernel : decode cX12_rests 90 = .ok (.iinc 5 1, 3)) ?_
        refine r_goto h 50 (by decide) (by decide +kernel : decode cX12_rests 93 = .ok (.goto (-43), 3)) ?_
        refine r_drop h [2, 3, 4, 5, 1, 0] rfl ?_
        exact H
      · have H := H2 hc
        refine r_iload h 5 rfl (by decide +kernel : decode cX12_rests 84 = .ok (.iload 5, 2)) ?_
        exact r_iret h rfl (by decide +kernel : decode cX12_rests 86 = .ok (.ireturn, 1)) rfl ⟨rfl, _, rfl, H⟩
    · have H := H2 hc
      refine r_goto h 90 (by decide) (by decide +kernel : decode cX12_rests 75 = .ok (.goto 15, 3)) ?_
      refine r_iinc h (i := 5) (v := 1) (L' := [(5, vi (x5 + 1)), (0, vr 1), (1, vi x1), (2, vi x2), (3, vi x3), (4, vi x4)]) 5 rfl (by decide) rfl (by decide +kernel : decode cX12_rests 90 = .ok (.iinc 5 1, 3)) ?_
      refine r_goto h 50 (by decide) (by decide +kernel : decode cX12_rests 93 = .ok (.goto (-43), 3)) ?_
      refine r_drop h [1, 2, 3, 4, 5, 0] rfl ?_
      exact H
set_option maxHeartbeats 4000000 in
set_option maxRecDepth 100000 in
theorem w_Mod_livesAhead_0 {P : Mm → Prop} {K : Nat → Rr → Nat → List (Nat × AV) → List AV → Mm → Prop} (h : EK shM yX12_livesAhead cX12_livesAhead 2 none 3 NM NM (QV RRM P) K)  (M : Mm)
    (H : (rng (M 3 0)) ∧ ((M 3 0) ≠ 0 → (∃ P1 : Int → Mm → Prop, S_Mod_draws (M 3 0) M P1 ∧ ∀ (r1 : Int) (M1 : Mm), P1 r1 M1 → ∃ P2 : Int → Mm → Prop, S_Mod_draws (M1 3 0) M1 P2 ∧ ∀ (r2 : Int) (M2 : Mm), P2 r2 M2 → ∃ P3 : Mm → Prop, S_Mod_laysAt r1 r2 M2 P3 ∧ ∀ M3 : Mm, P3 M3 → ∃ P4 : Int → Mm → Prop, S_Mod_draws 4 M3 P4 ∧ ∀ (r4 : Int) (M4 : Mm), P4 r4 M4 → (rng r4) ∧ (r4 ≠ 0 → (P M4)) ∧ (r4 = 0 → (∀ M5 : Mm, M5 = (upr M4 34 (up1 (M4 34) 4 (xorI (M4 34 4) (shlI 1 r1)))) → P M5)))) ∧ ((M 3 0) = 0 → (P M))) :
    K NM RRM 0 [(0, vr 1)] [] M := by
  refine r_aloadn h (q := 0) 0 rfl (by decide +kernel : decode cX12_livesAhead 0 = .ok (.aload_n 0, 1)) ?_
  refine r_getR h (r := 3) f_Mod_13 at1M rfl (by decide) (by decide +kernel : decode cX12_livesAhead 1 = .ok (.getfield 13, 3)) ?_
  refine r_iconst h (v := 0) (by decide +kernel : decode cX12_livesAhead 4 = .ok (.iconst 0, 1)) ?_
  refine r_iald h 0 rfl atM_3 (by decide) (by decide) (by decide +kernel : decode cX12_livesAhead 5 = .ok (.iaload, 1)) ?_
  obtain ⟨g1, H⟩ := H
  obtain ⟨H1, H2⟩ := H
  refine r_if_ne h 10 g1 (by decide) (by decide +kernel : decode cX12_livesAhead 6 = .ok (.ifCond .ne 4, 3)) (fun hc => ?_) (fun hc => ?_)
  · have H := H1 hc
    refine r_aloadn h (q := 0) 0 rfl (by decide +kernel : decode cX12_livesAhead 10 = .ok (.aload_n 0, 1)) ?_
    refine r_aloadn h (q := 0) 0 rfl (by decide +kernel : decode cX12_livesAhead 11 = .ok (.aload_n 0, 1)) ?_
    refine r_getR h (r := 3) f_Mod_13 at1M rfl (by decide) (by decide +kernel : decode cX12_livesAhead 12 = .ok (.getfield 13, 3)) ?_
    refine r_iconst h (v := 0) (by decide +kernel : decode cX12_livesAhead 15 = .ok (.iconst 0, 1)) ?_
    refine r_iald h 0 rfl atM_3 (by decide) (by decide) (by decide +kernel : decode cX12_livesAhead 16 = .ok (.iaload, 1)) ?_
    obtain ⟨P1, hSP1, H⟩ := H
    refine r_callV h (as := [vi (M 3 0)]) (S := []) (b := 1) m_Mod_489 hSP1 (by decide) (Nat.le_refl _) rfl at1M rfl (Nat.le_of_ble_eq_true rfl) (by decide +kernel : decode cX12_livesAhead 17 = .ok (.invokevirtual 489, 3)) ?_
    rintro _ _ M1 ⟨rfl, r1, rfl, hP⟩
    have H := H r1 M1 hP
    show K NM RRM _ _ [vi r1] _
    refine r_istoren h (q := 1) (L' := [(1, vi r1), (0, vr 1)]) (by decide) rfl (by decide +kernel : decode cX12_livesAhead 20 = .ok (.istore_n 1, 1)) ?_
    refine r_aloadn h (q := 0) 1 rfl (by decide +kernel : decode cX12_livesAhead 21 = .ok (.aload_n 0, 1)) ?_
    refine r_iloadn h (q := 1) 0 rfl (by decide +kernel : decode cX12_livesAhead 22 = .ok (.iload_n 1, 1)) ?_
    refine r_aloadn h (q := 0) 1 rfl (by decide +kernel : decode cX12_livesAhead 23 = .ok (.aload_n 0, 1)) ?_
    refine r_aloadn h (q := 0) 1 rfl (by decide +kernel : decode cX12_livesAhead 24 = .ok (.aload_n 0, 1)) ?_
    refine r_getR h (r := 3) f_Mod_13 at1M rfl (by decide) (by decide +kernel : decode cX12_livesAhead 25 = .ok (.getfield 13, 3)) ?_
    refine r_iconst h (v := 0) (by decide +kernel : decode cX12_livesAhead 28 = .ok (.iconst 0, 1)) ?_
    refine r_iald h 0 rfl atM_3 (by decide) (by decide) (by decide +kernel : decode cX12_livesAhead 29 = .ok (.iaload, 1)) ?_
    obtain ⟨P2, hSP2, H⟩ := H
    refine r_callV h (as := [vi (M1 3 0)]) (S := [vi r1, vr 1]) (b := 1) m_Mod_489 hSP2 (by decide) (Nat.le_refl _) rfl at1M rfl (Nat.le_of_ble_eq_true rfl) (by decide +kernel : decode cX12_livesAhead 30 = .ok (.invokevirtual 489, 3)) ?_
    rintro _ _ M2 ⟨rfl, r2, rfl, hP⟩
    have H := H r2 M2 hP
    show K NM RRM _ _ [vi r2, vi r1, vr 1] _
    obtain ⟨P3, hSP3, H⟩ := H
    refine r_callV h (as := [vi r1, vi r2]) (S := []) (b := 1) m_Mod_400 hSP3 (by decide) (Nat.le_refl _) rfl at1M rfl (Nat.le_of_ble_eq_true rfl) (by decide +kernel : decode cX12_livesAhead 33 = .ok (.invokevirtual 400, 3)) ?_
    rintro _ _ M3 ⟨rfl, rfl, hP⟩
    have H := H M3 hP
    show K NM RRM _ _ [] _
    refine r_aloadn h (q := 0) 1 rfl (by decide +kernel : decode cX12_livesAhead 36 = .ok (.aload_n 0, 1)) ?_
    refine r_iconst h (v := 4) (by decide +kernel : decode cX12_livesAhead 37 = .ok (.iconst 4, 1)) ?_
    obtain ⟨P4, hSP4, H⟩ := H
    refine r_callV h (as := [vi 4]) (S := []) (b := 1) m_Mod_489 hSP4 (by decide) (Nat.le_refl _) rfl at1M rfl (Nat.le_of_ble_eq_true rfl) (by decide +kernel : decode cX12_livesAhead 38 = .ok (.invokevirtual 489, 3)) ?_
    rintro _ _ M4 ⟨rfl, r4, rfl, hP⟩
    have H := H r4 M4 hP
    show K NM RRM _ _ [vi r4] _
    obtain ⟨g1, H⟩ := H
    obtain ⟨H1, H2⟩ := H
    refine r_if_ne h 56 g1 (by decide) (by decide +kernel : decode cX12_livesAhead 41 = .ok (.ifCond .ne 15, 3)) (fun hc => ?_) (fun hc => ?_)
    · have H := H1 hc
      exact r_vret h rfl (by decide +kernel : decode cX12_livesAhead 56 = .ok (.return_, 1)) rfl ⟨rfl, rfl, H⟩
    · have H := H2 hc
      refine r_aloadn h (q := 0) 1 rfl (by decide +kernel : decode cX12_livesAhead 44 = .ok (.aload_n 0, 1)) ?_
      refine r_getR h (r := 34) f_Mod_108 at1M rfl (by decide) (by decide +kernel : decode cX12_livesAhead 45 = .ok (.getfield 108, 3)) ?_
      refine r_iconst h (v := 4) (by decide +kernel : decode cX12_livesAhead 48 = .ok (.iconst 4, 1)) ?_
      refine r_dup2 h rfl rfl (by decide +kernel : decode cX12_livesAhead 49 = .ok (.dup2, 1)) ?_
      refine r_iald h 4 rfl atM_34 (by decide) (by decide) (by decide +kernel : decode cX12_livesAhead 50 = .ok (.iaload, 1)) ?_
      refine r_iconst h (v := 1) (by decide +kernel : decode cX12_livesAhead 51 = .ok (.iconst 1, 1)) ?_
      refine r_iloadn h (q := 1) 0 rfl (by decide +kernel : decode cX12_livesAhead 52 = .ok (.iload_n 1, 1)) ?_
      refine r_ishl h (by decide +kernel : decode cX12_livesAhead 53 = .ok (.ishl, 1)) ?_
      refine r_ixor h (by decide +kernel : decode cX12_livesAhead 54 = .ok (.ixor, 1)) ?_
      refine r_iast h 4 rfl atM_34 (by decide) (by decide) (by decide +kernel : decode cX12_livesAhead 55 = .ok (.iastore, 1)) ?_
      have H := H _ rfl
      revert H
      generalize (upr M4 34 (up1 (M4 34) 4 (xorI (M4 34 4) (shlI 1 r1)))) = M5
      intro H
      exact r_vret h rfl (by decide +kernel : decode cX12_livesAhead 56 = .ok (.return_, 1)) rfl ⟨rfl, rfl, H⟩
  · have H := H2 hc
    exact r_vret h rfl (by decide +kernel : decode cX12_livesAhead 9 = .ok (.return_, 1)) rfl ⟨rfl, rfl, H⟩
theorem W_Mod_livesAhead  (M : Mm) {P : Mm → Prop} (H : (rng (M 3 0)) ∧ ((M 3 0) ≠ 0 → (∃ P1 : Int → Mm → Prop, S_Mod_draws (M 3 0) M P1 ∧ ∀ (r1 : Int) (M1 : Mm), P1 r1 M1 → ∃ P2 : Int → Mm → Prop, S_Mod_draws (M1 3 0) M1 P2 ∧ ∀ (r2 : Int) (M2 : Mm), P2 r2 M2 → ∃ P3 : Mm → Prop, S_Mod_laysAt r1 r2 M2 P3 ∧ ∀ M3 : Mm, P3 M3 → ∃ P4 : Int → Mm → Prop, S_Mod_draws 4 M3 P4 ∧ ∀ (r4 : Int) (M4 : Mm), P4 r4 M4 → (rng r4) ∧ (r4 ≠ 0 → (P M4)) ∧ (r4 = 0 → (∀ M5 : Mm, M5 = (upr M4 34 (up1 (M4 34) 4 (xorI (M4 34 4) (shlI 1 r1)))) → P M5)))) ∧ ((M 3 0) = 0 → (P M))) : S_Mod_livesAhead  M P := e_Mod_livesAhead  M (fun _ h => w_Mod_livesAhead_0 h  M H)
set_option maxHeartbeats 4000000 in
set_option maxRecDepth 100000 in
theorem w_Mod_needsBoth_0 {P : Int → Mm → Prop} {K : Nat → Rr → Nat → List (Nat × AV) → List AV → Mm → Prop} (h : EK shM yX12_needsBoth cX12_needsBoth 5 (some .boolean) 4 NM NM (QI RRM P) K) (x1 : Int) (x3 : Int) (x4 : Int) (M : Mm)
    (H : ∃ P1 : Int → Mm → Prop, S_Mod_isWord x1 M P1 ∧ ∀ (r1 : Int) (M1 : Mm), P1 r1 M1 → (rng r1) ∧ (r1 ≠ 0 → (∃ P2 : Mm → Prop, S_Mod_nextToken  M1 P2 ∧ ∀ M2 : Mm, P2 M2 → ∃ P3 : Int → Mm → Prop, S_Mod_needsNumber x3 x4 M2 P3 ∧ ∀ (r3 : Int) (M3 : Mm), P3 r3 M3 → (r3 = 0 ∨ r3 = 1) ∧ P r3 M3)) ∧ (r1 = 0 → (∃ P4 : Int → Mm → Prop, S_Mod_fails 1 M1 P4 ∧ ∀ (r4 : Int) (M4 : Mm), P4 r4 M4 → (r4 = 0 ∨ r4 = 1) ∧ P r4 M4))) :
    K NM RRM 0 [(0, vr 1), (1, vl x1), (3, vi x3), (4, vi x4)] [] M := by
  refine r_aloadn h (q := 0) 0 rfl (by decide +kernel : decode cX12_needsBoth 0 = .ok (.aload_n 0, 1)) ?_
  refine r_lloadn h (q := 1) 1 rfl (by decide +kernel : decode cX12_needsBoth 1 = .ok (.lload_n 1, 1)) ?_
  obtain ⟨P1, hSP1, H⟩ := H
  refine r_callV h (as := [vl x1]) (S := []) (b := 1) m_Mod_208 hSP1 (by decide) (Nat.le_refl _) rfl at1M rfl (Nat.le_of_ble_eq_true rfl) (by decide +kernel : decode cX12_needsBoth 2 = .ok (.invokevirtual 208, 3)) ?_
  rintro _ _ M1 ⟨rfl, r1, rfl, hP⟩
  have H := H r1 M1 hP
  show K NM RRM _ _ [vi r1] _
  obtain ⟨g1, H⟩ := H
  obtain ⟨H1, H2⟩ := H
  refine r_if_ne h 14 g1 (by decide) (by decide +kernel : decode cX12_needsBoth 5 = .ok (.ifCond .ne 9, 3)) (fun hc => ?_) (fun hc => ?_)
  · have H := H1 hc
    refine r_aloadn h (q := 0) 0 rfl (by decide +kernel : decode cX12_needsBoth 14 = .ok (.aload_n 0, 1)) ?_
    obtain ⟨P2, hSP2, H⟩ := H
    refine r_callV h (as := []) (S := []) (b := 1) m_Mod_223 hSP2 (by decide) (Nat.le_refl _) rfl at1M rfl (Nat.le_of_ble_eq_true rfl) (by decide +kernel : decode cX12_needsBoth 15 = .ok (.invokevirtual 223, 3)) ?_
    rintro _ _ M2 ⟨rfl, rfl, hP⟩
    have H := H M2 hP
    show K NM RRM _ _ [] _
    refine r_aloadn h (q := 0) 0 rfl (by decide +kernel : decode cX12_needsBoth 18 = .ok (.aload_n 0, 1)) ?_
    refine r_iloadn h (q := 3) 2 rfl (by decide +kernel : decode cX12_needsBoth 19 = .ok (.iload_n 3, 1)) ?_
    refine r_iload h 3 rfl (by decide +kernel : decode cX12_needsBoth 20 = .ok (.iload 4, 2)) ?_
    obtain ⟨P3, hSP3, H⟩ := H
    refine r_callV h (as := [vi x3, vi x4]) (S := []) (b := 1) m_Mod_282 hSP3 (by decide) (Nat.le_refl _) rfl at1M rfl (Nat.le_of_ble_eq_true rfl) (by decide +kernel : decode cX12_needsBoth 22 = .ok (.invokevirtual 282, 3)) ?_
    rintro _ _ M3 ⟨rfl, r3, rfl, hP⟩
    have H := H r3 M3 hP
    show K NM RRM _ _ [vi r3] _
    exact r_zret h rfl H.1 (by decide +kernel : decode cX12_needsBoth 25 = .ok (.ireturn, 1)) rfl ⟨rfl, _, rfl, H.2⟩
  · have H := H2 hc
    refine r_aloadn h (q := 0) 0 rfl (by decide +kernel : decode cX12_needsBoth 8 = .ok (.aload_n 0, 1)) ?_
    refine r_iconst h (v := 1) (by decide +kernel : decode cX12_needsBoth 9 = .ok (.iconst 1, 1)) ?_
    obtain ⟨P4, hSP4, H⟩ := H
    refine r_callV h (as := [vi 1]) (S := []) (b := 1) m_Mod_216 hSP4 (by decide) (Nat.le_refl _) rfl at1M rfl (Nat.le_of_ble_eq_true rfl) (by decide +kernel : decode cX12_needsBoth 10 = .ok (.invokevirtual 216, 3)) ?_
    rintro _ _ M4 ⟨rfl, r4, rfl, hP⟩
    have H := H r4 M4 hP
    show K NM RRM _ _ [vi r4] _
    exact r_zret h rfl H.1 (by decide +kernel : decode cX12_needsBoth 13 = .ok (.ireturn, 1)) rfl ⟨rfl, _, rfl, H.2⟩
theorem W_Mod_needsBoth (x1 : Int) (x3 : Int) (x4 : Int) (M : Mm) {P : Int → Mm → Prop} (H : ∃ P1 : Int → Mm → Prop, S_Mod_isWord x1 M P1 ∧ ∀ (r1 : Int) (M1 : Mm), P1 r1 M1 → (rng r1) ∧ (r1 ≠ 0 → (∃ P2 : Mm → Prop, S_Mod_nextToken  M1 P2 ∧ ∀ M2 : Mm, P2 M2 → ∃ P3 : Int → Mm → Prop, S_Mod_needsNumber x3 x4 M2 P3 ∧ ∀ (r3 : Int) (M3 : Mm), P3 r3 M3 → (r3 = 0 ∨ r3 = 1) ∧ P r3 M3)) ∧ (r1 = 0 → (∃ P4 : Int → Mm → Prop, S_Mod_fails 1 M1 P4 ∧ ∀ (r4 : Int) (M4 : Mm), P4 r4 M4 → (r4 = 0 ∨ r4 = 1) ∧ P r4 M4))) : S_Mod_needsBoth x1 x3 x4 M P := e_Mod_needsBoth x1 x3 x4 M (fun _ h => w_Mod_needsBoth_0 h x1 x3 x4 M H)
set_option maxHeartbeats 4000000 in
set_option maxRecDepth 100000 in
theorem w_Mod_readsShuns_0 {P : Int → Mm → Prop} {K : Nat → Rr → Nat → List (Nat × AV) → List AV → Mm → Prop} (h : EK shM yX12_readsShuns cX12_readsShuns 2 (some .boolean) 4 NM NM (QI RRM P) K)  (M : Mm)
    (H : ∃ P1 : Mm → Prop, S_Mod_nextToken  M P1 ∧ ∀ M1 : Mm, P1 M1 → ∃ P2 : Int → Mm → Prop, S_Mod_needsHouse 1 M1 P2 ∧ ∀ (r2 : Int) (M2 : Mm), P2 r2 M2 → (rng r2) ∧ (r2 ≠ 0 → (∃ P3 : Mm → Prop, S_Mod_nextToken  M2 P3 ∧ ∀ M3 : Mm, P3 M3 → ∃ P4 : Int → Mm → Prop, S_Mod_needsHouse 1 M3 P4 ∧ ∀ (r4 : Int) (M4 : Mm), P4 r4 M4 → (rng r4) ∧ (r4 ≠ 0 → ((rng (M2 1 36)) ∧ (rng (M4 1 36)) ∧ ((M2 1 36) = (M4 1 36) → (∃ P5 : Int → Mm → Prop, S_Mod_fails 3 M4 P5 ∧ ∀ (r5 : Int) (M5 : Mm), P5 r5 M5 → (r5 = 0 ∨ r5 = 1) ∧ P r5 M5)) ∧ ((M2 1 36) ≠ (M4 1 36) → ((0 ≤ (7 + (M2 1 36)) ∧ (7 + (M2 1 36)) < 14) ∧ ((andI (shrI (M4 9 (7 + (M2 1 36)).toNat) (M4 1 36)) 1) ≠ 1 → ((0 ≤ (7 + (M2 1 36)) ∧ (7 + (M2 1 36)) < 14) ∧ (0 ≤ (7 + (M2 1 36)) ∧ (7 + (M2 1 36)) < 14) ∧ ∀ M6 : Mm, M6 = (upr M4 9 (up1 (M4 9) (7 + (M2 1 36)).toNat (orI (M4 9 (7 + (M2 1 36)).toNat) (shlI 1 (M4 1 36))))) → ∃ P7 : Mm → Prop, S_Mod_nextToken  M6 P7 ∧ ∀ M7 : Mm, P7 M7 → ∃ P8 : Int → Mm → Prop, S_Mod_closes  M7 P8 ∧ ∀ (r7 : Int) (M8 : Mm), P8 r7 M8 → (r7 = 0 ∨ r7 = 1) ∧ P r7 M8)) ∧ ((andI (shrI (M4 9 (7 + (M2 1 36)).toNat) (M4 1 36)) 1) = 1 → (∃ P9 : Int → Mm → Prop, S_Mod_fails 3 M4 P9 ∧ ∀ (r8 : Int) (M9 : Mm), P9 r8 M9 → (r8 = 0 ∨ r8 = 1) ∧ P r8 M9)))))) ∧ (r4 = 0 → (P 0 M4)))) ∧ (r2 = 0 → (P 0 M2))) :
    K NM RRM 0 [(0, vr 1)] [] M := by
  refine r_aloadn h (q := 0) 0 rfl (by decide +kernel : decode cX12_readsShuns 0 = .ok (.aload_n 0, 1)) ?_
  obtain ⟨P1, hSP1, H⟩ := H
  refine r_callV h (as := []) (S := []) (b := 1) m_Mod_223 hSP1 (by decide) (Nat.le_refl _) rfl at1M rfl (Nat.le_of_ble_eq_true rfl) (by decide +kernel : decode cX12_readsShuns 1 = .ok (.invokevirtual 223, 3)) ?_
  rintro _ _ M1 ⟨rfl, rfl, hP⟩
  have H := H M1 hP
  show K NM RRM _ _ [] _
  refine r_aloadn h (q := 0) 0 rfl (by decide +kernel : decode cX12_readsShuns 4 = .ok (.aload_n 0, 1)) ?_
  refine r_iconst h (v := 1) (by decide +kernel : decode cX12_readsShuns 5 = .ok (.iconst 1, 1)) ?_
  obtain ⟨P2, hSP2, H⟩ := H
  refine r_callV h (as := [vi 1]) (S := []) (b := 1) m_Mod_303 hSP2 (by decide) (Nat.le_refl _) rfl at1M rfl (Nat.le_of_ble_eq_true rfl) (by decide +kernel : decode cX12_readsShuns 6 = .ok (.invokevirtual 303, 3)) ?_
  rintro _ _ M2 ⟨rfl, r2, rfl, hP⟩
  have H := H r2 M2 hP
  show K NM RRM _ _ [vi r2] _
  obtain ⟨g1, H⟩ := H
  obtain ⟨H1, H2⟩ := H
  refine r_if_ne h 14 g1 (by decide) (by decide +kernel : decode cX12_readsShuns 9 = .ok (.ifCond .ne 5, 3)) (fun hc => ?_) (fun hc => ?_)
  · have H := H1 hc
    refine r_aloadn h (q := 0) 0 rfl (by decide +kernel : decode cX12_readsShuns 14 = .ok (.aload_n 0, 1)) ?_
    refine r_getI h f_Mod_279 at1M (by decide +kernel : decode cX12_readsShuns 15 = .ok (.getfield 279, 3)) ?_
    refine r_istoren h (q := 1) (L' := [(1, vi (M2 1 36)), (0, vr 1)]) (by decide) rfl (by decide +kernel : decode cX12_readsShuns 18 = .ok (.istore_n 1, 1)) ?_
    refine r_aloadn h (q := 0) 1 rfl (by decide +kernel : decode cX12_readsShuns 19 = .ok (.aload_n 0, 1)) ?_
    obtain ⟨P3, hSP3, H⟩ := H
    refine r_callV h (as := []) (S := []) (b := 1) m_Mod_223 hSP3 (by decide) (Nat.le_refl _) rfl at1M rfl (Nat.le_of_ble_eq_true rfl) (by decide +kernel : decode cX12_readsShuns 20 = .ok (.invokevirtual 223, 3)) ?_
    rintro _ _ M3 ⟨rfl, rfl, hP⟩
    have H := H M3 hP
    show K NM RRM _ _ [] _
    refine r_aloadn h (q := 0) 1 rfl (by decide +kernel : decode cX12_readsShuns 23 = .ok (.aload_n 0, 1)) ?_
    refine r_iconst h (v := 1) (by decide +kernel : decode cX12_readsShuns 24 = .ok (.iconst 1, 1)) ?_
    obtain ⟨P4, hSP4, H⟩ := H
    refine r_callV h (as := [vi 1]) (S := []) (b := 1) m_Mod_303 hSP4 (by decide) (Nat.le_refl _) rfl at1M rfl (Nat.le_of_ble_eq_true rfl) (by decide +kernel : decode cX12_readsShuns 25 = .ok (.invokevirtual 303, 3)) ?_
    rintro _ _ M4 ⟨rfl, r4, rfl, hP⟩
    have H := H r4 M4 hP
    show K NM RRM _ _ [vi r4] _
    obtain ⟨g1, H⟩ := H
    obtain ⟨H1, H2⟩ := H
    refine r_if_ne h 33 g1 (by decide) (by decide +kernel : decode cX12_readsShuns 28 = .ok (.ifCond .ne 5, 3)) (fun hc => ?_) (fun hc => ?_)
    · have H := H1 hc
      refine r_iloadn h (q := 1) 0 rfl (by decide +kernel : decode cX12_readsShuns 33 = .ok (.iload_n 1, 1)) ?_
      refine r_aloadn h (q := 0) 1 rfl (by decide +kernel : decode cX12_readsShuns 34 = .ok (.aload_n 0, 1)) ?_
      refine r_getI h f_Mod_279 at1M (by decide +kernel : decode cX12_readsShuns 35 = .ok (.getfield 279, 3)) ?_
      obtain ⟨g1, g2, H⟩ := H
      obtain ⟨H1, H2⟩ := H
      refine r_icmp_eq h 61 g1 g2 (by decide) (by decide +kernel : decode cX12_readsShuns 38 = .ok (.if_icmp .eq 23, 3)) (fun hc => ?_) (fun hc => ?_)
      · have H := H1 hc
        refine r_aloadn h (q := 0) 1 rfl (by decide +kernel : decode cX12_readsShuns 61 = .ok (.aload_n 0, 1)) ?_
        refine r_iconst h (v := 3) (by decide +kernel : decode cX12_readsShuns 62 = .ok (.iconst 3, 1)) ?_
        obtain ⟨P5, hSP5, H⟩ := H
        refine r_callV h (as := [vi 3]) (S := []) (b := 1) m_Mod_216 hSP5 (by decide) (Nat.le_refl _) rfl at1M rfl (Nat.le_of_ble_eq_true rfl) (by decide +kernel : decode cX12_readsShuns 63 = .ok (.invokevirtual 216, 3)) ?_
        rintro _ _ M5 ⟨rfl, r5, rfl, hP⟩
        have H := H r5 M5 hP
        show K NM RRM _ _ [vi r5] _
        exact r_zret h rfl H.1 (by decide +kernel : decode cX12_readsShuns 66 = .ok (.ireturn, 1)) rfl ⟨rfl, _, rfl, H.2⟩
      · have H := H2 hc
        refine r_aloadn h (q := 0) 1 rfl (by decide +kernel : decode cX12_readsShuns 41 = .ok (.aload_n 0, 1)) ?_
        refine r_getR h (r := 9) f_Mod_32 at1M rfl (by decide) (by decide +kernel : decode cX12_readsShuns 42 = .ok (.getfield 32, 3)) ?_
        refine r_bipush h (v := 7) (by decide) (by decide +kernel : decode cX12_readsShuns 45 = .ok (.bipush 7, 2)) ?_
        refine r_iloadn h (q := 1) 0 rfl (by decide +kernel : decode cX12_readsShuns 47 = .ok (.iload_n 1, 1)) ?_
        refine r_iadd h (by decide +kernel : decode cX12_readsShuns 48 = .ok (.iadd, 1)) ?_
        obtain ⟨g1, H⟩ := H
        refine r_iald h (7 + (M2 1 36)).toNat rfl atM_9 g1 (by decide) (by decide +kernel : decode cX12_readsShuns 49 = .ok (.iaload, 1)) ?_
        refine r_aloadn h (q := 0) 1 rfl (by decide +kernel : decode cX12_readsShuns 50 = .ok (.aload_n 0, 1)) ?_
        refine r_getI h f_Mod_279 at1M (by decide +kernel : decode cX12_readsShuns 51 = .ok (.getfield 279, 3)) ?_
        refine r_ishr h (by decide +kernel : decode cX12_readsShuns 54 = .ok (.ishr, 1)) ?_
        refine r_iconst h (v := 1) (by decide +kernel : decode cX12_readsShuns 55 = .ok (.iconst 1, 1)) ?_
        refine r_iand h (by decide +kernel : decode cX12_readsShuns 56 = .ok (.iand, 1)) ?_
        refine r_iconst h (v := 1) (by decide +kernel : decode cX12_readsShuns 57 = .ok (.iconst 1, 1)) ?_
        obtain ⟨H1, H2⟩ := H
        refine r_icmp_ne h 67 (rng_toInt _) (by decide) (by decide) (by decide +kernel : decode cX12_readsShuns 58 = .ok (.if_icmp .ne 9, 3)) (fun hc => ?_) (fun hc => ?_)
        · have H := H1 hc
          refine r_aloadn h (q := 0) 1 rfl (by decide +kernel : decode cX12_readsShuns 67 = .ok (.aload_n 0, 1)) ?_
          refine r_getR h (r := 9) f_Mod_32 at1M rfl (by decide) (by decide +kernel : decode cX12_readsShuns 68 = .ok (.getfield 32, 3)) ?_
          refine r_bipush h (v := 7) (by decide) (by decide +kernel : decode cX12_readsShuns 71 = .ok (.bipush 7, 2)) ?_
          refine r_iloadn h (q := 1) 0 rfl (by decide +kernel : decode cX12_readsShuns 73 = .ok (.iload_n 1, 1)) ?_
          refine r_iadd h (by decide +kernel : decode cX12_readsShuns 74 = .ok (.iadd, 1)) ?_
          refine r_dup2 h rfl rfl (by decide +kernel : decode cX12_readsShuns 75 = .ok (.dup2, 1)) ?_
          obtain ⟨g1, H⟩ := H
          refine r_iald h (7 + (M2 1 36)).toNat rfl atM_9 g1 (by decide) (by decide +kernel : decode cX12_readsShuns 76 = .ok (.iaload, 1)) ?_
          refine r_iconst h (v := 1) (by decide +kernel : decode cX12_readsShuns 77 = .ok (.iconst 1, 1)) ?_
          refine r_aloadn h (q := 0) 1 rfl (by decide +kernel : decode cX12_readsShuns 78 = .ok (.aload_n 0, 1)) ?_
          refine r_getI h f_Mod_279 at1M (by decide +kernel : decode cX12_readsShuns 79 = .ok (.getfield 279, 3)) ?_
          refine r_ishl h (by decide +kernel : decode cX12_readsShuns 82 = .ok (.ishl, 1)) ?_
          refine r_ior h (by decide +kernel : decode cX12_readsShuns 83 = .ok (.ior, 1)) ?_
          obtain ⟨g1, H⟩ := H
          refine r_iast h (7 + (M2 1 36)).toNat rfl atM_9 g1 (by decide) (by decide +kernel : decode cX12_readsShuns 84 = .ok (.iastore, 1)) ?_
          have H := H _ rfl
          revert H
          generalize (upr M4 9 (up1 (M4 9) (7 + (M2 1 36)).toNat (orI (M4 9 (7 + (M2 1 36)).toNat) (shlI 1 (M4 1 36))))) = M6
          intro H
          refine r_aloadn h (q := 0) 1 rfl (by decide +kernel : decode cX12_readsShuns 85 = .ok (.aload_n 0, 1)) ?_
          obtain ⟨P7, hSP7, H⟩ := H
          refine r_callV h (as := []) (S := []) (b := 1) m_Mod_223 hSP7 (by decide) (Nat.le_refl _) rfl at1M rfl (Nat.le_of_ble_eq_true rfl) (by decide +kernel : decode cX12_readsShuns 86 = .ok (.invokevirtual 223, 3)) ?_
          rintro _ _ M7 ⟨rfl, rfl, hP⟩
          have H := H M7 hP
          show K NM RRM _ _ [] _
          refine r_aloadn h (q := 0) 1 rfl (by decide +kernel : decode cX12_readsShuns 89 = .ok (.aload_n 0, 1)) ?_
          obtain ⟨P8, hSP8, H⟩ := H
          refine r_callV h (as := []) (S := []) (b := 1) m_Mod_300 hSP8 (by decide) (Nat.le_refl _) rfl at1M rfl (Nat.le_of_ble_eq_true rfl) (by decide +kernel : decode cX12_readsShuns 90 = .ok (.invokevirtual 300, 3)) ?_
          rintro _ _ M8 ⟨rfl, r7, rfl, hP⟩
          have H := H r7 M8 hP
          show K NM RRM _ _ [vi r7] _
          exact r_zret h rfl H.1 (by decide +kernel : decode cX12_readsShuns 93 = .ok (.ireturn, 1)) rfl ⟨rfl, _, rfl, H.2⟩
        · have H := H2 hc
          refine r_aloadn h (q := 0) 1 rfl (by decide +kernel : decode cX12_readsShuns 61 = .ok (.aload_n 0, 1)) ?_
          refine r_iconst h (v := 3) (by decide +kernel : decode cX12_readsShuns 62 = .ok (.iconst 3, 1)) ?_
          obtain ⟨P9, hSP9, H⟩ := H
          refine r_callV h (as := [vi 3]) (S := []) (b := 1) m_Mod_216 hSP9 (by decide) (Nat.le_refl _) rfl at1M rfl (Nat.le_of_ble_eq_true rfl) (by decide +kernel : decode cX12_readsShuns 63 = .ok (.invokevirtual 216, 3)) ?_
          rintro _ _ M9 ⟨rfl, r8, rfl, hP⟩
          have H := H r8 M9 hP
          show K NM RRM _ _ [vi r8] _
          exact r_zret h rfl H.1 (by decide +kernel : decode cX12_readsShuns 66 = .ok (.ireturn, 1)) rfl ⟨rfl, _, rfl, H.2⟩
    · have H := H2 hc
      refine r_iconst h (v := 0) (by decide +kernel : decode cX12_readsShuns 31 = .ok (.iconst 0, 1)) ?_
      exact r_zret h rfl (by decide) (by decide +kernel : decode cX12_readsShuns 32 = .ok (.ireturn, 1)) rfl ⟨rfl, _, rfl, H⟩
  · have H := H2 hc
    refine r_iconst h (v := 0) (by decide +kernel : decode cX12_readsShuns 12 = .ok (.iconst 0, 1)) ?_
    exact r_zret h rfl (by decide) (by decide +kernel : decode cX12_readsShuns 13 = .ok (.ireturn, 1)) rfl ⟨rfl, _, rfl, H⟩
theorem W_Mod_readsShuns  (M : Mm) {P : Int → Mm → Prop} (H : ∃ P1 : Mm → Prop, S_Mod_nextToken  M P1 ∧ ∀ M1 : Mm, P1 M1 → ∃ P2 : Int → Mm → Prop, S_Mod_needsHouse 1 M1 P2 ∧ ∀ (r2 : Int) (M2 : Mm), P2 r2 M2 → (rng r2) ∧ (r2 ≠ 0 → (∃ P3 : Mm → Prop, S_Mod_nextToken  M2 P3 ∧ ∀ M3 : Mm, P3 M3 → ∃ P4 : Int → Mm → Prop, S_Mod_needsHouse 1 M3 P4 ∧ ∀ (r4 : Int) (M4 : Mm), P4 r4 M4 → (rng r4) ∧ (r4 ≠ 0 → ((rng (M2 1 36)) ∧ (rng (M4 1 36)) ∧ ((M2 1 36) = (M4 1 36) → (∃ P5 : Int → Mm → Prop, S_Mod_fails 3 M4 P5 ∧ ∀ (r5 : Int) (M5 : Mm), P5 r5 M5 → (r5 = 0 ∨ r5 = 1) ∧ P r5 M5)) ∧ ((M2 1 36) ≠ (M4 1 36) → ((0 ≤ (7 + (M2 1 36)) ∧ (7 + (M2 1 36)) < 14) ∧ ((andI (shrI (M4 9 (7 + (M2 1 36)).toNat) (M4 1 36)) 1) ≠ 1 → ((0 ≤ (7 + (M2 1 36)) ∧ (7 + (M2 1 36)) < 14) ∧ (0 ≤ (7 + (M2 1 36)) ∧ (7 + (M2 1 36)) < 14) ∧ ∀ M6 : Mm, M6 = (upr M4 9 (up1 (M4 9) (7 + (M2 1 36)).toNat (orI (M4 9 (7 + (M2 1 36)).toNat) (shlI 1 (M4 1 36))))) → ∃ P7 : Mm → Prop, S_Mod_nextToken  M6 P7 ∧ ∀ M7 : Mm, P7 M7 → ∃ P8 : Int → Mm → Prop, S_Mod_closes  M7 P8 ∧ ∀ (r7 : Int) (M8 : Mm), P8 r7 M8 → (r7 = 0 ∨ r7 = 1) ∧ P r7 M8)) ∧ ((andI (shrI (M4 9 (7 + (M2 1 36)).toNat) (M4 1 36)) 1) = 1 → (∃ P9 : Int → Mm → Prop, S_Mod_fails 3 M4 P9 ∧ ∀ (r8 : Int) (M9 : Mm), P9 r8 M9 → (r8 = 0 ∨ r8 = 1) ∧ P r8 M9)))))) ∧ (r4 = 0 → (P 0 M4)))) ∧ (r2 = 0 → (P 0 M2))) : S_Mod_readsShuns  M P := e_Mod_readsShuns  M (fun _ h => w_Mod_readsShuns_0 h  M H)
set_option maxHeartbeats 4000000 in
set_option maxRecDepth 100000 in
theorem w_Mod_readsOne_0 {P : Int → Mm → Prop} {K : Nat → Rr → Nat → List (Nat × AV) → List AV → Mm → Prop} (h : EK shM yX12_readsOne cX12_readsOne 4 (some .boolean) 4 NM NM (QI RRM P) K) (x1 : Int) (x2 : Int) (x3 : Int) (M : Mm)
    (H : ∃ P1 : Int → Mm → Prop, S_Mod_isTwice x1 M P1 ∧ ∀ (r1 : Int) (M1 : Mm), P1 r1 M1 → (rng r1) ∧ (r1 = 0 → (∃ P2 : Mm → Prop, S_Mod_nextToken  M1 P2 ∧ ∀ M2 : Mm, P2 M2 → ∃ P3 : Int → Mm → Prop, S_Mod_needsNumber x2 x3 M2 P3 ∧ ∀ (r3 : Int) (M3 : Mm), P3 r3 M3 → (rng r3) ∧ (r3 ≠ 0 → ((0 ≤ (4 + x1) ∧ (4 + x1) < 8) ∧ ∀ M4 : Mm, M4 = (upr M3 3 (up1 (M3 3) (4 + x1).toNat (M3 1 36))) → ∃ P5 : Int → Mm → Prop, S_Mod_closes  M4 P5 ∧ ∀ (r4 : Int) (M5 : Mm), P5 r4 M5 → (r4 = 0 ∨ r4 = 1) ∧ P r4 M5)) ∧ (r3 = 0 → (P 0 M3)))) ∧ (r1 ≠ 0 → (∃ P6 : Int → Mm → Prop, S_Mod_fails 3 M1 P6 ∧ ∀ (r5 : Int) (M6 : Mm), P6 r5 M6 → (r5 = 0 ∨ r5 = 1) ∧ P r5 M6))) :
    K NM RRM 0 [(0, vr 1), (1, vi x1), (2, vi x2), (3, vi x3)] [] M := by
  refine r_aloadn h (q := 0) 0 rfl (by decide +kernel : decode cX12_readsOne 0 = .ok (.aload_n 0, 1)) ?_
  refine r_iloadn h (q := 1) 1 rfl (by decide +kernel : decode cX12_readsOne 1 = .ok (.iload_n 1, 1)) ?_
  obtain ⟨P1, hSP1, H⟩ := H
  refine r_callV h (as := [vi x1]) (S := []) (b := 1) m_Mod_306 hSP1 (by decide) (Nat.le_refl _) rfl at1M rfl (Nat.le_of_ble_eq_true rfl) (by decide +kernel : decode cX12_readsOne 2 = .ok (.invokevirtual 306, 3)) ?_
  rintro _ _ M1 ⟨rfl, r1, rfl, hP⟩
  have H := H r1 M1 hP
  show K NM RRM _ _ [vi r1] _
  obtain ⟨g1, H⟩ := H
  obtain ⟨H1, H2⟩ := H
  refine r_if_eq h 14 g1 (by decide) (by decide +kernel : decode cX12_readsOne 5 = .ok (.ifCond .eq 9, 3)) (fun hc => ?_) (fun hc => ?_)
  · have H := H1 hc
    refine r_aloadn h (q := 0) 0 rfl (by decide +kernel : decode cX12_readsOne 14 = .ok (.aload_n 0, 1)) ?_
    obtain ⟨P2, hSP2, H⟩ := H
    refine r_callV h (as := []) (S := []) (b := 1) m_Mod_223 hSP2 (by decide) (Nat.le_refl _) rfl at1M rfl (Nat.le_of_ble_eq_true rfl) (by decide +kernel : decode cX12_readsOne 15 = .ok (.invokevirtual 223, 3)) ?_
    rintro _ _ M2 ⟨rfl, rfl, hP⟩
    have H := H M2 hP
    show K NM RRM _ _ [] _
    refine r_aloadn h (q := 0) 0 rfl (by decide +kernel : decode cX12_readsOne 18 = .ok (.aload_n 0, 1)) ?_
    refine r_iloadn h (q := 2) 2 rfl (by decide +kernel : decode cX12_readsOne 19 = .ok (.iload_n 2, 1)) ?_
    refine r_iloadn h (q := 3) 3 rfl (by decide +kernel : decode cX12_readsOne 20 = .ok (.iload_n 3, 1)) ?_
    obtain ⟨P3, hSP3, H⟩ := H
    refine r_callV h (as := [vi x2, vi x3]) (S := []) (b := 1) m_Mod_282 hSP3 (by decide) (Nat.le_refl _) rfl at1M rfl (Nat.le_of_ble_eq_true rfl) (by decide +kernel : decode cX12_readsOne 21 = .ok (.invokevirtual 282, 3)) ?_
    rintro _ _ M3 ⟨rfl, r3, rfl, hP⟩
    have H := H r3 M3 hP
    show K NM RRM _ _ [vi r3] _
    obtain ⟨g1, H⟩ := H
    obtain ⟨H1, H2⟩ := H
    refine r_if_ne h 29 g1 (by decide) (by decide +kernel : decode cX12_readsOne 24 = .ok (.ifCond .ne 5, 3)) (fun hc => ?_) (fun hc => ?_)
    · have H := H1 hc
      refine r_aloadn h (q := 0) 0 rfl (by decide +kernel : decode cX12_readsOne 29 = .ok (.aload_n 0, 1)) ?_
      refine r_getR h (r := 3) f_Mod_13 at1M rfl (by decide) (by decide +kernel : decode cX12_readsOne 30 = .ok (.getfield 13, 3)) ?_
      refine r_iconst h (v := 4) (by decide +kernel : decode cX12_readsOne 33 = .ok (.iconst 4, 1)) ?_
      refine r_iloadn h (q := 1) 1 rfl (by decide +kernel : decode cX12_readsOne 34 = .ok (.iload_n 1, 1)) ?_
      refine r_iadd h (by decide +kernel : decode cX12_readsOne 35 = .ok (.iadd, 1)) ?_
      refine r_aloadn h (q := 0) 0 rfl (by decide +kernel : decode cX12_readsOne 36 = .ok (.aload_n 0, 1)) ?_
      refine r_getI h f_Mod_279 at1M (by decide +kernel : decode cX12_readsOne 37 = .ok (.getfield 279, 3)) ?_
      obtain ⟨g1, H⟩ := H
      refine r_iast h (4 + x1).toNat rfl atM_3 g1 (by decide) (by decide +kernel : decode cX12_readsOne 40 = .ok (.iastore, 1)) ?_
      have H := H _ rfl
      revert H
      generalize (upr M3 3 (up1 (M3 3) (4 + x1).toNat (M3 1 36))) = M4
      intro H
      refine r_aloadn h (q := 0) 0 rfl (by decide +kernel : decode cX12_readsOne 41 = .ok (.aload_n 0, 1)) ?_
      obtain ⟨P5, hSP5, H⟩ := H
      refine r_callV h (as := []) (S := []) (b := 1) m_Mod_300 hSP5 (by decide) (Nat.le_refl _) rfl at1M rfl (Nat.le_of_ble_eq_true rfl) (by decide +kernel : decode cX12_readsOne 42 = .ok (.invokevirtual 300, 3)) ?_
      rintro _ _ M5 ⟨rfl, r4, rfl, hP⟩
      have H := H r4 M5 hP
      show K NM RRM _ _ [vi r4] _
      exact r_zret h rfl H.1 (by decide +kernel : decode cX12_readsOne 45 = .ok (.ireturn, 1)) rfl ⟨rfl, _, rfl, H.2⟩
    · have H := H2 hc
      refine r_iconst h (v := 0) (by decide +kernel : decode cX12_readsOne 27 = .ok (.iconst 0, 1)) ?_
      exact r_zret h rfl (by decide) (by decide +kernel : decode cX12_readsOne 28 = .ok (.ireturn, 1)) rfl ⟨rfl, _, rfl, H⟩
  · have H := H2 hc
    refine r_aloadn h (q := 0) 0 rfl (by decide +kernel : decode cX12_readsOne 8 = .ok (.aload_n 0, 1)) ?_
    refine r_iconst h (v := 3) (by decide +kernel : decode cX12_readsOne 9 = .ok (.iconst 3, 1)) ?_
    obtain ⟨P6, hSP6, H⟩ := H
    refine r_callV h (as := [vi 3]) (S := []) (b := 1) m_Mod_216 hSP6 (by decide) (Nat.le_refl _) rfl at1M rfl (Nat.le_of_ble_eq_true rfl) (by decide +kernel : decode cX12_readsOne 10 = .ok (.invokevirtual 216, 3)) ?_
    rintro _ _ M6 ⟨rfl, r5, rfl, hP⟩
    have H := H r5 M6 hP
    show K NM RRM _ _ [vi r5] _
    exact r_zret h rfl H.1 (by decide +kernel : decode cX12_readsOne 13 = .ok (.ireturn, 1)) rfl ⟨rfl, _, rfl, H.2⟩
theorem W_Mod_readsOne (x1 : Int) (x2 : Int) (x3 : Int) (M : Mm) {P : Int → Mm → Prop} (H : ∃ P1 : Int → Mm → Prop, S_Mod_isTwice x1 M P1 ∧ ∀ (r1 : Int) (M1 : Mm), P1 r1 M1 → (rng r1) ∧ (r1 = 0 → (∃ P2 : Mm → Prop, S_Mod_nextToken  M1 P2 ∧ ∀ M2 : Mm, P2 M2 → ∃ P3 : Int → Mm → Prop, S_Mod_needsNumber x2 x3 M2 P3 ∧ ∀ (r3 : Int) (M3 : Mm), P3 r3 M3 → (rng r3) ∧ (r3 ≠ 0 → ((0 ≤ (4 + x1) ∧ (4 + x1) < 8) ∧ ∀ M4 : Mm, M4 = (upr M3 3 (up1 (M3 3) (4 + x1).toNat (M3 1 36))) → ∃ P5 : Int → Mm → Prop, S_Mod_closes  M4 P5 ∧ ∀ (r4 : Int) (M5 : Mm), P5 r4 M5 → (r4 = 0 ∨ r4 = 1) ∧ P r4 M5)) ∧ (r3 = 0 → (P 0 M3)))) ∧ (r1 ≠ 0 → (∃ P6 : Int → Mm → Prop, S_Mod_fails 3 M1 P6 ∧ ∀ (r5 : Int) (M6 : Mm), P6 r5 M6 → (r5 = 0 ∨ r5 = 1) ∧ P r5 M6))) : S_Mod_readsOne x1 x2 x3 M P := e_Mod_readsOne x1 x2 x3 M (fun _ h => w_Mod_readsOne_0 h x1 x2 x3 M H)
set_option maxHeartbeats 4000000 in
set_option maxRecDepth 100000 in
theorem w_Mod_readsRains_0 {P : Int → Mm → Prop} {K : Nat → Rr → Nat → List (Nat × AV) → List AV → Mm → Prop} (h : EK shM yX12_readsRains cX12_readsRains 2 (some .boolean) 4 NM NM (QI RRM P) K)  (M : Mm)
    (H : (rng (M 3 7)) ∧ ((M 3 7) ≤ 0 → (∃ P1 : Mm → Prop, S_Mod_nextToken  M P1 ∧ ∀ M1 : Mm, P1 M1 → K NM RRM 22 [(0, vr 1), (1, vi 0)] [] M1)) ∧ (¬ ((M 3 7) ≤ 0) → (∃ P2 : Int → Mm → Prop, S_Mod_fails 3 M P2 ∧ ∀ (r2 : Int) (M2 : Mm), P2 r2 M2 → (r2 = 0 ∨ r2 = 1) ∧ P r2 M2))) :
    K NM RRM 0 [(0, vr 1)] [] M := by
  refine r_aloadn h (q := 0) 0 rfl (by decide +kernel : decode cX12_readsRains 0 = .ok (.aload_n 0, 1)) ?_
  refine r_getR h (r := 3) f_Mod_13 at1M rfl (by decide) (by decide +kernel : decode cX12_readsRains 1 = .ok (.getfield 13, 3)) ?_
  refine r_bipush h (v := 7) (by decide) (by decide +kernel : decode cX12_readsRains 4 = .ok (.bipush 7, 2)) ?_
  refine r_iald h 7 rfl atM_3 (by decide) (by decide) (by decide +kernel : decode cX12_readsRains 6 = .ok (.iaload, 1)) ?_
  obtain ⟨g1, H⟩ := H
  obtain ⟨H1, H2⟩ := H
  refine r_if_le h 16 g1 (by decide) (by decide +kernel : decode cX12_readsRains 7 = .ok (.ifCond .le 9, 3)) (fun hc => ?_) (fun hc => ?_)
  · have H := H1 hc
    refine r_aloadn h (q := 0) 0 rfl (by decide +kernel : decode cX12_readsRains 16 = .ok (.aload_n 0, 1)) ?_
    obtain ⟨P1, hSP1, H⟩ := H
    refine r_callV h (as := []) (S := []) (b := 1) m_Mod_223 hSP1 (by decide) (Nat.le_refl _) rfl at1M rfl (Nat.le_of_ble_eq_true rfl) (by decide +kernel : decode cX12_readsRains 17 = .ok (.invokevirtual 223, 3)) ?_
    rintro _ _ M1 ⟨rfl, rfl, hP⟩
    have H := H M1 hP
    show K NM RRM _ _ [] _
    refine r_iconst h (v := 0) (by decide +kernel : decode cX12_readsRains 20 = .ok (.iconst 0, 1)) ?_
    refine r_istoren h (q := 1) (L' := [(1, vi 0), (0, vr 1)]) (by decide) rfl (by decide +kernel : decode cX12_readsRains 21 = .ok (.istore_n 1, 1)) ?_
    refine r_drop h [1, 0] rfl ?_
    exact H
  · have H := H2 hc
    refine r_aloadn h (q := 0) 0 rfl (by decide +kernel : decode cX12_readsRains 10 = .ok (.aload_n 0, 1)) ?_
    refine r_iconst h (v := 3) (by decide +kernel : decode cX12_readsRains 11 = .ok (.iconst 3, 1)) ?_
    obtain ⟨P2, hSP2, H⟩ := H
    refine r_callV h (as := [vi 3]) (S := []) (b := 1) m_Mod_216 hSP2 (by decide) (Nat.le_refl _) rfl at1M rfl (Nat.le_of_ble_eq_true rfl) (by decide +kernel : decode cX12_readsRains 12 = .ok (.invokevirtual 216, 3)) ?_
    rintro _ _ M2 ⟨rfl, r2, rfl, hP⟩
    have H := H r2 M2 hP
    show K NM RRM _ _ [vi r2] _
    exact r_zret h rfl H.1 (by decide +kernel : decode cX12_readsRains 15 = .ok (.ireturn, 1)) rfl ⟨rfl, _, rfl, H.2⟩
set_option maxHeartbeats 4000000 in
set_option maxRecDepth 100000 in
theorem w_Mod_readsRains_22 {P : Int → Mm → Prop} {K : Nat → Rr → Nat → List (Nat × AV) → List AV → Mm → Prop} (h : EK shM yX12_readsRains cX12_readsRains 2 (some .boolean) 4 NM NM (QI RRM P) K) (x1 : Int) (M : Mm)
    (H : (rng x1) ∧ (x1 = 0 → (K NM RRM 35 [(0, vr 1), (1, vi x1)] [] M)) ∧ (x1 ≠ 0 → (∃ P1 : Int → Mm → Prop, S_Mod_isSign 59 M P1 ∧ ∀ (r1 : Int) (M1 : Mm), P1 r1 M1 → (rng r1) ∧ (r1 ≠ 0 → (∀ M2 : Mm, M2 = (upr M1 3 (up1 (M1 3) 7 x1)) → ∃ P3 : Int → Mm → Prop, S_Mod_closes  M2 P3 ∧ ∀ (r2 : Int) (M3 : Mm), P3 r2 M3 → (r2 = 0 ∨ r2 = 1) ∧ P r2 M3)) ∧ (r1 = 0 → (K NM RRM 35 [(0, vr 1), (1, vi x1)] [] M1))))) :
    K NM RRM 22 [(0, vr 1), (1, vi x1)] [] M := by
  refine r_iloadn h (q := 1) 1 rfl (by decide +kernel : decode cX12_readsRains 22 = .ok (.iload_n 1, 1)) ?_
  obtain ⟨g1, H⟩ := H
  obtain ⟨H1, H2⟩ := H
  refine r_if_eq h 35 g1 (by decide) (by decide +kernel : decode cX12_readsRains 23 = .ok (.ifCond .eq 12, 3)) (fun hc => ?_) (fun hc => ?_)
  · have H := H1 hc
    exact H
  · have H := H2 hc
    refine r_aloadn h (q := 0) 0 rfl (by decide +kernel : decode cX12_readsRains 26 = .ok (.aload_n 0, 1)) ?_
    refine r_bipush h (v := 59) (by decide) (by decide +kernel : decode cX12_readsRains 27 = .ok (.bipush 59, 2)) ?_
    obtain ⟨P1, hSP1, H⟩ := H
    refine r_callV h (as := [vi 59]) (S := []) (b := 1) m_Mod_212 hSP1 (by decide) (Nat.le_refl _) rfl at1M rfl (Nat.le_of_ble_eq_true rfl) (by decide +kernel : decode cX12_readsRains 29 = .ok (.invokevirtual 212, 3)) ?_
    rintro _ _ M1 ⟨rfl, r1, rfl, hP⟩
    have H := H r1 M1 hP
    show K NM RRM _ _ [vi r1] _
    obtain ⟨g1, H⟩ := H
    obtain ⟨H1, H2⟩ := H
    refine r_if_ne h 99 g1 (by decide) (by decide +kernel : decode cX12_readsRains 32 = .ok (.ifCond .ne 67, 3)) (fun hc => ?_) (fun hc => ?_)
    · have H := H1 hc
      refine r_aloadn h (q := 0) 0 rfl (by decide +kernel : decode cX12_readsRains 99 = .ok (.aload_n 0, 1)) ?_
      refine r_getR h (r := 3) f_Mod_13 at1M rfl (by decide) (by decide +kernel : decode cX12_readsRains 100 = .ok (.getfield 13, 3)) ?_
      refine r_bipush h (v := 7) (by decide) (by decide +kernel : decode cX12_readsRains 103 = .ok (.bipush 7, 2)) ?_
      refine r_iloadn h (q := 1) 1 rfl (by decide +kernel : decode cX12_readsRains 105 = .ok (.iload_n 1, 1)) ?_
      refine r_iast h 7 rfl atM_3 (by decide) (by decide) (by decide +kernel : decode cX12_readsRains 106 = .ok (.iastore, 1)) ?_
      have H := H _ rfl
      revert H
      generalize (upr M1 3 (up1 (M1 3) 7 x1)) = M2
      intro H
      refine r_aloadn h (q := 0) 0 rfl (by decide +kernel : decode cX12_readsRains 107 = .ok (.aload_n 0, 1)) ?_
      obtain ⟨P3, hSP3, H⟩ := H
      refine r_callV h (as := []) (S := []) (b := 1) m_Mod_300 hSP3 (by decide) (Nat.le_refl _) rfl at1M rfl (Nat.le_of_ble_eq_true rfl) (by decide +kernel : decode cX12_readsRains 108 = .ok (.invokevirtual 300, 3)) ?_
      rintro _ _ M3 ⟨rfl, r2, rfl, hP⟩
      have H := H r2 M3 hP
      show K NM RRM _ _ [vi r2] _
      exact r_zret h rfl H.1 (by decide +kernel : decode cX12_readsRains 111 = .ok (.ireturn, 1)) rfl ⟨rfl, _, rfl, H.2⟩
    · have H := H2 hc
      exact H
set_option maxHeartbeats 4000000 in
set_option maxRecDepth 100000 in
theorem w_Mod_readsRains_35 {P : Int → Mm → Prop} {K : Nat → Rr → Nat → List (Nat × AV) → List AV → Mm → Prop} (h : EK shM yX12_readsRains cX12_readsRains 2 (some .boolean) 4 NM NM (QI RRM P) K) (x1 : Int) (M : Mm)
    (H : (rng (M 1 6)) ∧ ((M 1 6) = 2 → ((rng (M 1 8)) ∧ ((M 1 8) ≤ 9 → ((rng x1) ∧ (x1 ≠ 12 → ((0 ≤ (12 + x1) ∧ (12 + x1) < 24) ∧ ∀ M1 : Mm, M1 = (upr M 10 (up1 (M 10) (12 + x1).toNat (M 1 8))) → ∃ P2 : Mm → Prop, S_Mod_nextToken  M1 P2 ∧ ∀ M2 : Mm, P2 M2 → K NM RRM 22 [(0, vr 1), (1, vi (x1 + 1))] [] M2)) ∧ (x1 = 12 → (∃ P3 : Int → Mm → Prop, S_Mod_fails 5 M P3 ∧ ∀ (r2 : Int) (M3 : Mm), P3 r2 M3 → (r2 = 0 ∨ r2 = 1) ∧ P r2 M3)))) ∧ (¬ ((M 1 8) ≤ 9) → (∃ P4 : Int → Mm → Prop, S_Mod_fails 4 M P4 ∧ ∀ (r3 : Int) (M4 : Mm), P4 r3 M4 → (r3 = 0 ∨ r3 = 1) ∧ P r3 M4)))) ∧ ((M 1 6) ≠ 2 → (∃ P5 : Int → Mm → Prop, S_Mod_fails 1 M P5 ∧ ∀ (r4 : Int) (M5 : Mm), P5 r4 M5 → (r4 = 0 ∨ r4 = 1) ∧ P r4 M5))) :
    K NM RRM 35 [(0, vr 1), (1, vi x1)] [] M := by
  refine r_aloadn h (q := 0) 0 rfl (by decide +kernel : decode cX12_readsRains 35 = .ok (.aload_n 0, 1)) ?_
  refine r_getI h f_Mod_172 at1M (by decide +kernel : decode cX12_readsRains 36 = .ok (.getfield 172, 3)) ?_
  refine r_iconst h (v := 2) (by decide +kernel : decode cX12_readsRains 39 = .ok (.iconst 2, 1)) ?_
  obtain ⟨g1, H⟩ := H
  obtain ⟨H1, H2⟩ := H
  refine r_icmp_eq h 49 g1 (by decide) (by decide) (by decide +kernel : decode cX12_readsRains 40 = .ok (.if_icmp .eq 9, 3)) (fun hc => ?_) (fun hc => ?_)
  · have H := H1 hc
    refine r_aloadn h (q := 0) 0 rfl (by decide +kernel : decode cX12_readsRains 49 = .ok (.aload_n 0, 1)) ?_
    refine r_getI h f_Mod_169 at1M (by decide +kernel : decode cX12_readsRains 50 = .ok (.getfield 169, 3)) ?_
    refine r_bipush h (v := 9) (by decide) (by decide +kernel : decode cX12_readsRains 53 = .ok (.bipush 9, 2)) ?_
    obtain ⟨g1, H⟩ := H
    obtain ⟨H1, H2⟩ := H
    refine r_icmp_le h 64 g1 (by decide) (by decide) (by decide +kernel : decode cX12_readsRains 55 = .ok (.if_icmp .le 9, 3)) (fun hc => ?_) (fun hc => ?_)
    · have H := H1 hc
      refine r_iloadn h (q := 1) 1 rfl (by decide +kernel : decode cX12_readsRains 64 = .ok (.iload_n 1, 1)) ?_
      refine r_bipush h (v := 12) (by decide) (by decide +kernel : decode cX12_readsRains 65 = .ok (.bipush 12, 2)) ?_
      obtain ⟨g1, H⟩ := H
      obtain ⟨H1, H2⟩ := H
      refine r_icmp_ne h 76 g1 (by decide) (by decide) (by decide +kernel : decode cX12_readsRains 67 = .ok (.if_icmp .ne 9, 3)) (fun hc => ?_) (fun hc => ?_)
      · have H := H1 hc
        refine r_aloadn h (q := 0) 0 rfl (by decide +kernel : decode cX12_readsRains 76 = .ok (.aload_n 0, 1)) ?_
        refine r_getR h (r := 10) f_Mod_35 at1M rfl (by decide) (by decide +kernel : decode cX12_readsRains 77 = .ok (.getfield 35, 3)) ?_
        refine r_bipush h (v := 12) (by decide) (by decide +kernel : decode cX12_readsRains 80 = .ok (.bipush 12, 2)) ?_
        refine r_iloadn h (q := 1) 1 rfl (by decide +kernel : decode cX12_readsRains 82 = .ok (.iload_n 1, 1)) ?_
        refine r_iadd h (by decide +kernel : decode cX12_readsRains 83 = .ok (.iadd, 1)) ?_
        refine r_aloadn h (q := 0) 0 rfl (by decide +kernel : decode cX12_readsRains 84 = .ok (.aload_n 0, 1)) ?_
        refine r_getI h f_Mod_169 at1M (by decide +kernel : decode cX12_readsRains 85 = .ok (.getfield 169, 3)) ?_
        obtain ⟨g1, H⟩ := H
        refine r_iast h (12 + x1).toNat rfl atM_10 g1 (by decide) (by decide +kernel : decode cX12_readsRains 88 = .ok (.iastore, 1)) ?_
        have H := H _ rfl
        revert H
        generalize (upr M 10 (up1 (M 10) (12 + x1).toNat (M 1 8))) = M1
        intro H
        refine r_iinc h (i := 1) (v := 1) (L' := [(1, vi (x1 + 1)), (0, vr 1)]) 1 rfl (by decide) rfl (by decide +kernel : decode cX12_readsRains 89 = .ok (.iinc 1 1, 3)) ?_
        refine r_aloadn h (q := 0) 1 rfl (by decide +kernel : decode cX12_readsRains 92 = .ok (.aload_n 0, 1)) ?_
        obtain ⟨P2, hSP2, H⟩ := H
        refine r_callV h (as := []) (S := []) (b := 1) m_Mod_223 hSP2 (by decide) (Nat.le_refl _) rfl at1M rfl (Nat.le_of_ble_eq_true rfl) (by decide +kernel : decode cX12_readsRains 93 = .ok (.invokevirtual 223, 3)) ?_
        rintro _ _ M2 ⟨rfl, rfl, hP⟩
        have H := H M2 hP
        show K NM RRM _ _ [] _
        refine r_goto h 22 (by decide) (by decide +kernel : decode cX12_readsRains 96 = .ok (.goto (-74), 3)) ?_
        refine r_drop h [1, 0] rfl ?_
        exact H
      · have H := H2 hc
        refine r_aloadn h (q := 0) 0 rfl (by decide +kernel : decode cX12_readsRains 70 = .ok (.aload_n 0, 1)) ?_
        refine r_iconst h (v := 5) (by decide +kernel : decode cX12_readsRains 71 = .ok (.iconst 5, 1)) ?_
        obtain ⟨P3, hSP3, H⟩ := H
        refine r_callV h (as := [vi 5]) (S := []) (b := 1) m_Mod_216 hSP3 (by decide) (Nat.le_refl _) rfl at1M rfl (Nat.le_of_ble_eq_true rfl) (by decide +kernel : decode cX12_readsRains 72 = .ok (.invokevirtual 216, 3)) ?_
        rintro _ _ M3 ⟨rfl, r2, rfl, hP⟩
        have H := H r2 M3 hP
        show K NM RRM _ _ [vi r2] _
        exact r_zret h rfl H.1 (by decide +kernel : decode cX12_readsRains 75 = .ok (.ireturn, 1)) rfl ⟨rfl, _, rfl, H.2⟩
    · have H := H2 hc
      refine r_aloadn h (q := 0) 0 rfl (by decide +kernel : decode cX12_readsRains 58 = .ok (.aload_n 0, 1)) ?_
      refine r_iconst h (v := 4) (by decide +kernel : decode cX12_readsRains 59 = .ok (.iconst 4, 1)) ?_
      obtain ⟨P4, hSP4, H⟩ := H
      refine r_callV h (as := [vi 4]) (S := []) (b := 1) m_Mod_216 hSP4 (by decide) (Nat.le_refl _) rfl at1M rfl (Nat.le_of_ble_eq_true rfl) (by decide +kernel : decode cX12_readsRains 60 = .ok (.invokevirtual 216, 3)) ?_
      rintro _ _ M4 ⟨rfl, r3, rfl, hP⟩
      have H := H r3 M4 hP
      show K NM RRM _ _ [vi r3] _
      exact r_zret h rfl H.1 (by decide +kernel : decode cX12_readsRains 63 = .ok (.ireturn, 1)) rfl ⟨rfl, _, rfl, H.2⟩
  · have H := H2 hc
    refine r_aloadn h (q := 0) 0 rfl (by decide +kernel : decode cX12_readsRains 43 = .ok (.aload_n 0, 1)) ?_
    refine r_iconst h (v := 1) (by decide +kernel : decode cX12_readsRains 44 = .ok (.iconst 1, 1)) ?_
    obtain ⟨P5, hSP5, H⟩ := H
    refine r_callV h (as := [vi 1]) (S := []) (b := 1) m_Mod_216 hSP5 (by decide) (Nat.le_refl _) rfl at1M rfl (Nat.le_of_ble_eq_true rfl) (by decide +kernel : decode cX12_readsRains 45 = .ok (.invokevirtual 216, 3)) ?_
    rintro _ _ M5 ⟨rfl, r4, rfl, hP⟩
    have H := H r4 M5 hP
    show K NM RRM _ _ [vi r4] _
    exact r_zret h rfl H.1 (by decide +kernel : decode cX12_readsRains 48 = .ok (.ireturn, 1)) rfl ⟨rfl, _, rfl, H.2⟩
set_option maxHeartbeats 4000000 in
set_option maxRecDepth 100000 in
theorem w_Mod_readsLaw_0 {P : Int → Mm → Prop} {K : Nat → Rr → Nat → List (Nat × AV) → List AV → Mm → Prop} (h : EK shM yX12_readsLaw cX12_readsLaw 2 (some .boolean) 4 NM NM (QI RRM P) K) (x1 : Int) (M : Mm)
    (H : (0 ≤ (2 + x1) ∧ (2 + x1) < 4) ∧ (0 ≤ (2 + x1) ∧ (2 + x1) < 4) ∧ (rng (M 12 (2 + x1).toNat)) ∧ (rng (M 11 (2 + x1).toNat)) ∧ ((M 12 (2 + x1).toNat) ≤ (M 11 (2 + x1).toNat) → (∀ M1 : Mm, M1 = (upr M 1 (up1 (M 1) 22 x1)) → ∃ P2 : Mm → Prop, S_Mod_nextToken  M1 P2 ∧ ∀ M2 : Mm, P2 M2 → (0 ≤ (2 + x1) ∧ (2 + x1) < 4) ∧ ∀ M3 : Mm, M3 = (upr M2 11 (up1 (M2 11) (2 + x1).toNat (M2 1 21))) → ∃ P4 : Int → Mm → Prop, S_Mod_reads  M3 P4 ∧ ∀ (r2 : Int) (M4 : Mm), P4 r2 M4 → (rng r2) ∧ (r2 ≠ 0 → ((0 ≤ (2 + x1) ∧ (2 + x1) < 4) ∧ ∀ M5 : Mm, M5 = (upr M4 12 (up1 (M4 12) (2 + x1).toNat (M4 1 21))) → P 1 M5)) ∧ (r2 = 0 → (P 0 M4)))) ∧ (¬ ((M 12 (2 + x1).toNat) ≤ (M 11 (2 + x1).toNat)) → (∃ P6 : Int → Mm → Prop, S_Mod_fails 3 M P6 ∧ ∀ (r3 : Int) (M6 : Mm), P6 r3 M6 → (r3 = 0 ∨ r3 = 1) ∧ P r3 M6))) :
    K NM RRM 0 [(0, vr 1), (1, vi x1)] [] M := by
  refine r_aloadn h (q := 0) 0 rfl (by decide +kernel : decode cX12_readsLaw 0 = .ok (.aload_n 0, 1)) ?_
  refine r_getR h (r := 12) f_Mod_41 at1M rfl (by decide) (by decide +kernel : decode cX12_readsLaw 1 = .ok (.getfield 41, 3)) ?_
  refine r_iconst h (v := 2) (by decide +kernel : decode cX12_readsLaw 4 = .ok (.iconst 2, 1)) ?_
  refine r_iloadn h (q := 1) 1 rfl (by decide +kernel : decode cX12_readsLaw 5 = .ok (.iload_n 1, 1)) ?_
  refine r_iadd h (by decide +kernel : decode cX12_readsLaw 6 = .ok (.iadd, 1)) ?_
  obtain ⟨g1, H⟩ := H
  refine r_iald h (2 + x1).toNat rfl atM_12 g1 (by decide) (by decide +kernel : decode cX12_readsLaw 7 = .ok (.iaload, 1)) ?_
  refine r_aloadn h (q := 0) 0 rfl (by decide +kernel : decode cX12_readsLaw 8 = .ok (.aload_n 0, 1)) ?_
  refine r_getR h (r := 11) f_Mod_38 at1M rfl (by decide) (by decide +kernel : decode cX12_readsLaw 9 = .ok (.getfield 38, 3)) ?_
  refine r_iconst h (v := 2) (by decide +kernel : decode cX12_readsLaw 12 = .ok (.iconst 2, 1)) ?_
  refine r_iloadn h (q := 1) 1 rfl (by decide +kernel : decode cX12_readsLaw 13 = .ok (.iload_n 1, 1)) ?_
  refine r_iadd h (by decide +kernel : decode cX12_readsLaw 14 = .ok (.iadd, 1)) ?_
  obtain ⟨g1, H⟩ := H
  refine r_iald h (2 + x1).toNat rfl atM_11 g1 (by decide) (by decide +kernel : decode cX12_readsLaw 15 = .ok (.iaload, 1)) ?_
  obtain ⟨g1, g2, H⟩ := H
  obtain ⟨H1, H2⟩ := H
  refine r_icmp_le h 25 g1 g2 (by decide) (by decide +kernel : decode cX12_readsLaw 16 = .ok (.if_icmp .le 9, 3)) (fun hc => ?_) (fun hc => ?_)
  · have H := H1 hc
    refine r_aloadn h (q := 0) 0 rfl (by decide +kernel : decode cX12_readsLaw 25 = .ok (.aload_n 0, 1)) ?_
    refine r_iloadn h (q := 1) 1 rfl (by decide +kernel : decode cX12_readsLaw 26 = .ok (.iload_n 1, 1)) ?_
    refine r_putI h f_Mod_195 at1M rfl rfl (by decide +kernel : decode cX12_readsLaw 27 = .ok (.putfield 195, 3)) ?_
    have H := H _ rfl
    revert H
    generalize (upr M 1 (up1 (M 1) 22 x1)) = M1
    intro H
    refine r_aloadn h (q := 0) 0 rfl (by decide +kernel : decode cX12_readsLaw 30 = .ok (.aload_n 0, 1)) ?_
    obtain ⟨P2, hSP2, H⟩ := H
    refine r_callV h (as := []) (S := []) (b := 1) m_Mod_223 hSP2 (by decide) (Nat.le_refl _) rfl at1M rfl (Nat.le_of_ble_eq_true rfl) (by decide +kernel : decode cX12_readsLaw 31 = .ok (.invokevirtual 223, 3)) ?_
    rintro _ _ M2 ⟨rfl, rfl, hP⟩
    have H := H M2 hP
    show K NM RRM _ _ [] _
    refine r_aloadn h (q := 0) 0 rfl (by decide +kernel : decode cX12_readsLaw 34 = .ok (.aload_n 0, 1)) ?_
    refine r_getR h (r := 11) f_Mod_38 at1M rfl (by decide) (by decide +kernel : decode cX12_readsLaw 35 = .ok (.getfield 38, 3)) ?_
    refine r_iconst h (v := 2) (by decide +kernel : decode cX12_readsLaw 38 = .ok (.iconst 2, 1)) ?_
    refine r_iloadn h (q := 1) 1 rfl (by decide +kernel : decode cX12_readsLaw 39 = .ok (.iload_n 1, 1)) ?_
    refine r_iadd h (by decide +kernel : decode cX12_readsLaw 40 = .ok (.iadd, 1)) ?_
    refine r_aloadn h (q := 0) 0 rfl (by decide +kernel : decode cX12_readsLaw 41 = .ok (.aload_n 0, 1)) ?_
    refine r_getI h f_Mod_186 at1M (by decide +kernel : decode cX12_readsLaw 42 = .ok (.getfield 186, 3)) ?_
    obtain ⟨g1, H⟩ := H
    refine r_iast h (2 + x1).toNat rfl atM_11 g1 (by decide) (by decide +kernel : decode cX12_readsLaw 45 = .ok (.iastore, 1)) ?_
    have H := H _ rfl
    revert H
    generalize (upr M2 11 (up1 (M2 11) (2 + x1).toNat (M2 1 21))) = M3
    intro H
    refine r_aloadn h (q := 0) 0 rfl (by decide +kernel : decode cX12_readsLaw 46 = .ok (.aload_n 0, 1)) ?_
    obtain ⟨P4, hSP4, H⟩ := H
    refine r_callV h (as := []) (S := []) (b := 1) m_Mod_309 hSP4 (by decide) (Nat.le_refl _) rfl at1M rfl (Nat.le_of_ble_eq_true rfl) (by decide +kernel : decode cX12_readsLaw 47 = .ok (.invokevirtual 309, 3)) ?_
    rintro _ _ M4 ⟨rfl, r2, rfl, hP⟩
    have H := H r2 M4 hP
    show K NM RRM _ _ [vi r2] _
    obtain ⟨g1, H⟩ := H
    obtain ⟨H1, H2⟩ := H
    refine r_if_ne h 55 g1 (by decide) (by decide +kernel : decode cX12_readsLaw 50 = .ok (.ifCond .ne 5, 3)) (fun hc => ?_) (fun hc => ?_)
    · have H := H1 hc
      refine r_aloadn h (q := 0) 0 rfl (by decide +kernel : decode cX12_readsLaw 55 = .ok (.aload_n 0, 1)) ?_
      refine r_getR h (r := 12) f_Mod_41 at1M rfl (by decide) (by decide +kernel : decode cX12_readsLaw 56 = .ok (.getfield 41, 3)) ?_
      refine r_iconst h (v := 2) (by decide +kernel : decode cX12_readsLaw 59 = .ok (.iconst 2, 1)) ?_
      refine r_iloadn h (q := 1) 1 rfl (by decide +kernel : decode cX12_readsLaw 60 = .ok (.iload_n 1, 1)) ?_
      refine r_iadd h (by decide +kernel : decode cX12_readsLaw 61 = .ok (.iadd, 1)) ?_
      refine r_aloadn h (q := 0) 0 rfl (by decide +kernel : decode cX12_readsLaw 62 = .ok (.aload_n 0, 1)) ?_
      refine r_getI h f_Mod_186 at1M (by decide +kernel : decode cX12_readsLaw 63 = .ok (.getfield 186, 3)) ?_
      obtain ⟨g1, H⟩ := H
      refine r_iast h (2 + x1).toNat rfl atM_12 g1 (by decide) (by decide +kernel : decode cX12_readsLaw 66 = .ok (.iastore, 1)) ?_
      have H := H _ rfl
      revert H
      generalize (upr M4 12 (up1 (M4 12) (2 + x1).toNat (M4 1 21))) = M5
      intro H
      refine r_iconst h (v := 1) (by decide +kernel : decode cX12_readsLaw 67 = .ok (.iconst 1, 1)) ?_
      exact r_zret h rfl (by decide) (by decide +kernel : decode cX12_readsLaw 68 = .ok (.ireturn, 1)) rfl ⟨rfl, _, rfl, H⟩
    · have H := H2 hc
      refine r_iconst h (v := 0) (by decide +kernel : decode cX12_readsLaw 53 = .ok (.iconst 0, 1)) ?_
      exact r_zret h rfl (by decide) (by decide +kernel : decode cX12_readsLaw 54 = .ok (.ireturn, 1)) rfl ⟨rfl, _, rfl, H⟩
  · have H := H2 hc
    refine r_aloadn h (q := 0) 0 rfl (by decide +kernel : decode cX12_readsLaw 19 = .ok (.aload_n 0, 1)) ?_
    refine r_iconst h (v := 3) (by decide +kernel : decode cX12_readsLaw 20 = .ok (.iconst 3, 1)) ?_
    obtain ⟨P6, hSP6, H⟩ := H
    refine r_callV h (as := [vi 3]) (S := []) (b := 1) m_Mod_216 hSP6 (by decide) (Nat.le_refl _) rfl at1M rfl (Nat.le_of_ble_eq_true rfl) (by decide +kernel : decode cX12_readsLaw 21 = .ok (.invokevirtual 216, 3)) ?_
    rintro _ _ M6 ⟨rfl, r3, rfl, hP⟩
    have H := H r3 M6 hP
    show K NM RRM _ _ [vi r3] _
    exact r_zret h rfl H.1 (by decide +kernel : decode cX12_readsLaw 24 = .ok (.ireturn, 1)) rfl ⟨rfl, _, rfl, H.2⟩
theorem W_Mod_readsLaw (x1 : Int) (M : Mm) {P : Int → Mm → Prop} (H : (0 ≤ (2 + x1) ∧ (2 + x1) < 4) ∧ (0 ≤ (2 + x1) ∧ (2 + x1) < 4) ∧ (rng (M 12 (2 + x1).toNat)) ∧ (rng (M 11 (2 + x1).toNat)) ∧ ((M 12 (2 + x1).toNat) ≤ (M 11 (2 + x1).toNat) → (∀ M1 : Mm, M1 = (upr M 1 (up1 (M 1) 22 x1)) → ∃ P2 : Mm → Prop, S_Mod_nextToken  M1 P2 ∧ ∀ M2 : Mm, P2 M2 → (0 ≤ (2 + x1) ∧ (2 + x1) < 4) ∧ ∀ M3 : Mm, M3 = (upr M2 11 (up1 (M2 11) (2 + x1).toNat (M2 1 21))) → ∃ P4 : Int → Mm → Prop, S_Mod_reads  M3 P4 ∧ ∀ (r2 : Int) (M4 : Mm), P4 r2 M4 → (rng r2) ∧ (r2 ≠ 0 → ((0 ≤ (2 + x1) ∧ (2 + x1) < 4) ∧ ∀ M5 : Mm, M5 = (upr M4 12 (up1 (M4 12) (2 + x1).toNat (M4 1 21))) → P 1 M5)) ∧ (r2 = 0 → (P 0 M4)))) ∧ (¬ ((M 12 (2 + x1).toNat) ≤ (M 11 (2 + x1).toNat)) → (∃ P6 : Int → Mm → Prop, S_Mod_fails 3 M P6 ∧ ∀ (r3 : Int) (M6 : Mm), P6 r3 M6 → (r3 = 0 ∨ r3 = 1) ∧ P r3 M6))) : S_Mod_readsLaw x1 M P := e_Mod_readsLaw x1 M (fun _ h => w_Mod_readsLaw_0 h x1 M H)
set_option maxHeartbeats 4000000 in
set_option maxRecDepth 100000 in
theorem w_Mod_readsLine_0 {P : Int → Mm → Prop} {K : Nat → Rr → Nat → List (Nat × AV) → List AV → Mm → Prop} (h : EK shM yX12_readsLine cX12_readsLine 3 (some .boolean) 4 NM NM (QI RRM P) K)  (M : Mm)
    (H : ∃ P1 : Int → Mm → Prop, S_Mod_isWord 12251 M P1 ∧ ∀ (r1 : Int) (M1 : Mm), P1 r1 M1 → (rng r1) ∧ (r1 = 0 → (∃ P2 : Int → Mm → Prop, S_Mod_isWord 365260 M1 P2 ∧ ∀ (r2 : Int) (M2 : Mm), P2 r2 M2 → (rng r2) ∧ (r2 = 0 → (∃ P3 : Int → Mm → Prop, S_Mod_isWord 13703 M2 P3 ∧ ∀ (r3 : Int) (M3 : Mm), P3 r3 M3 → (rng r3) ∧ (r3 = 0 → (∃ P4 : Int → Mm → Prop, S_Mod_isWord 377958 M3 P4 ∧ ∀ (r4 : Int) (M4 : Mm), P4 r4 M4 → (rng r4) ∧ (r4 = 0 → (K NM RRM 57 [(0, vr 1)] [vi (-1)] M4)) ∧ (r4 ≠ 0 → (K NM RRM 57 [(0, vr 1)] [vi 3] M4)))) ∧ (r3 ≠ 0 → (K NM RRM 57 [(0, vr 1)] [vi 2] M3)))) ∧ (r2 ≠ 0 → (K NM RRM 57 [(0, vr 1)] [vi 1] M2)))) ∧ (r1 ≠ 0 → (K NM RRM 57 [(0, vr 1)] [vi 0] M1))) :
    K NM RRM 0 [(0, vr 1)] [] M := by
  refine r_aloadn h (q := 0) 0 rfl (by decide +kernel : decode cX12_readsLine 0 = .ok (.aload_n 0, 1)) ?_
  refine r_ldc2 h (v := 12251) kc_Mod_259 (by decide +kernel : decode cX12_readsLine 1 = .ok (.ldc2_w 259, 3)) ?_
  obtain ⟨P1, hSP1, H⟩ := H
  refine r_callV h (as := [vl 12251]) (S := []) (b := 1) m_Mod_208 hSP1 (by decide) (Nat.le_refl _) rfl at1M rfl (Nat.le_of_ble_eq_true rfl) (by decide +kernel : decode cX12_readsLine 4 = .ok (.invokevirtual 208, 3)) ?_
  rintro _ _ M1 ⟨rfl, r1, rfl, hP⟩
  have H := H r1 M1 hP
  show K NM RRM _ _ [vi r1] _
  obtain ⟨g1, H⟩ := H
  obtain ⟨H1, H2⟩ := H
  refine r_if_eq h 14 g1 (by decide) (by decide +kernel : decode cX12_readsLine 7 = .ok (.ifCond .eq 7, 3)) (fun hc => ?_) (fun hc => ?_)
  · have H := H1 hc
    refine r_aloadn h (q := 0) 0 rfl (by decide +kernel : decode cX12_readsLine 14 = .ok (.aload_n 0, 1)) ?_
    refine r_ldc2 h (v := 365260) kc_Mod_261 (by decide +kernel : decode cX12_readsLine 15 = .ok (.ldc2_w 261, 3)) ?_
    obtain ⟨P2, hSP2, H⟩ := H
    refine r_callV h (as := [vl 365260]) (S := []) (b := 1) m_Mod_208 hSP2 (by decide) (Nat.le_refl _) rfl at1M rfl (Nat.le_of_ble_eq_true rfl) (by decide +kernel : decode cX12_readsLine 18 = .ok (.invokevirtual 208, 3)) ?_
    rintro _ _ M2 ⟨rfl, r2, rfl, hP⟩
    have H := H r2 M2 hP
    show K NM RRM _ _ [vi r2] _
    obtain ⟨g1, H⟩ := H
    obtain ⟨H1, H2⟩ := H
    refine r_if_eq h 28 g1 (by decide) (by decide +kernel : decode cX12_readsLine 21 = .ok (.ifCond .eq 7, 3)) (fun hc => ?_) (fun hc => ?_)
    · have H := H1 hc
      refine r_aloadn h (q := 0) 0 rfl (by decide +kernel : decode cX12_readsLine 28 = .ok (.aload_n 0, 1)) ?_
      refine r_ldc2 h (v := 13703) kc_Mod_263 (by decide +kernel : decode cX12_readsLine 29 = .ok (.ldc2_w 263, 3)) ?_
      obtain ⟨P3, hSP3, H⟩ := H
      refine r_callV h (as := [vl 13703]) (S := []) (b := 1) m_Mod_208 hSP3 (by decide) (Nat.le_refl _) rfl at1M rfl (Nat.le_of_ble_eq_true rfl) (by decide +kernel : decode cX12_readsLine 32 = .ok (.invokevirtual 208, 3)) ?_
      rintro _ _ M3 ⟨rfl, r3, rfl, hP⟩
      have H := H r3 M3 hP
      show K NM RRM _ _ [vi r3] _
      obtain ⟨g1, H⟩ := H
      obtain ⟨H1, H2⟩ := H
      refine r_if_eq h 42 g1 (by decide) (by decide +kernel : decode cX12_readsLine 35 = .ok (.ifCond .eq 7, 3)) (fun hc => ?_) (fun hc => ?_)
      · have H := H1 hc
        refine r_aloadn h (q := 0) 0 rfl (by decide +kernel : decode cX12_readsLine 42 = .ok (.aload_n 0, 1)) ?_
        refine r_ldc2 h (v := 377958) kc_Mod_265 (by decide +kernel : decode cX12_readsLine 43 = .ok (.ldc2_w 265, 3)) ?_
        obtain ⟨P4, hSP4, H⟩ := H
        refine r_callV h (as := [vl 377958]) (S := []) (b := 1) m_Mod_208 hSP4 (by decide) (Nat.le_refl _) rfl at1M rfl (Nat.le_of_ble_eq_true rfl) (by decide +kernel : decode cX12_readsLine 46 = .ok (.invokevirtual 208, 3)) ?_
        rintro _ _ M4 ⟨rfl, r4, rfl, hP⟩
        have H := H r4 M4 hP
        show K NM RRM _ _ [vi r4] _
        obtain ⟨g1, H⟩ := H
        obtain ⟨H1, H2⟩ := H
        refine r_if_eq h 56 g1 (by decide) (by decide +kernel : decode cX12_readsLine 49 = .ok (.ifCond .eq 7, 3)) (fun hc => ?_) (fun hc => ?_)
        · have H := H1 hc
          refine r_iconst h (v := (-1)) (by decide +kernel : decode cX12_readsLine 56 = .ok (.iconst (-1), 1)) ?_
          exact H
        · have H := H2 hc
          refine r_iconst h (v := 3) (by decide +kernel : decode cX12_readsLine 52 = .ok (.iconst 3, 1)) ?_
          refine r_goto h 57 (by decide) (by decide +kernel : decode cX12_readsLine 53 = .ok (.goto 4, 3)) ?_
          exact H
      · have H := H2 hc
        refine r_iconst h (v := 2) (by decide +kernel : decode cX12_readsLine 38 = .ok (.iconst 2, 1)) ?_
        refine r_goto h 57 (by decide) (by decide +kernel : decode cX12_readsLine 39 = .ok (.goto 18, 3)) ?_
        exact H
    · have H := H2 hc
      refine r_iconst h (v := 1) (by decide +kernel : decode cX12_readsLine 24 = .ok (.iconst 1, 1)) ?_
      refine r_goto h 57 (by decide) (by decide +kernel : decode cX12_readsLine 25 = .ok (.goto 32, 3)) ?_
      exact H
  · have H := H2 hc
    refine r_iconst h (v := 0) (by decide +kernel : decode cX12_readsLine 10 = .ok (.iconst 0, 1)) ?_
    refine r_goto h 57 (by decide) (by decide +kernel : decode cX12_readsLine 11 = .ok (.goto 46, 3)) ?_
    exact H
set_option maxHeartbeats 4000000 in
set_option maxRecDepth 100000 in
theorem w_Mod_readsLine_57 {P : Int → Mm → Prop} {K : Nat → Rr → Nat → List (Nat × AV) → List AV → Mm → Prop} (h : EK shM yX12_readsLine cX12_readsLine 3 (some .boolean) 4 NM NM (QI RRM P) K) (s0 : Int) (M : Mm)
    (H : (rng s0) ∧ (0 ≤ s0 → ((rng (M 26 5)) ∧ ((M 26 5) ≠ 40 → (∃ P1 : Mm → Prop, S_Mod_nextToken  M P1 ∧ ∀ M1 : Mm, P1 M1 → (0 ≤ (200 + (M1 26 5)) ∧ (200 + (M1 26 5)) < 240) ∧ ∀ M2 : Mm, M2 = (upr M1 27 (up1 (M1 27) (200 + (M1 26 5)).toNat s0)) → (rng s0) ∧ (1 < s0 → ((rng s0) ∧ (s0 ≠ 0 → (K NM RRM 150 [(0, vr 1), (1, vi s0), (2, vi (200 + (M1 26 5)))] [] M2)) ∧ (s0 = 0 → (∃ P3 : Int → Mm → Prop, S_Mod_needsNumber 0 6 M2 P3 ∧ ∀ (r2 : Int) (M3 : Mm), P3 r2 M3 → (rng r2) ∧ (r2 = 0 → (P 0 M3)) ∧ (r2 ≠ 0 → (K NM RRM 150 [(0, vr 1), (1, vi s0), (2, vi (200 + (M1 26 5)))] [] M3)))))) ∧ (¬ (1 < s0) → (∃ P4 : Int → Mm → Prop, S_Mod_needsHouse 0 M2 P4 ∧ ∀ (r3 : Int) (M4 : Mm), P4 r3 M4 → (rng r3) ∧ (r3 ≠ 0 → ((0 ≤ (200 + (M1 26 5)) ∧ (200 + (M1 26 5)) < 240) ∧ ∀ M5 : Mm, M5 = (upr M4 28 (up1 (M4 28) (200 + (M1 26 5)).toNat (M4 1 36))) → ∃ P6 : Mm → Prop, S_Mod_nextToken  M5 P6 ∧ ∀ M6 : Mm, P6 M6 → (rng s0) ∧ (s0 ≠ 0 → (K NM RRM 150 [(0, vr 1), (1, vi s0), (2, vi (200 + (M1 26 5)))] [] M6)) ∧ (s0 = 0 → (∃ P7 : Int → Mm → Prop, S_Mod_needsNumber 0 6 M6 P7 ∧ ∀ (r5 : Int) (M7 : Mm), P7 r5 M7 → (rng r5) ∧ (r5 = 0 → (P 0 M7)) ∧ (r5 ≠ 0 → (K NM RRM 150 [(0, vr 1), (1, vi s0), (2, vi (200 + (M1 26 5)))] [] M7)))))) ∧ (r3 = 0 → (P 0 M4)))))) ∧ ((M 26 5) = 40 → (∃ P8 : Int → Mm → Prop, S_Mod_fails 5 M P8 ∧ ∀ (r6 : Int) (M8 : Mm), P8 r6 M8 → (r6 = 0 ∨ r6 = 1) ∧ P r6 M8)))) ∧ (¬ (0 ≤ s0) → (∃ P9 : Int → Mm → Prop, S_Mod_fails 1 M P9 ∧ ∀ (r7 : Int) (M9 : Mm), P9 r7 M9 → (r7 = 0 ∨ r7 = 1) ∧ P r7 M9))) :
    K NM RRM 57 [(0, vr 1)] [vi s0] M := by
  refine r_istoren h (q := 1) (L' := [(1, vi s0), (0, vr 1)]) (by decide) rfl (by decide +kernel : decode cX12_readsLine 57 = .ok (.istore_n 1, 1)) ?_
  refine r_iloadn h (q := 1) 0 rfl (by decide +kernel : decode cX12_readsLine 58 = .ok (.iload_n 1, 1)) ?_
  obtain ⟨g1, H⟩ := H
  obtain ⟨H1, H2⟩ := H
  refine r_if_ge h 68 g1 (by decide) (by decide +kernel : decode cX12_readsLine 59 = .ok (.ifCond .ge 9, 3)) (fun hc => ?_) (fun hc => ?_)
  · have H := H1 hc
    refine r_aloadn h (q := 0) 1 rfl (by decide +kernel : decode cX12_readsLine 68 = .ok (.aload_n 0, 1)) ?_
    refine r_getR h (r := 26) f_Mod_84 at1M rfl (by decide) (by decide +kernel : decode cX12_readsLine 69 = .ok (.getfield 84, 3)) ?_
    refine r_iconst h (v := 5) (by decide +kernel : decode cX12_readsLine 72 = .ok (.iconst 5, 1)) ?_
    refine r_iald h 5 rfl atM_26 (by decide) (by decide) (by decide +kernel : decode cX12_readsLine 73 = .ok (.iaload, 1)) ?_
    refine r_bipush h (v := 40) (by decide) (by decide +kernel : decode cX12_readsLine 74 = .ok (.bipush 40, 2)) ?_
    obtain ⟨g1, H⟩ := H
    obtain ⟨H1, H2⟩ := H
    refine r_icmp_ne h 85 g1 (by decide) (by decide) (by decide +kernel : decode cX12_readsLine 76 = .ok (.if_icmp .ne 9, 3)) (fun hc => ?_) (fun hc => ?_)
    · have H := H1 hc
      refine r_aloadn h (q := 0) 1 rfl (by decide +kernel : decode cX12_readsLine 85 = .ok (.aload_n 0, 1)) ?_
      obtain ⟨P1, hSP1, H⟩ := H
      refine r_callV h (as := []) (S := []) (b := 1) m_Mod_223 hSP1 (by decide) (Nat.le_refl _) rfl at1M rfl (Nat.le_of_ble_eq_true rfl) (by decide +kernel : decode cX12_readsLine 86 = .ok (.invokevirtual 223, 3)) ?_
      rintro _ _ M1 ⟨rfl, rfl, hP⟩
      have H := H M1 hP
      show K NM RRM _ _ [] _
      refine r_sipush h (v := 200) (by decide) (by decide +kernel : decode cX12_readsLine 89 = .ok (.sipush 200, 3)) ?_
      refine r_aloadn h (q := 0) 1 rfl (by decide +kernel : decode cX12_readsLine 92 = .ok (.aload_n 0, 1)) ?_
      refine r_getR h (r := 26) f_Mod_84 at1M rfl (by decide) (by decide +kernel : decode cX12_readsLine 93 = .ok (.getfield 84, 3)) ?_
      refine r_iconst h (v := 5) (by decide +kernel : decode cX12_readsLine 96 = .ok (.iconst 5, 1)) ?_
      refine r_iald h 5 rfl atM_26 (by decide) (by decide) (by decide +kernel : decode cX12_readsLine 97 = .ok (.iaload, 1)) ?_
      refine r_iadd h (by decide +kernel : decode cX12_readsLine 98 = .ok (.iadd, 1)) ?_
      refine r_istoren h (q := 2) (L' := [(2, vi (200 + (M1 26 5))), (1, vi s0), (0, vr 1)]) (by decide) rfl (by decide +kernel : decode cX12_readsLine 99 = .ok (.istore_n 2, 1)) ?_
      refine r_aloadn h (q := 0) 2 rfl (by decide +kernel : decode cX12_readsLine 100 = .ok (.aload_n 0, 1)) ?_
      refine r_getR h (r := 27) f_Mod_87 at1M rfl (by decide) (by decide +kernel : decode cX12_readsLine 101 = .ok (.getfield 87, 3)) ?_
      refine r_iloadn h (q := 2) 0 rfl (by decide +kernel : decode cX12_readsLine 104 = .ok (.iload_n 2, 1)) ?_
      refine r_iloadn h (q := 1) 1 rfl (by decide +kernel : decode cX12_readsLine 105 = .ok (.iload_n 1, 1)) ?_
      obtain ⟨g1, H⟩ := H
      refine r_iast h (200 + (M1 26 5)).toNat rfl atM_27 g1 (by decide) (by decide +kernel : decode cX12_readsLine 106 = .ok (.iastore, 1)) ?_
      have H := H _ rfl
      revert H
      generalize (upr M1 27 (up1 (M1 27) (200 + (M1 26 5)).toNat s0)) = M2
      intro H
      refine r_iloadn h (q := 1) 1 rfl (by decide +kernel : decode cX12_readsLine 107 = .ok (.iload_n 1, 1)) ?_
      refine r_iconst h (v := 1) (by decide +kernel : decode cX12_readsLine 108 = .ok (.iconst 1, 1)) ?_
      obtain ⟨g1, H⟩ := H
      obtain ⟨H1, H2⟩ := H
      refine r_icmp_gt h 136 g1 (by decide) (by decide) (by decide +kernel : decode cX12_readsLine 109 = .ok (.if_icmp .gt 27, 3)) (fun hc => ?_) (fun hc => ?_)
      · have H := H1 hc
        refine r_iloadn h (q := 1) 1 rfl (by decide +kernel : decode cX12_readsLine 136 = .ok (.iload_n 1, 1)) ?_
        obtain ⟨g1, H⟩ := H
        obtain ⟨H1, H2⟩ := H
        refine r_if_ne h 150 g1 (by decide) (by decide +kernel : decode cX12_readsLine 137 = .ok (.ifCond .ne 13, 3)) (fun hc => ?_) (fun hc => ?_)
        · have H := H1 hc
          refine r_drop h [2, 1, 0] rfl ?_
          exact H
        · have H := H2 hc
          refine r_aloadn h (q := 0) 2 rfl (by decide +kernel : decode cX12_readsLine 140 = .ok (.aload_n 0, 1)) ?_
          refine r_iconst h (v := 0) (by decide +kernel : decode cX12_readsLine 141 = .ok (.iconst 0, 1)) ?_
          refine r_bipush h (v := 6) (by decide) (by decide +kernel : decode cX12_readsLine 142 = .ok (.bipush 6, 2)) ?_
          obtain ⟨P3, hSP3, H⟩ := H
          refine r_callV h (as := [vi 0, vi 6]) (S := []) (b := 1) m_Mod_282 hSP3 (by decide) (Nat.le_refl _) rfl at1M rfl (Nat.le_of_ble_eq_true rfl) (by decide +kernel : decode cX12_readsLine 144 = .ok (.invokevirtual 282, 3)) ?_
          rintro _ _ M3 ⟨rfl, r2, rfl, hP⟩
          have H := H r2 M3 hP
          show K NM RRM _ _ [vi r2] _
          obtain ⟨g1, H⟩ := H
          obtain ⟨H1, H2⟩ := H
          refine r_if_eq h 165 g1 (by decide) (by decide +kernel : decode cX12_readsLine 147 = .ok (.ifCond .eq 18, 3)) (fun hc => ?_) (fun hc => ?_)
          · have H := H1 hc
            refine r_iconst h (v := 0) (by decide +kernel : decode cX12_readsLine 165 = .ok (.iconst 0, 1)) ?_
            exact r_zret h rfl (by decide) (by decide +kernel : decode cX12_readsLine 166 = .ok (.ireturn, 1)) rfl ⟨rfl, _, rfl, H⟩
          · have H := H2 hc
            refine r_drop h [2, 1, 0] rfl ?_
            exact H
      · have H := H2 hc
        refine r_aloadn h (q := 0) 2 rfl (by decide +kernel : decode cX12_readsLine 112 = .ok (.aload_n 0, 1)) ?_
        refine r_iconst h (v := 0) (by decide +kernel : decode cX12_readsLine 113 = .ok (.iconst 0, 1)) ?_
        obtain ⟨P4, hSP4, H⟩ := H
        refine r_callV h (as := [vi 0]) (S := []) (b := 1) m_Mod_303 hSP4 (by decide) (Nat.le_refl _) rfl at1M rfl (Nat.le_of_ble_eq_true rfl) (by decide +kernel : decode cX12_readsLine 114 = .ok (.invokevirtual 303, 3)) ?_
        rintro _ _ M4 ⟨rfl, r3, rfl, hP⟩
        have H := H r3 M4 hP
        show K NM RRM _ _ [vi r3] _
        obtain ⟨g1, H⟩ := H
        obtain ⟨H1, H2⟩ := H
        refine r_if_ne h 122 g1 (by decide) (by decide +kernel : decode cX12_readsLine 117 = .ok (.ifCond .ne 5, 3)) (fun hc => ?_) (fun hc => ?_)
        · have H := H1 hc
          refine r_aloadn h (q := 0) 2 rfl (by decide +kernel : decode cX12_readsLine 122 = .ok (.aload_n 0, 1)) ?_
          refine r_getR h (r := 28) f_Mod_90 at1M rfl (by decide) (by decide +kernel : decode cX12_readsLine 123 = .ok (.getfield 90, 3)) ?_
          refine r_iloadn h (q := 2) 0 rfl (by decide +kernel : decode cX12_readsLine 126 = .ok (.iload_n 2, 1)) ?_
          refine r_aloadn h (q := 0) 2 rfl (by decide +kernel : decode cX12_readsLine 127 = .ok (.aload_n 0, 1)) ?_
          refine r_getI h f_Mod_279 at1M (by decide +kernel : decode cX12_readsLine 128 = .ok (.getfield 279, 3)) ?_
          obtain ⟨g1, H⟩ := H
          refine r_iast h (200 + (M1 26 5)).toNat rfl atM_28 g1 (by decide) (by decide +kernel : decode cX12_readsLine 131 = .ok (.iastore, 1)) ?_
          have H := H _ rfl
          revert H
          generalize (upr M4 28 (up1 (M4 28) (200 + (M1 26 5)).toNat (M4 1 36))) = M5
          intro H
          refine r_aloadn h (q := 0) 2 rfl (by decide +kernel : decode cX12_readsLine 132 = .ok (.aload_n 0, 1)) ?_
          obtain ⟨P6, hSP6, H⟩ := H
          refine r_callV h (as := []) (S := []) (b := 1) m_Mod_223 hSP6 (by decide) (Nat.le_refl _) rfl at1M rfl (Nat.le_of_ble_eq_true rfl) (by decide +kernel : decode cX12_readsLine 133 = .ok (.invokevirtual 223, 3)) ?_
          rintro _ _ M6 ⟨rfl, rfl, hP⟩
          have H := H M6 hP
          show K NM RRM _ _ [] _
          refine r_iloadn h (q := 1) 1 rfl (by decide +kernel : decode cX12_readsLine 136 = .ok (.iload_n 1, 1)) ?_
          obtain ⟨g1, H⟩ := H
          obtain ⟨H1, H2⟩ := H
          refine r_if_ne h 150 g1 (by decide) (by decide +kernel : decode cX12_readsLine 137 = .ok (.ifCond .ne 13, 3)) (fun hc => ?_) (fun hc => ?_)
          · have H := H1 hc
            refine r_drop h [2, 1, 0] rfl ?_
            exact H
          · have H := H2 hc
            refine r_aloadn h (q := 0) 2 rfl (by decide +kernel : decode cX12_readsLine 140 = .ok (.aload_n 0, 1)) ?_
            refine r_iconst h (v := 0) (by decide +kernel : decode cX12_readsLine 141 = .ok (.iconst 0, 1)) ?_
            refine r_bipush h (v := 6) (by decide) (by decide +kernel : decode cX12_readsLine 142 = .ok (.bipush 6, 2)) ?_
            obtain ⟨P7, hSP7, H⟩ := H
            refine r_callV h (as := [vi 0, vi 6]) (S := []) (b := 1) m_Mod_282 hSP7 (by decide) (Nat.le_refl _) rfl at1M rfl (Nat.le_of_ble_eq_true rfl) (by decide +kernel : decode cX12_readsLine 144 = .ok (.invokevirtual 282, 3)) ?_
            rintro _ _ M7 ⟨rfl, r5, rfl, hP⟩
            have H := H r5 M7 hP
            show K NM RRM _ _ [vi r5] _
            obtain ⟨g1, H⟩ := H
            obtain ⟨H1, H2⟩ := H
            refine r_if_eq h 165 g1 (by decide) (by decide +kernel : decode cX12_readsLine 147 = .ok (.ifCond .eq 18, 3)) (fun hc => ?_) (fun hc => ?_)
            · have H := H1 hc
              refine r_iconst h (v := 0) (by decide +kernel : decode cX12_readsLine 165 = .ok (.iconst 0, 1)) ?_
              exact r_zret h rfl (by decide) (by decide +kernel : decode cX12_readsLine 166 = .ok (.ireturn, 1)) rfl ⟨rfl, _, rfl, H⟩
            · have H := H2 hc
              refine r_drop h [2, 1, 0] rfl ?_
              exact H
        · have H := H2 hc
          refine r_iconst h (v := 0) (by decide +kernel : decode cX12_readsLine 120 = .ok (.iconst 0, 1)) ?_
          exact r_zret h rfl (by decide) (by decide +kernel : decode cX12_readsLine 121 = .ok (.ireturn, 1)) rfl ⟨rfl, _, rfl, H⟩
    · have H := H2 hc
      refine r_aloadn h (q := 0) 1 rfl (by decide +kernel : decode cX12_readsLine 79 = .ok (.aload_n 0, 1)) ?_
      refine r_iconst h (v := 5) (by decide +kernel : decode cX12_readsLine 80 = .ok (.iconst 5, 1)) ?_
      obtain ⟨P8, hSP8, H⟩ := H
      refine r_callV h (as := [vi 5]) (S := []) (b := 1) m_Mod_216 hSP8 (by decide) (Nat.le_refl _) rfl at1M rfl (Nat.le_of_ble_eq_true rfl) (by decide +kernel : decode cX12_readsLine 81 = .ok (.invokevirtual 216, 3)) ?_
      rintro _ _ M8 ⟨rfl, r6, rfl, hP⟩
      have H := H r6 M8 hP
      show K NM RRM _ _ [vi r6] _
      exact r_zret h rfl H.1 (by decide +kernel : decode cX12_readsLine 84 = .ok (.ireturn, 1)) rfl ⟨rfl, _, rfl, H.2⟩
  · have H := H2 hc
    refine r_aloadn h (q := 0) 1 rfl (by decide +kernel : decode cX12_readsLine 62 = .ok (.aload_n 0, 1)) ?_
    refine r_iconst h (v := 1) (by decide +kernel : decode cX12_readsLine 63 = .ok (.iconst 1, 1)) ?_
    obtain ⟨P9, hSP9, H⟩ := H
    refine r_callV h (as := [vi 1]) (S := []) (b := 1) m_Mod_216 hSP9 (by decide) (Nat.le_refl _) rfl at1M rfl (Nat.le_of_ble_eq_true rfl) (by decide +kernel : decode cX12_readsLine 64 = .ok (.invokevirtual 216, 3)) ?_
    rintro _ _ M9 ⟨rfl, r7, rfl, hP⟩
    have H := H r7 M9 hP
    show K NM RRM _ _ [vi r7] _
    exact r_zret h rfl H.1 (by decide +kernel : decode cX12_readsLine 67 = .ok (.ireturn, 1)) rfl ⟨rfl, _, rfl, H.2⟩
set_option maxHeartbeats 4000000 in
set_option maxRecDepth 100000 in
theorem w_Mod_readsLine_150 {P : Int → Mm → Prop} {K : Nat → Rr → Nat → List (Nat × AV) → List AV → Mm → Prop} (h : EK shM yX12_readsLine cX12_readsLine 3 (some .boolean) 4 NM NM (QI RRM P) K) (x1 : Int) (x2 : Int) (M : Mm)
    (H : (rng x1) ∧ (x1 ≠ 3 → (K NM RRM 167 [(0, vr 1), (2, vi x2)] [] M)) ∧ (x1 = 3 → (∃ P1 : Int → Mm → Prop, S_Mod_needsNumber 1 99 M P1 ∧ ∀ (r1 : Int) (M1 : Mm), P1 r1 M1 → (rng r1) ∧ (r1 ≠ 0 → (K NM RRM 167 [(0, vr 1), (2, vi x2)] [] M1)) ∧ (r1 = 0 → (P 0 M1))))) :
    K NM RRM 150 [(0, vr 1), (1, vi x1), (2, vi x2)] [] M := by
  refine r_iloadn h (q := 1) 1 rfl (by decide +kernel : decode cX12_readsLine 150 = .ok (.iload_n 1, 1)) ?_
  refine r_iconst h (v := 3) (by decide +kernel : decode cX12_readsLine 151 = .ok (.iconst 3, 1)) ?_
  obtain ⟨g1, H⟩ := H
  obtain ⟨H1, H2⟩ := H
  refine r_icmp_ne h 167 g1 (by decide) (by decide) (by decide +kernel : decode cX12_readsLine 152 = .ok (.if_icmp .ne 15, 3)) (fun hc => ?_) (fun hc => ?_)
  · have H := H1 hc
    refine r_drop h [0, 2] rfl ?_
    exact H
  · have H := H2 hc
    refine r_aloadn h (q := 0) 0 rfl (by decide +kernel : decode cX12_readsLine 155 = .ok (.aload_n 0, 1)) ?_
    refine r_iconst h (v := 1) (by decide +kernel : decode cX12_readsLine 156 = .ok (.iconst 1, 1)) ?_
    refine r_bipush h (v := 99) (by decide) (by decide +kernel : decode cX12_readsLine 157 = .ok (.bipush 99, 2)) ?_
    obtain ⟨P1, hSP1, H⟩ := H
    refine r_callV h (as := [vi 1, vi 99]) (S := []) (b := 1) m_Mod_282 hSP1 (by decide) (Nat.le_refl _) rfl at1M rfl (Nat.le_of_ble_eq_true rfl) (by decide +kernel : decode cX12_readsLine 159 = .ok (.invokevirtual 282, 3)) ?_
    rintro _ _ M1 ⟨rfl, r1, rfl, hP⟩
    have H := H r1 M1 hP
    show K NM RRM _ _ [vi r1] _
    obtain ⟨g1, H⟩ := H
    obtain ⟨H1, H2⟩ := H
    refine r_if_ne h 167 g1 (by decide) (by decide +kernel : decode cX12_readsLine 162 = .ok (.ifCond .ne 5, 3)) (fun hc => ?_) (fun hc => ?_)
    · have H := H1 hc
      refine r_drop h [0, 2] rfl ?_
      exact H
    · have H := H2 hc
      refine r_iconst h (v := 0) (by decide +kernel : decode cX12_readsLine 165 = .ok (.iconst 0, 1)) ?_
      exact r_zret h rfl (by decide) (by decide +kernel : decode cX12_readsLine 166 = .ok (.ireturn, 1)) rfl ⟨rfl, _, rfl, H⟩
set_option maxHeartbeats 4000000 in
set_option maxRecDepth 100000 in
theorem w_Mod_readsLine_167 {P : Int → Mm → Prop} {K : Nat → Rr → Nat → List (Nat × AV) → List AV → Mm → Prop} (h : EK shM yX12_readsLine cX12_readsLine 3 (some .boolean) 4 NM NM (QI RRM P) K) (x2 : Int) (M : Mm)
    (H : (0 ≤ x2 ∧ x2 < 240) ∧ ∀ M1 : Mm, M1 = (upr M 29 (up1 (M 29) x2.toNat (M 1 36))) → ∀ M2 : Mm, M2 = (upr M1 26 (up1 (M1 26) 5 ((M1 26 5) + 1))) → ∃ P3 : Int → Mm → Prop, S_Mod_closes  M2 P3 ∧ ∀ (r1 : Int) (M3 : Mm), P3 r1 M3 → (r1 = 0 ∨ r1 = 1) ∧ P r1 M3) :
    K NM RRM 167 [(0, vr 1), (2, vi x2)] [] M := by
  refine r_aloadn h (q := 0) 0 rfl (by decide +kernel : decode cX12_readsLine 167 = .ok (.aload_n 0, 1)) ?_
  refine r_getR h (r := 29) f_Mod_93 at1M rfl (by decide) (by decide +kernel : decode cX12_readsLine 168 = .ok (.getfield 93, 3)) ?_
  refine r_iloadn h (q := 2) 1 rfl (by decide +kernel : decode cX12_readsLine 171 = .ok (.iload_n 2, 1)) ?_
  refine r_aloadn h (q := 0) 0 rfl (by decide +kernel : decode cX12_readsLine 172 = .ok (.aload_n 0, 1)) ?_
  refine r_getI h f_Mod_279 at1M (by decide +kernel : decode cX12_readsLine 173 = .ok (.getfield 279, 3)) ?_
  obtain ⟨g1, H⟩ := H
  refine r_iast h x2.toNat rfl atM_29 g1 (by decide) (by decide +kernel : decode cX12_readsLine 176 = .ok (.iastore, 1)) ?_
  have H := H _ rfl
  revert H
  generalize (upr M 29 (up1 (M 29) x2.toNat (M 1 36))) = M1
  intro H
  refine r_aloadn h (q := 0) 0 rfl (by decide +kernel : decode cX12_readsLine 177 = .ok (.aload_n 0, 1)) ?_
  refine r_getR h (r := 26) f_Mod_84 at1M rfl (by decide) (by decide +kernel : decode cX12_readsLine 178 = .ok (.getfield 84, 3)) ?_
  refine r_iconst h (v := 5) (by decide +kernel : decode cX12_readsLine 181 = .ok (.iconst 5, 1)) ?_
  refine r_dup2 h rfl rfl (by decide +kernel : decode cX12_readsLine 182 = .ok (.dup2, 1)) ?_
  refine r_iald h 5 rfl atM_26 (by decide) (by decide) (by decide +kernel : decode cX12_readsLine 183 = .ok (.iaload, 1)) ?_
  refine r_iconst h (v := 1) (by decide +kernel : decode cX12_readsLine 184 = .ok (.iconst 1, 1)) ?_
  refine r_iadd h (by decide +kernel : decode cX12_readsLine 185 = .ok (.iadd, 1)) ?_
  refine r_iast h 5 rfl atM_26 (by decide) (by decide) (by decide +kernel : decode cX12_readsLine 186 = .ok (.iastore, 1)) ?_
  have H := H _ rfl
  revert H
  generalize (upr M1 26 (up1 (M1 26) 5 ((M1 26 5) + 1))) = M2
  intro H
  refine r_aloadn h (q := 0) 0 rfl (by decide +kernel : decode cX12_readsLine 187 = .ok (.aload_n 0, 1)) ?_
  obtain ⟨P3, hSP3, H⟩ := H
  refine r_callV h (as := []) (S := []) (b := 1) m_Mod_300 hSP3 (by decide) (Nat.le_refl _) rfl at1M rfl (Nat.le_of_ble_eq_true rfl) (by decide +kernel : decode cX12_readsLine 188 = .ok (.invokevirtual 300, 3)) ?_
  rintro _ _ M3 ⟨rfl, r1, rfl, hP⟩
  have H := H r1 M3 hP
  show K NM RRM _ _ [vi r1] _
  exact r_zret h rfl H.1 (by decide +kernel : decode cX12_readsLine 191 = .ok (.ireturn, 1)) rfl ⟨rfl, _, rfl, H.2⟩
set_option maxHeartbeats 4000000 in
set_option maxRecDepth 100000 in
theorem w_Mod_pressedOf_0 {P : Int → Mm → Prop} {K : Nat → Rr → Nat → List (Nat × AV) → List AV → Mm → Prop} (h : EK shM yX12_pressedOf cX12_pressedOf 3 (some .int) 4 NM NM (QI RRM P) K) (x1 : Int) (M : Mm)
    (H : (0 ≤ (12 + x1) ∧ (12 + x1) < 33) ∧ (rng (M 34 (12 + x1).toNat)) ∧ (rng (M 34 1)) ∧ ((M 34 (12 + x1).toNat) ≤ (M 34 1) → ((0 ≤ (19 + x1) ∧ (19 + x1) < 33) ∧ K NM RRM 41 [(0, vr 1), (1, vi x1)] [vi (divI (M 34 (19 + x1).toNat) 2)] M)) ∧ (¬ ((M 34 (12 + x1).toNat) ≤ (M 34 1)) → ((0 ≤ (19 + x1) ∧ (19 + x1) < 33) ∧ K NM RRM 41 [(0, vr 1), (1, vi x1)] [vi (M 34 (19 + x1).toNat)] M))) :
    K NM RRM 0 [(0, vr 1), (1, vi x1)] [] M := by
  refine r_aloadn h (q := 0) 0 rfl (by decide +kernel : decode cX12_pressedOf 0 = .ok (.aload_n 0, 1)) ?_
  refine r_getR h (r := 34) f_Mod_108 at1M rfl (by decide) (by decide +kernel : decode cX12_pressedOf 1 = .ok (.getfield 108, 3)) ?_
  refine r_bipush h (v := 12) (by decide) (by decide +kernel : decode cX12_pressedOf 4 = .ok (.bipush 12, 2)) ?_
  refine r_iloadn h (q := 1) 1 rfl (by decide +kernel : decode cX12_pressedOf 6 = .ok (.iload_n 1, 1)) ?_
  refine r_iadd h (by decide +kernel : decode cX12_pressedOf 7 = .ok (.iadd, 1)) ?_
  obtain ⟨g1, H⟩ := H
  refine r_iald h (12 + x1).toNat rfl atM_34 g1 (by decide) (by decide +kernel : decode cX12_pressedOf 8 = .ok (.iaload, 1)) ?_
  refine r_aloadn h (q := 0) 0 rfl (by decide +kernel : decode cX12_pressedOf 9 = .ok (.aload_n 0, 1)) ?_
  refine r_getR h (r := 34) f_Mod_108 at1M rfl (by decide) (by decide +kernel : decode cX12_pressedOf 10 = .ok (.getfield 108, 3)) ?_
  refine r_iconst h (v := 1) (by decide +kernel : decode cX12_pressedOf 13 = .ok (.iconst 1, 1)) ?_
  refine r_iald h 1 rfl atM_34 (by decide) (by decide) (by decide +kernel : decode cX12_pressedOf 14 = .ok (.iaload, 1)) ?_
  obtain ⟨g1, g2, H⟩ := H
  obtain ⟨H1, H2⟩ := H
  refine r_icmp_le h 30 g1 g2 (by decide) (by decide +kernel : decode cX12_pressedOf 15 = .ok (.if_icmp .le 15, 3)) (fun hc => ?_) (fun hc => ?_)
  · have H := H1 hc
    refine r_aloadn h (q := 0) 0 rfl (by decide +kernel : decode cX12_pressedOf 30 = .ok (.aload_n 0, 1)) ?_
    refine r_getR h (r := 34) f_Mod_108 at1M rfl (by decide) (by decide +kernel : decode cX12_pressedOf 31 = .ok (.getfield 108, 3)) ?_
    refine r_bipush h (v := 19) (by decide) (by decide +kernel : decode cX12_pressedOf 34 = .ok (.bipush 19, 2)) ?_
    refine r_iloadn h (q := 1) 1 rfl (by decide +kernel : decode cX12_pressedOf 36 = .ok (.iload_n 1, 1)) ?_
    refine r_iadd h (by decide +kernel : decode cX12_pressedOf 37 = .ok (.iadd, 1)) ?_
    obtain ⟨g1, H⟩ := H
    refine r_iald h (19 + x1).toNat rfl atM_34 g1 (by decide) (by decide +kernel : decode cX12_pressedOf 38 = .ok (.iaload, 1)) ?_
    refine r_iconst h (v := 2) (by decide +kernel : decode cX12_pressedOf 39 = .ok (.iconst 2, 1)) ?_
    refine r_idiv h (by decide) (by decide) (by decide +kernel : decode cX12_pressedOf 40 = .ok (.idiv, 1)) ?_
    exact H
  · have H := H2 hc
    refine r_aloadn h (q := 0) 0 rfl (by decide +kernel : decode cX12_pressedOf 18 = .ok (.aload_n 0, 1)) ?_
    refine r_getR h (r := 34) f_Mod_108 at1M rfl (by decide) (by decide +kernel : decode cX12_pressedOf 19 = .ok (.getfield 108, 3)) ?_
    refine r_bipush h (v := 19) (by decide) (by decide +kernel : decode cX12_pressedOf 22 = .ok (.bipush 19, 2)) ?_
    refine r_iloadn h (q := 1) 1 rfl (by decide +kernel : decode cX12_pressedOf 24 = .ok (.iload_n 1, 1)) ?_
    refine r_iadd h (by decide +kernel : decode cX12_pressedOf 25 = .ok (.iadd, 1)) ?_
    obtain ⟨g1, H⟩ := H
    refine r_iald h (19 + x1).toNat rfl atM_34 g1 (by decide) (by decide +kernel : decode cX12_pressedOf 26 = .ok (.iaload, 1)) ?_
    refine r_goto h 41 (by decide) (by decide +kernel : decode cX12_pressedOf 27 = .ok (.goto 14, 3)) ?_
    exact H
set_option maxHeartbeats 4000000 in
set_option maxRecDepth 100000 in
theorem w_Mod_pressedOf_41 {P : Int → Mm → Prop} {K : Nat → Rr → Nat → List (Nat × AV) → List AV → Mm → Prop} (h : EK shM yX12_pressedOf cX12_pressedOf 3 (some .int) 4 NM NM (QI RRM P) K) (x1 : Int) (s0 : Int) (M : Mm)
    (H : (rng (M 12 0)) ∧ (rng (M 11 0)) ∧ ((M 12 0) ≤ (M 11 0) → (K NM RRM 105 [(0, vr 1), (1, vi x1), (2, vi s0)] [] M)) ∧ (¬ ((M 12 0) ≤ (M 11 0)) → ((0 ≤ (12 + x1) ∧ (12 + x1) < 33) ∧ ∀ M1 : Mm, M1 = (upr M 25 (up1 (M 25) 1 (M 34 (12 + x1).toNat))) → (0 ≤ (19 + x1) ∧ (19 + x1) < 33) ∧ ∀ M2 : Mm, M2 = (upr M1 25 (up1 (M1 25) 2 (M1 34 (19 + x1).toNat))) → ∀ M3 : Mm, M3 = (upr M2 25 (up1 (M2 25) 3 (M2 34 1))) → ∃ P4 : Int → Mm → Prop, S_Mod_worked 0 M3 P4 ∧ ∀ (r1 : Int) (M4 : Mm), P4 r1 M4 → K NM RRM 105 [(0, vr 1), (1, vi x1), (2, vi r1)] [] M4))) :
    K NM RRM 41 [(0, vr 1), (1, vi x1)] [vi s0] M := by
  refine r_istoren h (q := 2) (L' := [(2, vi s0), (0, vr 1), (1, vi x1)]) (by decide) rfl (by decide +kernel : decode cX12_pressedOf 41 = .ok (.istore_n 2, 1)) ?_
  refine r_aloadn h (q := 0) 1 rfl (by decide +kernel : decode cX12_pressedOf 42 = .ok (.aload_n 0, 1)) ?_
  refine r_getR h (r := 12) f_Mod_41 at1M rfl (by decide) (by decide +kernel : decode cX12_pressedOf 43 = .ok (.getfield 41, 3)) ?_
  refine r_iconst h (v := 0) (by decide +kernel : decode cX12_pressedOf 46 = .ok (.iconst 0, 1)) ?_
  refine r_iald h 0 rfl atM_12 (by decide) (by decide) (by decide +kernel : decode cX12_pressedOf 47 = .ok (.iaload, 1)) ?_
  refine r_aloadn h (q := 0) 1 rfl (by decide +kernel : decode cX12_pressedOf 48 = .ok (.aload_n 0, 1)) ?_
  refine r_getR h (r := 11) f_Mod_38 at1M rfl (by decide) (by decide +kernel : decode cX12_pressedOf 49 = .ok (.getfield 38, 3)) ?_
  refine r_iconst h (v := 0) (by decide +kernel : decode cX12_pressedOf 52 = .ok (.iconst 0, 1)) ?_
  refine r_iald h 0 rfl atM_11 (by decide) (by decide) (by decide +kernel : decode cX12_pressedOf 53 = .ok (.iaload, 1)) ?_
  obtain ⟨g1, g2, H⟩ := H
  obtain ⟨H1, H2⟩ := H
  refine r_icmp_le h 105 g1 g2 (by decide) (by decide +kernel : decode cX12_pressedOf 54 = .ok (.if_icmp .le 51, 3)) (fun hc => ?_) (fun hc => ?_)
  · have H := H1 hc
    refine r_drop h [1, 2, 0] rfl ?_
    exact H
  · have H := H2 hc
    refine r_aloadn h (q := 0) 1 rfl (by decide +kernel : decode cX12_pressedOf 57 = .ok (.aload_n 0, 1)) ?_
    refine r_getR h (r := 25) f_Mod_81 at1M rfl (by decide) (by decide +kernel : decode cX12_pressedOf 58 = .ok (.getfield 81, 3)) ?_
    refine r_iconst h (v := 1) (by decide +kernel : decode cX12_pressedOf 61 = .ok (.iconst 1, 1)) ?_
    refine r_aloadn h (q := 0) 1 rfl (by decide +kernel : decode cX12_pressedOf 62 = .ok (.aload_n 0, 1)) ?_
    refine r_getR h (r := 34) f_Mod_108 at1M rfl (by decide) (by decide +kernel : decode cX12_pressedOf 63 = .ok (.getfield 108, 3)) ?_
    refine r_bipush h (v := 12) (by decide) (by decide +kernel : decode cX12_pressedOf 66 = .ok (.bipush 12, 2)) ?_
    refine r_iloadn h (q := 1) 2 rfl (by decide +kernel : decode cX12_pressedOf 68 = .ok (.iload_n 1, 1)) ?_
    refine r_iadd h (by decide +kernel : decode cX12_pressedOf 69 = .ok (.iadd, 1)) ?_
    obtain ⟨g1, H⟩ := H
    refine r_iald h (12 + x1).toNat rfl atM_34 g1 (by decide) (by decide +kernel : decode cX12_pressedOf 70 = .ok (.iaload, 1)) ?_
    refine r_iast h 1 rfl atM_25 (by decide) (by decide) (by decide +kernel : decode cX12_pressedOf 71 = .ok (.iastore, 1)) ?_
    have H := H _ rfl
    revert H
    generalize (upr M 25 (up1 (M 25) 1 (M 34 (12 + x1).toNat))) = M1
    intro H
    refine r_aloadn h (q := 0) 1 rfl (by decide +kernel : decode cX12_pressedOf 72 = .ok (.aload_n 0, 1)) ?_
    refine r_getR h (r := 25) f_Mod_81 at1M rfl (by decide) (by decide +kernel : decode cX12_pressedOf 73 = .ok (.getfield 81, 3)) ?_
    refine r_iconst h (v := 2) (by decide +kernel : decode cX12_pressedOf 76 = .ok (.iconst 2, 1)) ?_
    refine r_aloadn h (q := 0) 1 rfl (by decide +kernel : decode cX12_pressedOf 77 = .ok (.aload_n 0, 1)) ?_
    refine r_getR h (r := 34) f_Mod_108 at1M rfl (by decide) (by decide +kernel : decode cX12_pressedOf 78 = .ok (.getfield 108, 3)) ?_
    refine r_bipush h (v := 19) (by decide) (by decide +kernel : decode cX12_pressedOf 81 = .ok (.bipush 19, 2)) ?_
    refine r_iloadn h (q := 1) 2 rfl (by decide +kernel : decode cX12_pressedOf 83 = .ok (.iload_n 1, 1)) ?_
    refine r_iadd h (by decide +kernel : decode cX12_pressedOf 84 = .ok (.iadd, 1)) ?_
    obtain ⟨g1, H⟩ := H
    refine r_iald h (19 + x1).toNat rfl atM_34 g1 (by decide) (by decide +kernel : decode cX12_pressedOf 85 = .ok (.iaload, 1)) ?_
    refine r_iast h 2 rfl atM_25 (by decide) (by decide) (by decide +kernel : decode cX12_pressedOf 86 = .ok (.iastore, 1)) ?_
    have H := H _ rfl
    revert H
    generalize (upr M1 25 (up1 (M1 25) 2 (M1 34 (19 + x1).toNat))) = M2
    intro H
    refine r_aloadn h (q := 0) 1 rfl (by decide +kernel : decode cX12_pressedOf 87 = .ok (.aload_n 0, 1)) ?_
    refine r_getR h (r := 25) f_Mod_81 at1M rfl (by decide) (by decide +kernel : decode cX12_pressedOf 88 = .ok (.getfield 81, 3)) ?_
    refine r_iconst h (v := 3) (by decide +kernel : decode cX12_pressedOf 91 = .ok (.iconst 3, 1)) ?_
    refine r_aloadn h (q := 0) 1 rfl (by decide +kernel : decode cX12_pressedOf 92 = .ok (.aload_n 0, 1)) ?_
    refine r_getR h (r := 34) f_Mod_108 at1M rfl (by decide) (by decide +kernel : decode cX12_pressedOf 93 = .ok (.getfield 108, 3)) ?_
    refine r_iconst h (v := 1) (by decide +kernel : decode cX12_pressedOf 96 = .ok (.iconst 1, 1)) ?_
    refine r_iald h 1 rfl atM_34 (by decide) (by decide) (by decide +kernel : decode cX12_pressedOf 97 = .ok (.iaload, 1)) ?_
    refine r_iast h 3 rfl atM_25 (by decide) (by decide) (by decide +kernel : decode cX12_pressedOf 98 = .ok (.iastore, 1)) ?_
    have H := H _ rfl
    revert H
    generalize (upr M2 25 (up1 (M2 25) 3 (M2 34 1))) = M3
    intro H
    refine r_aloadn h (q := 0) 1 rfl (by decide +kernel : decode cX12_pressedOf 99 = .ok (.aload_n 0, 1)) ?_
    refine r_iconst h (v := 0) (by decide +kernel : decode cX12_pressedOf 100 = .ok (.iconst 0, 1)) ?_
    obtain ⟨P4, hSP4, H⟩ := H
    refine r_callV h (as := [vi 0]) (S := []) (b := 1) m_Mod_350 hSP4 (by decide) (Nat.le_refl _) rfl at1M rfl (Nat.le_of_ble_eq_true rfl) (by decide +kernel : decode cX12_pressedOf 101 = .ok (.invokevirtual 350, 3)) ?_
    rintro _ _ M4 ⟨rfl, r1, rfl, hP⟩
    have H := H r1 M4 hP
    show K NM RRM _ _ [vi r1] _
    refine r_istoren h (q := 2) (L' := [(2, vi r1), (0, vr 1), (1, vi x1)]) (by decide) rfl (by decide +kernel : decode cX12_pressedOf 104 = .ok (.istore_n 2, 1)) ?_
    refine r_drop h [1, 2, 0] rfl ?_
    exact H
set_option maxHeartbeats 4000000 in
set_option maxRecDepth 100000 in
theorem w_Mod_pressedOf_105 {P : Int → Mm → Prop} {K : Nat → Rr → Nat → List (Nat × AV) → List AV → Mm → Prop} (h : EK shM yX12_pressedOf cX12_pressedOf 3 (some .int) 4 NM NM (QI RRM P) K) (x1 : Int) (x2 : Int) (M : Mm)
    (H : (0 ≤ (19 + x1) ∧ (19 + x1) < 33) ∧ ∃ P1 : Int → Mm → Prop, S_Mod_between x2 0 99 M P1 ∧ ∀ (r1 : Int) (M1 : Mm), P1 r1 M1 → (rng (M 34 (19 + x1).toNat)) ∧ (rng r1) ∧ P (min (M 34 (19 + x1).toNat) r1) M1) :
    K NM RRM 105 [(0, vr 1), (1, vi x1), (2, vi x2)] [] M := by
  refine r_aloadn h (q := 0) 0 rfl (by decide +kernel : decode cX12_pressedOf 105 = .ok (.aload_n 0, 1)) ?_
  refine r_getR h (r := 34) f_Mod_108 at1M rfl (by decide) (by decide +kernel : decode cX12_pressedOf 106 = .ok (.getfield 108, 3)) ?_
  refine r_bipush h (v := 19) (by decide) (by decide +kernel : decode cX12_pressedOf 109 = .ok (.bipush 19, 2)) ?_
  refine r_iloadn h (q := 1) 1 rfl (by decide +kernel : decode cX12_pressedOf 111 = .ok (.iload_n 1, 1)) ?_
  refine r_iadd h (by decide +kernel : decode cX12_pressedOf 112 = .ok (.iadd, 1)) ?_
  obtain ⟨g1, H⟩ := H
  refine r_iald h (19 + x1).toNat rfl atM_34 g1 (by decide) (by decide +kernel : decode cX12_pressedOf 113 = .ok (.iaload, 1)) ?_
  refine r_iloadn h (q := 2) 2 rfl (by decide +kernel : decode cX12_pressedOf 114 = .ok (.iload_n 2, 1)) ?_
  refine r_iconst h (v := 0) (by decide +kernel : decode cX12_pressedOf 115 = .ok (.iconst 0, 1)) ?_
  refine r_bipush h (v := 99) (by decide) (by decide +kernel : decode cX12_pressedOf 116 = .ok (.bipush 99, 2)) ?_
  obtain ⟨P1, hSP1, H⟩ := H
  refine r_callS h (as := [vi x2, vi 0, vi 99]) (S := [vi (M 34 (19 + x1).toNat)]) m_Mod_353 hSP1 (by decide) (Nat.le_refl _) rfl rfl (Nat.le_of_ble_eq_true rfl) (by decide +kernel : decode cX12_pressedOf 118 = .ok (.invokestatic 353, 3)) ?_
  rintro _ _ M1 ⟨rfl, r1, rfl, hP⟩
  have H := H r1 M1 hP
  show K NM RRM _ _ [vi r1, vi (M 34 (19 + x1).toNat)] _
  obtain ⟨g1, g2, H⟩ := H
  refine r_min h g1 g2 kM_min_Mod (by decide) (Nat.le_refl _) (Nat.le_of_ble_eq_true rfl) (by decide +kernel : decode cX12_pressedOf 121 = .ok (.invokestatic 357, 3)) ?_
  rw [min_if]
  have gm1 : rng (min (M 34 (19 + x1).toNat) r1) := min_rng g1 g2
  exact r_iret h rfl (by decide +kernel : decode cX12_pressedOf 124 = .ok (.ireturn, 1)) rfl ⟨rfl, _, rfl, H⟩
set_option maxHeartbeats 4000000 in
set_option maxRecDepth 100000 in
theorem w_Mod_printedBy_0 {P : Int → Mm → Prop} {K : Nat → Rr → Nat → List (Nat × AV) → List AV → Mm → Prop} (h : EK shM yX12_printedBy cX12_printedBy 4 (some .int) 4 NM NM (QI RRM P) K) (x1 : Int) (x2 : Int) (M : Mm)
    (H : (rng x1) ∧ (x1 < 0 → (P 0 M)) ∧ (¬ (x1 < 0) → ((0 ≤ x2 ∧ x2 < 14) ∧ (rng (M 5 x2.toNat)) ∧ ((M 5 x2.toNat) ≠ 3 → ((0 ≤ x1 ∧ x1 < 14) ∧ (rng (M 12 1)) ∧ (rng (M 11 1)) ∧ ((M 12 1) ≤ (M 11 1) → (∃ P1 : Int → Mm → Prop, S_Mod_between (M 8 x1.toNat) 0 9 M P1 ∧ ∀ (r1 : Int) (M1 : Mm), P1 r1 M1 → P r1 M1)) ∧ (¬ ((M 12 1) ≤ (M 11 1)) → ((0 ≤ (12 + x2) ∧ (12 + x2) < 33) ∧ ∀ M2 : Mm, M2 = (upr M 25 (up1 (M 25) 1 (M 34 (12 + x2).toNat))) → (0 ≤ (19 + x2) ∧ (19 + x2) < 33) ∧ ∀ M3 : Mm, M3 = (upr M2 25 (up1 (M2 25) 2 (M2 34 (19 + x2).toNat))) → ∀ M4 : Mm, M4 = (upr M3 25 (up1 (M3 25) 3 (M3 34 1))) → (0 ≤ x1 ∧ x1 < 14) ∧ ∀ M5 : Mm, M5 = (upr M4 25 (up1 (M4 25) 4 (M4 8 x1.toNat))) → (0 ≤ (12 + x1) ∧ (12 + x1) < 33) ∧ ∀ M6 : Mm, M6 = (upr M5 25 (up1 (M5 25) 5 (M5 34 (12 + x1).toNat))) → ∃ P7 : Int → Mm → Prop, S_Mod_worked 1 M6 P7 ∧ ∀ (r2 : Int) (M7 : Mm), P7 r2 M7 → ∃ P8 : Int → Mm → Prop, S_Mod_between r2 0 9 M7 P8 ∧ ∀ (r3 : Int) (M8 : Mm), P8 r3 M8 → P r3 M8)))) ∧ ((M 5 x2.toNat) = 3 → (P 0 M))))) :
    K NM RRM 0 [(0, vr 1), (1, vi x1), (2, vi x2)] [] M := by
  refine r_iloadn h (q := 1) 1 rfl (by decide +kernel : decode cX12_printedBy 0 = .ok (.iload_n 1, 1)) ?_
  obtain ⟨g1, H⟩ := H
  obtain ⟨H1, H2⟩ := H
  refine r_if_lt h 14 g1 (by decide) (by decide +kernel : decode cX12_printedBy 1 = .ok (.ifCond .lt 13, 3)) (fun hc => ?_) (fun hc => ?_)
  · have H := H1 hc
    refine r_iconst h (v := 0) (by decide +kernel : decode cX12_printedBy 14 = .ok (.iconst 0, 1)) ?_
    exact r_iret h rfl (by decide +kernel : decode cX12_printedBy 15 = .ok (.ireturn, 1)) rfl ⟨rfl, _, rfl, H⟩
  · have H := H2 hc
    refine r_aloadn h (q := 0) 0 rfl (by decide +kernel : decode cX12_printedBy 4 = .ok (.aload_n 0, 1)) ?_
    refine r_getR h (r := 5) f_Mod_20 at1M rfl (by decide) (by decide +kernel : decode cX12_printedBy 5 = .ok (.getfield 20, 3)) ?_
    refine r_iloadn h (q := 2) 2 rfl (by decide +kernel : decode cX12_printedBy 8 = .ok (.iload_n 2, 1)) ?_
    obtain ⟨g1, H⟩ := H
    refine r_iald h x2.toNat rfl atM_5 g1 (by decide) (by decide +kernel : decode cX12_printedBy 9 = .ok (.iaload, 1)) ?_
    refine r_iconst h (v := 3) (by decide +kernel : decode cX12_printedBy 10 = .ok (.iconst 3, 1)) ?_
    obtain ⟨g1, H⟩ := H
    obtain ⟨H1, H2⟩ := H
    refine r_icmp_ne h 16 g1 (by decide) (by decide) (by decide +kernel : decode cX12_printedBy 11 = .ok (.if_icmp .ne 5, 3)) (fun hc => ?_) (fun hc => ?_)
    · have H := H1 hc
      refine r_aloadn h (q := 0) 0 rfl (by decide +kernel : decode cX12_printedBy 16 = .ok (.aload_n 0, 1)) ?_
      refine r_getR h (r := 8) f_Mod_29 at1M rfl (by decide) (by decide +kernel : decode cX12_printedBy 17 = .ok (.getfield 29, 3)) ?_
      refine r_iloadn h (q := 1) 1 rfl (by decide +kernel : decode cX12_printedBy 20 = .ok (.iload_n 1, 1)) ?_
      obtain ⟨g1, H⟩ := H
      refine r_iald h x1.toNat rfl atM_8 g1 (by decide) (by decide +kernel : decode cX12_printedBy 21 = .ok (.iaload, 1)) ?_
      refine r_istoren h (q := 3) (L' := [(3, vi (M 8 x1.toNat)), (0, vr 1), (1, vi x1), (2, vi x2)]) (by decide) rfl (by decide +kernel : decode cX12_printedBy 22 = .ok (.istore_n 3, 1)) ?_
      refine r_aloadn h (q := 0) 1 rfl (by decide +kernel : decode cX12_printedBy 23 = .ok (.aload_n 0, 1)) ?_
      refine r_getR h (r := 12) f_Mod_41 at1M rfl (by decide) (by decide +kernel : decode cX12_printedBy 24 = .ok (.getfield 41, 3)) ?_
      refine r_iconst h (v := 1) (by decide +kernel : decode cX12_printedBy 27 = .ok (.iconst 1, 1)) ?_
      refine r_iald h 1 rfl atM_12 (by decide) (by decide) (by decide +kernel : decode cX12_printedBy 28 = .ok (.iaload, 1)) ?_
      refine r_aloadn h (q := 0) 1 rfl (by decide +kernel : decode cX12_printedBy 29 = .ok (.aload_n 0, 1)) ?_
      refine r_getR h (r := 11) f_Mod_38 at1M rfl (by decide) (by decide +kernel : decode cX12_printedBy 30 = .ok (.getfield 38, 3)) ?_
      refine r_iconst h (v := 1) (by decide +kernel : decode cX12_printedBy 33 = .ok (.iconst 1, 1)) ?_
      refine r_iald h 1 rfl atM_11 (by decide) (by decide) (by decide +kernel : decode cX12_printedBy 34 = .ok (.iaload, 1)) ?_
      obtain ⟨g1, g2, H⟩ := H
      obtain ⟨H1, H2⟩ := H
      refine r_icmp_le h 113 g1 g2 (by decide) (by decide +kernel : decode cX12_printedBy 35 = .ok (.if_icmp .le 78, 3)) (fun hc => ?_) (fun hc => ?_)
      · have H := H1 hc
        refine r_iloadn h (q := 3) 0 rfl (by decide +kernel : decode cX12_printedBy 113 = .ok (.iload_n 3, 1)) ?_
        refine r_iconst h (v := 0) (by decide +kernel : decode cX12_printedBy 114 = .ok (.iconst 0, 1)) ?_
        refine r_bipush h (v := 9) (by decide) (by decide +kernel : decode cX12_printedBy 115 = .ok (.bipush 9, 2)) ?_
        obtain ⟨P1, hSP1, H⟩ := H
        refine r_callS h (as := [vi (M 8 x1.toNat), vi 0, vi 9]) (S := []) m_Mod_353 hSP1 (by decide) (Nat.le_refl _) rfl rfl (Nat.le_of_ble_eq_true rfl) (by decide +kernel : decode cX12_printedBy 117 = .ok (.invokestatic 353, 3)) ?_
        rintro _ _ M1 ⟨rfl, r1, rfl, hP⟩
        have H := H r1 M1 hP
        show K NM RRM _ _ [vi r1] _
        exact r_iret h rfl (by decide +kernel : decode cX12_printedBy 120 = .ok (.ireturn, 1)) rfl ⟨rfl, _, rfl, H⟩
      · have H := H2 hc
        refine r_aloadn h (q := 0) 1 rfl (by decide +kernel : decode cX12_printedBy 38 = .ok (.aload_n 0, 1)) ?_
        refine r_getR h (r := 25) f_Mod_81 at1M rfl (by decide) (by decide +kernel : decode cX12_printedBy 39 = .ok (.getfield 81, 3)) ?_
        refine r_iconst h (v := 1) (by decide +kernel : decode cX12_printedBy 42 = .ok (.iconst 1, 1)) ?_
        refine r_aloadn h (q := 0) 1 rfl (by decide +kernel : decode cX12_printedBy 43 = .ok (.aload_n 0, 1)) ?_
        refine r_getR h (r := 34) f_Mod_108 at1M rfl (by decide) (by decide +kernel : decode cX12_printedBy 44 = .ok (.getfield 108, 3)) ?_
        refine r_bipush h (v := 12) (by decide) (by decide +kernel : decode cX12_printedBy 47 = .ok (.bipush 12, 2)) ?_
        refine r_iloadn h (q := 2) 3 rfl (by decide +kernel : decode cX12_printedBy 49 = .ok (.iload_n 2, 1)) ?_
        refine r_iadd h (by decide +kernel : decode cX12_printedBy 50 = .ok (.iadd, 1)) ?_
        obtain ⟨g1, H⟩ := H
        refine r_iald h (12 + x2).toNat rfl atM_34 g1 (by decide) (by decide +kernel : decode cX12_printedBy 51 = .ok (.iaload, 1)) ?_
        refine r_iast h 1 rfl atM_25 (by decide) (by decide) (by decide +kernel : decode cX12_printedBy 52 = .ok (.iastore, 1)) ?_
        have H := H _ rfl
        revert H
        generalize (upr M 25 (up1 (M 25) 1 (M 34 (12 + x2).toNat))) = M2
        intro H
        refine r_aloadn h (q := 0) 1 rfl (by decide +kernel : decode cX12_printedBy 53 = .ok (.aload_n 0, 1)) ?_
        refine r_getR h (r := 25) f_Mod_81 at1M rfl (by decide) (by decide +kernel : decode cX12_printedBy 54 = .ok (.getfield 81, 3)) ?_
        refine r_iconst h (v := 2) (by decide +kernel : decode cX12_printedBy 57 = .ok (.iconst 2, 1)) ?_
        refine r_aloadn h (q := 0) 1 rfl (by decide +kernel : decode cX12_printedBy 58 = .ok (.aload_n 0, 1)) ?_
        refine r_getR h (r := 34) f_Mod_108 at1M rfl (by decide) (by decide +kernel : decode cX12_printedBy 59 = .ok (.getfield 108, 3)) ?_
        refine r_bipush h (v := 19) (by decide) (by decide +kernel : decode cX12_printedBy 62 = .ok (.bipush 19, 2)) ?_
        refine r_iloadn h (q := 2) 3 rfl (by decide +kernel : decode cX12_printedBy 64 = .ok (.iload_n 2, 1)) ?_
        refine r_iadd h (by decide +kernel : decode cX12_printedBy 65 = .ok (.iadd, 1)) ?_
        obtain ⟨g1, H⟩ := H
        refine r_iald h (19 + x2).toNat rfl atM_34 g1 (by decide) (by decide +kernel : decode cX12_printedBy 66 = .ok (.iaload, 1)) ?_
        refine r_iast h 2 rfl atM_25 (by decide) (by decide) (by decide +kernel : decode cX12_printedBy 67 = .ok (.iastore, 1)) ?_
        have H := H _ rfl
        revert H
        generalize (upr M2 25 (up1 (M2 25) 2 (M2 34 (19 + x2).toNat))) = M3
        intro H
        refine r_aloadn h (q := 0) 1 rfl (by decide +kernel : decode cX12_printedBy 68 = .ok (.aload_n 0, 1)) ?_
        refine r_getR h (r := 25) f_Mod_81 at1M rfl (by decide) (by decide +kernel : decode cX12_printedBy 69 = .ok (.getfield 81, 3)) ?_
        refine r_iconst h (v := 3) (by decide +kernel : decode cX12_printedBy 72 = .ok (.iconst 3, 1)) ?_
        refine r_aloadn h (q := 0) 1 rfl (by decide +kernel : decode cX12_printedBy 73 = .ok (.aload_n 0, 1)) ?_
        refine r_getR h (r := 34) f_Mod_108 at1M rfl (by decide) (by decide +kernel : decode cX12_printedBy 74 = .ok (.getfield 108, 3)) ?_
        refine r_iconst h (v := 1) (by decide +kernel : decode cX12_printedBy 77 = .ok (.iconst 1, 1)) ?_
        refine r_iald h 1 rfl atM_34 (by decide) (by decide) (by decide +kernel : decode cX12_printedBy 78 = .ok (.iaload, 1)) ?_
        refine r_iast h 3 rfl atM_25 (by decide) (by decide) (by decide +kernel : decode cX12_printedBy 79 = .ok (.iastore, 1)) ?_
        have H := H _ rfl
        revert H
        generalize (upr M3 25 (up1 (M3 25) 3 (M3 34 1))) = M4
        intro H
        refine r_aloadn h (q := 0) 1 rfl (by decide +kernel : decode cX12_printedBy 80 = .ok (.aload_n 0, 1)) ?_
        refine r_getR h (r := 25) f_Mod_81 at1M rfl (by decide) (by decide +kernel : decode cX12_printedBy 81 = .ok (.getfield 81, 3)) ?_
        refine r_iconst h (v := 4) (by decide +kernel : decode cX12_printedBy 84 = .ok (.iconst 4, 1)) ?_
        refine r_aloadn h (q := 0) 1 rfl (by decide +kernel : decode cX12_printedBy 85 = .ok (.aload_n 0, 1)) ?_
        refine r_getR h (r := 8) f_Mod_29 at1M rfl (by decide) (by decide +kernel : decode cX12_printedBy 86 = .ok (.getfield 29, 3)) ?_
        refine r_iloadn h (q := 1) 2 rfl (by decide +kernel : decode cX12_printedBy 89 = .ok (.iload_n 1, 1)) ?_
        obtain ⟨g1, H⟩ := H
        refine r_iald h x1.toNat rfl atM_8 g1 (by decide) (by decide +kernel : decode cX12_printedBy 90 = .ok (.iaload, 1)) ?_
        refine r_iast h 4 rfl atM_25 (by decide) (by decide) (by decide +kernel : decode cX12_printedBy 91 = .ok (.iastore, 1)) ?_
        have H := H _ rfl
        revert H
        generalize (upr M4 25 (up1 (M4 25) 4 (M4 8 x1.toNat))) = M5
        intro H
        refine r_aloadn h (q := 0) 1 rfl (by decide +kernel : decode cX12_printedBy 92 = .ok (.aload_n 0, 1)) ?_
        refine r_getR h (r := 25) f_Mod_81 at1M rfl (by decide) (by decide +kernel : decode cX12_printedBy 93 = .ok (.getfield 81, 3)) ?_
        refine r_iconst h (v := 5) (by decide +kernel : decode cX12_printedBy 96 = .ok (.iconst 5, 1)) ?_
        refine r_aloadn h (q := 0) 1 rfl (by decide +kernel : decode cX12_printedBy 97 = .ok (.aload_n 0, 1)) ?_
        refine r_getR h (r := 34) f_Mod_108 at1M rfl (by decide) (by decide +kernel : decode cX12_printedBy 98 = .ok (.getfield 108, 3)) ?_
        refine r_bipush h (v := 12) (by decide) (by decide +kernel : decode cX12_printedBy 101 = .ok (.bipush 12, 2)) ?_
        refine r_iloadn h (q := 1) 2 rfl (by decide +kernel : decode cX12_printedBy 103 = .ok (.iload_n 1, 1)) ?_
        refine r_iadd h (by decide +kernel : decode cX12_printedBy 104 = .ok (.iadd, 1)) ?_
        obtain ⟨g1, H⟩ := H
        refine r_iald h (12 + x1).toNat rfl atM_34 g1 (by decide) (by decide +kernel : decode cX12_printedBy 105 = .ok (.iaload, 1)) ?_
        refine r_iast h 5 rfl atM_25 (by decide) (by decide) (by decide +kernel : decode cX12_printedBy 106 = .ok (.iastore, 1)) ?_
        have H := H _ rfl
        revert H
        generalize (upr M5 25 (up1 (M5 25) 5 (M5 34 (12 + x1).toNat))) = M6
        intro H
        refine r_aloadn h (q := 0) 1 rfl (by decide +kernel : decode cX12_printedBy 107 = .ok (.aload_n 0, 1)) ?_
        refine r_iconst h (v := 1) (by decide +kernel : decode cX12_printedBy 108 = .ok (.iconst 1, 1)) ?_
        obtain ⟨P7, hSP7, H⟩ := H
        refine r_callV h (as := [vi 1]) (S := []) (b := 1) m_Mod_350 hSP7 (by decide) (Nat.le_refl _) rfl at1M rfl (Nat.le_of_ble_eq_true rfl) (by decide +kernel : decode cX12_printedBy 109 = .ok (.invokevirtual 350, 3)) ?_
        rintro _ _ M7 ⟨rfl, r2, rfl, hP⟩
        have H := H r2 M7 hP
        show K NM RRM _ _ [vi r2] _
        refine r_istoren h (q := 3) (L' := [(3, vi r2), (0, vr 1), (1, vi x1), (2, vi x2)]) (by decide) rfl (by decide +kernel : decode cX12_printedBy 112 = .ok (.istore_n 3, 1)) ?_
        refine r_iloadn h (q := 3) 0 rfl (by decide +kernel : decode cX12_printedBy 113 = .ok (.iload_n 3, 1)) ?_
        refine r_iconst h (v := 0) (by decide +kernel : decode cX12_printedBy 114 = .ok (.iconst 0, 1)) ?_
        refine r_bipush h (v := 9) (by decide) (by decide +kernel : decode cX12_printedBy 115 = .ok (.bipush 9, 2)) ?_
        obtain ⟨P8, hSP8, H⟩ := H
        refine r_callS h (as := [vi r2, vi 0, vi 9]) (S := []) m_Mod_353 hSP8 (by decide) (Nat.le_refl _) rfl rfl (Nat.le_of_ble_eq_true rfl) (by decide +kernel : decode cX12_printedBy 117 = .ok (.invokestatic 353, 3)) ?_
        rintro _ _ M8 ⟨rfl, r3, rfl, hP⟩
        have H := H r3 M8 hP
        show K NM RRM _ _ [vi r3] _
        exact r_iret h rfl (by decide +kernel : decode cX12_printedBy 120 = .ok (.ireturn, 1)) rfl ⟨rfl, _, rfl, H⟩
    · have H := H2 hc
      refine r_iconst h (v := 0) (by decide +kernel : decode cX12_printedBy 14 = .ok (.iconst 0, 1)) ?_
      exact r_iret h rfl (by decide +kernel : decode cX12_printedBy 15 = .ok (.ireturn, 1)) rfl ⟨rfl, _, rfl, H⟩
theorem W_Mod_printedBy (x1 : Int) (x2 : Int) (M : Mm) {P : Int → Mm → Prop} (H : (rng x1) ∧ (x1 < 0 → (P 0 M)) ∧ (¬ (x1 < 0) → ((0 ≤ x2 ∧ x2 < 14) ∧ (rng (M 5 x2.toNat)) ∧ ((M 5 x2.toNat) ≠ 3 → ((0 ≤ x1 ∧ x1 < 14) ∧ (rng (M 12 1)) ∧ (rng (M 11 1)) ∧ ((M 12 1) ≤ (M 11 1) → (∃ P1 : Int → Mm → Prop, S_Mod_between (M 8 x1.toNat) 0 9 M P1 ∧ ∀ (r1 : Int) (M1 : Mm), P1 r1 M1 → P r1 M1)) ∧ (¬ ((M 12 1) ≤ (M 11 1)) → ((0 ≤ (12 + x2) ∧ (12 + x2) < 33) ∧ ∀ M2 : Mm, M2 = (upr M 25 (up1 (M 25) 1 (M 34 (12 + x2).toNat))) → (0 ≤ (19 + x2) ∧ (19 + x2) < 33) ∧ ∀ M3 : Mm, M3 = (upr M2 25 (up1 (M2 25) 2 (M2 34 (19 + x2).toNat))) → ∀ M4 : Mm, M4 = (upr M3 25 (up1 (M3 25) 3 (M3 34 1))) → (0 ≤ x1 ∧ x1 < 14) ∧ ∀ M5 : Mm, M5 = (upr M4 25 (up1 (M4 25) 4 (M4 8 x1.toNat))) → (0 ≤ (12 + x1) ∧ (12 + x1) < 33) ∧ ∀ M6 : Mm, M6 = (upr M5 25 (up1 (M5 25) 5 (M5 34 (12 + x1).toNat))) → ∃ P7 : Int → Mm → Prop, S_Mod_worked 1 M6 P7 ∧ ∀ (r2 : Int) (M7 : Mm), P7 r2 M7 → ∃ P8 : Int → Mm → Prop, S_Mod_between r2 0 9 M7 P8 ∧ ∀ (r3 : Int) (M8 : Mm), P8 r3 M8 → P r3 M8)))) ∧ ((M 5 x2.toNat) = 3 → (P 0 M))))) : S_Mod_printedBy x1 x2 M P := e_Mod_printedBy x1 x2 M (fun _ h => w_Mod_printedBy_0 h x1 x2 M H)
set_option maxHeartbeats 4000000 in
set_option maxRecDepth 100000 in
theorem w_Mod_shunned_0 {P : Int → Mm → Prop} {K : Nat → Rr → Nat → List (Nat × AV) → List AV → Mm → Prop} (h : EK shM yX12_shunned cX12_shunned 1 (some .int) 4 NM NM (QI RRM P) K)  (M : Mm)
    (H : ∀ M1 : Mm, M1 = (upr M 1 (up1 (M 1) 0 0)) → ∃ P2 : Int → Mm → Prop, S_Mod_shunnedNow  M1 P2 ∧ ∀ (r1 : Int) (M2 : Mm), P2 r1 M2 → P r1 M2) :
    K NM RRM 0 [(0, vr 1)] [] M := by
  refine r_aloadn h (q := 0) 0 rfl (by decide +kernel : decode cX12_shunned 0 = .ok (.aload_n 0, 1)) ?_
  refine r_iconst h (v := 0) (by decide +kernel : decode cX12_shunned 1 = .ok (.iconst 0, 1)) ?_
  refine r_putI h f_Mod_147 at1M rfl rfl (by decide +kernel : decode cX12_shunned 2 = .ok (.putfield 147, 3)) ?_
  have H := H _ rfl
  revert H
  generalize (upr M 1 (up1 (M 1) 0 0)) = M1
  intro H
  refine r_aloadn h (q := 0) 0 rfl (by decide +kernel : decode cX12_shunned 5 = .ok (.aload_n 0, 1)) ?_
  obtain ⟨P2, hSP2, H⟩ := H
  refine r_callV h (as := []) (S := []) (b := 1) m_Mod_409 hSP2 (by decide) (Nat.le_refl _) rfl at1M rfl (Nat.le_of_ble_eq_true rfl) (by decide +kernel : decode cX12_shunned 6 = .ok (.invokevirtual 409, 3)) ?_
  rintro _ _ M2 ⟨rfl, r1, rfl, hP⟩
  have H := H r1 M2 hP
  show K NM RRM _ _ [vi r1] _
  exact r_iret h rfl (by decide +kernel : decode cX12_shunned 9 = .ok (.ireturn, 1)) rfl ⟨rfl, _, rfl, H⟩
theorem W_Mod_shunned  (M : Mm) {P : Int → Mm → Prop} (H : ∀ M1 : Mm, M1 = (upr M 1 (up1 (M 1) 0 0)) → ∃ P2 : Int → Mm → Prop, S_Mod_shunnedNow  M1 P2 ∧ ∀ (r1 : Int) (M2 : Mm), P2 r1 M2 → P r1 M2) : S_Mod_shunned  M P := e_Mod_shunned  M (fun _ h => w_Mod_shunned_0 h  M H)
set_option maxHeartbeats 4000000 in
set_option maxRecDepth 100000 in
theorem w_Mod_readsHouse_0 {P : Int → Mm → Prop} {K : Nat → Rr → Nat → List (Nat × AV) → List AV → Mm → Prop} (h : EK shM yX12_readsHouse cX12_readsHouse 4 (some .boolean) 5 NM NM (QI RRM P) K)  (M : Mm)
    (H : (rng (7 + (M 3 4))) ∧ ((7 + (M 3 4)) ≠ 14 → (∃ P1 : Mm → Prop, S_Mod_nextToken  M P1 ∧ ∀ M1 : Mm, P1 M1 → ∃ P2 : Int → Mm → Prop, S_Mod_isKept  M1 P2 ∧ ∀ (r2 : Int) (M2 : Mm), P2 r2 M2 → (rng r2) ∧ (r2 = 0 → (∃ P3 : Int → Mm → Prop, S_Mod_houseNamed 1 M2 P3 ∧ ∀ (r3 : Int) (M3 : Mm), P3 r3 M3 → (rng r3) ∧ (r3 < 0 → (∃ P4 : Mm → Prop, S_Mod_nextToken  M3 P4 ∧ ∀ M4 : Mm, P4 M4 → ∃ P5 : Int → Mm → Prop, S_Mod_isWord 8740238 M4 P5 ∧ ∀ (r5 : Int) (M5 : Mm), P5 r5 M5 → (rng r5) ∧ (r5 = 0 → (∃ P6 : Int → Mm → Prop, S_Mod_isWord 10502561 M5 P6 ∧ ∀ (r6 : Int) (M6 : Mm), P6 r6 M6 → (rng r6) ∧ (r6 = 0 → (∃ P7 : Int → Mm → Prop, S_Mod_isWord 10256074 M6 P7 ∧ ∀ (r7 : Int) (M7 : Mm), P7 r7 M7 → (rng r7) ∧ (r7 = 0 → (∃ P8 : Int → Mm → Prop, S_Mod_isWord 2234 M7 P8 ∧ ∀ (r8 : Int) (M8 : Mm), P8 r8 M8 → (rng r8) ∧ (r8 = 0 → (K NM RRM 124 [(0, vr 1), (1, vi (7 + (M 3 4))), (2, vl (M3 1 7))] [vi (-1), vi (7 + (M 3 4)), vr 5] M8)) ∧ (r8 ≠ 0 → (K NM RRM 124 [(0, vr 1), (1, vi (7 + (M 3 4))), (2, vl (M3 1 7))] [vi 3, vi (7 + (M 3 4)), vr 5] M8)))) ∧ (r7 ≠ 0 → (K NM RRM 124 [(0, vr 1), (1, vi (7 + (M 3 4))), (2, vl (M3 1 7))] [vi 2, vi (7 + (M 3 4)), vr 5] M7)))) ∧ (r6 ≠ 0 → (K NM RRM 124 [(0, vr 1), (1, vi (7 + (M 3 4))), (2, vl (M3 1 7))] [vi 1, vi (7 + (M 3 4)), vr 5] M6)))) ∧ (r5 ≠ 0 → (K NM RRM 124 [(0, vr 1), (1, vi (7 + (M 3 4))), (2, vl (M3 1 7))] [vi 0, vi (7 + (M 3 4)), vr 5] M5)))) ∧ (¬ (r3 < 0) → (∃ P9 : Int → Mm → Prop, S_Mod_fails 3 M3 P9 ∧ ∀ (r9 : Int) (M9 : Mm), P9 r9 M9 → (r9 = 0 ∨ r9 = 1) ∧ P r9 M9)))) ∧ (r2 ≠ 0 → (∃ P10 : Int → Mm → Prop, S_Mod_fails 1 M2 P10 ∧ ∀ (r10 : Int) (M10 : Mm), P10 r10 M10 → (r10 = 0 ∨ r10 = 1) ∧ P r10 M10)))) ∧ ((7 + (M 3 4)) = 14 → (∃ P11 : Int → Mm → Prop, S_Mod_fails 5 M P11 ∧ ∀ (r11 : Int) (M11 : Mm), P11 r11 M11 → (r11 = 0 ∨ r11 = 1) ∧ P r11 M11))) :
    K NM RRM 0 [(0, vr 1)] [] M := by
  refine r_bipush h (v := 7) (by decide) (by decide +kernel : decode cX12_readsHouse 0 = .ok (.bipush 7, 2)) ?_
  refine r_aloadn h (q := 0) 0 rfl (by decide +kernel : decode cX12_readsHouse 2 = .ok (.aload_n 0, 1)) ?_
  refine r_getR h (r := 3) f_Mod_13 at1M rfl (by decide) (by decide +kernel : decode cX12_readsHouse 3 = .ok (.getfield 13, 3)) ?_
  refine r_iconst h (v := 4) (by decide +kernel : decode cX12_readsHouse 6 = .ok (.iconst 4, 1)) ?_
  refine r_iald h 4 rfl atM_3 (by decide) (by decide) (by decide +kernel : decode cX12_readsHouse 7 = .ok (.iaload, 1)) ?_
  refine r_iadd h (by decide +kernel : decode cX12_readsHouse 8 = .ok (.iadd, 1)) ?_
  refine r_istoren h (q := 1) (L' := [(1, vi (7 + (M 3 4))), (0, vr 1)]) (by decide) rfl (by decide +kernel : decode cX12_readsHouse 9 = .ok (.istore_n 1, 1)) ?_
  refine r_iloadn h (q := 1) 0 rfl (by decide +kernel : decode cX12_readsHouse 10 = .ok (.iload_n 1, 1)) ?_
  refine r_bipush h (v := 14) (by decide) (by decide +kernel : decode cX12_readsHouse 11 = .ok (.bipush 14, 2)) ?_
  obtain ⟨g1, H⟩ := H
  obtain ⟨H1, H2⟩ := H
  refine r_icmp_ne h 22 g1 (by decide) (by decide) (by decide +kernel : decode cX12_readsHouse 13 = .ok (.if_icmp .ne 9, 3)) (fun hc => ?_) (fun hc => ?_)
  · have H := H1 hc
    refine r_aloadn h (q := 0) 1 rfl (by decide +kernel : decode cX12_readsHouse 22 = .ok (.aload_n 0, 1)) ?_
    obtain ⟨P1, hSP1, H⟩ := H
    refine r_callV h (as := []) (S := []) (b := 1) m_Mod_223 hSP1 (by decide) (Nat.le_refl _) rfl at1M rfl (Nat.le_of_ble_eq_true rfl) (by decide +kernel : decode cX12_readsHouse 23 = .ok (.invokevirtual 223, 3)) ?_
    rintro _ _ M1 ⟨rfl, rfl, hP⟩
    have H := H M1 hP
    show K NM RRM _ _ [] _
    refine r_aloadn h (q := 0) 1 rfl (by decide +kernel : decode cX12_readsHouse 26 = .ok (.aload_n 0, 1)) ?_
    obtain ⟨P2, hSP2, H⟩ := H
    refine r_callV h (as := []) (S := []) (b := 1) m_Mod_286 hSP2 (by decide) (Nat.le_refl _) rfl at1M rfl (Nat.le_of_ble_eq_true rfl) (by decide +kernel : decode cX12_readsHouse 27 = .ok (.invokevirtual 286, 3)) ?_
    rintro _ _ M2 ⟨rfl, r2, rfl, hP⟩
    have H := H r2 M2 hP
    show K NM RRM _ _ [vi r2] _
    obtain ⟨g1, H⟩ := H
    obtain ⟨H1, H2⟩ := H
    refine r_if_eq h 39 g1 (by decide) (by decide +kernel : decode cX12_readsHouse 30 = .ok (.ifCond .eq 9, 3)) (fun hc => ?_) (fun hc => ?_)
    · have H := H1 hc
      refine r_aloadn h (q := 0) 1 rfl (by decide +kernel : decode cX12_readsHouse 39 = .ok (.aload_n 0, 1)) ?_
      refine r_iconst h (v := 1) (by decide +kernel : decode cX12_readsHouse 40 = .ok (.iconst 1, 1)) ?_
      obtain ⟨P3, hSP3, H⟩ := H
      refine r_callV h (as := [vi 1]) (S := []) (b := 1) m_Mod_290 hSP3 (by decide) (Nat.le_refl _) rfl at1M rfl (Nat.le_of_ble_eq_true rfl) (by decide +kernel : decode cX12_readsHouse 41 = .ok (.invokevirtual 290, 3)) ?_
      rintro _ _ M3 ⟨rfl, r3, rfl, hP⟩
      have H := H r3 M3 hP
      show K NM RRM _ _ [vi r3] _
      obtain ⟨g1, H⟩ := H
      obtain ⟨H1, H2⟩ := H
      refine r_if_lt h 53 g1 (by decide) (by decide +kernel : decode cX12_readsHouse 44 = .ok (.ifCond .lt 9, 3)) (fun hc => ?_) (fun hc => ?_)
      · have H := H1 hc
        refine r_aloadn h (q := 0) 1 rfl (by decide +kernel : decode cX12_readsHouse 53 = .ok (.aload_n 0, 1)) ?_
        refine r_getL h f_Mod_165 at1M (by decide +kernel : decode cX12_readsHouse 54 = .ok (.getfield 165, 3)) ?_
        refine r_lstoren h (q := 2) (L' := [(2, vl (M3 1 7)), (1, vi (7 + (M 3 4))), (0, vr 1)]) (by decide) rfl (by decide +kernel : decode cX12_readsHouse 57 = .ok (.lstore_n 2, 1)) ?_
        refine r_aloadn h (q := 0) 2 rfl (by decide +kernel : decode cX12_readsHouse 58 = .ok (.aload_n 0, 1)) ?_
        obtain ⟨P4, hSP4, H⟩ := H
        refine r_callV h (as := []) (S := []) (b := 1) m_Mod_223 hSP4 (by decide) (Nat.le_refl _) rfl at1M rfl (Nat.le_of_ble_eq_true rfl) (by decide +kernel : decode cX12_readsHouse 59 = .ok (.invokevirtual 223, 3)) ?_
        rintro _ _ M4 ⟨rfl, rfl, hP⟩
        have H := H M4 hP
        show K NM RRM _ _ [] _
        refine r_aloadn h (q := 0) 2 rfl (by decide +kernel : decode cX12_readsHouse 62 = .ok (.aload_n 0, 1)) ?_
        refine r_getR h (r := 5) f_Mod_20 at1M rfl (by decide) (by decide +kernel : decode cX12_readsHouse 63 = .ok (.getfield 20, 3)) ?_
        refine r_iloadn h (q := 1) 1 rfl (by decide +kernel : decode cX12_readsHouse 66 = .ok (.iload_n 1, 1)) ?_
        refine r_aloadn h (q := 0) 2 rfl (by decide +kernel : decode cX12_readsHouse 67 = .ok (.aload_n 0, 1)) ?_
        refine r_ldc2 h (v := 8740238) kc_Mod_267 (by decide +kernel : decode cX12_readsHouse 68 = .ok (.ldc2_w 267, 3)) ?_
        obtain ⟨P5, hSP5, H⟩ := H
        refine r_callV h (as := [vl 8740238]) (S := [vi (7 + (M 3 4)), vr 5]) (b := 1) m_Mod_208 hSP5 (by decide) (Nat.le_refl _) rfl at1M rfl (Nat.le_of_ble_eq_true rfl) (by decide +kernel : decode cX12_readsHouse 71 = .ok (.invokevirtual 208, 3)) ?_
        rintro _ _ M5 ⟨rfl, r5, rfl, hP⟩
        have H := H r5 M5 hP
        show K NM RRM _ _ [vi r5, vi (7 + (M 3 4)), vr 5] _
        obtain ⟨g1, H⟩ := H
        obtain ⟨H1, H2⟩ := H
        refine r_if_eq h 81 g1 (by decide) (by decide +kernel : decode cX12_readsHouse 74 = .ok (.ifCond .eq 7, 3)) (fun hc => ?_) (fun hc => ?_)
        · have H := H1 hc
          refine r_aloadn h (q := 0) 2 rfl (by decide +kernel : decode cX12_readsHouse 81 = .ok (.aload_n 0, 1)) ?_
          refine r_ldc2 h (v := 10502561) kc_Mod_269 (by decide +kernel : decode cX12_readsHouse 82 = .ok (.ldc2_w 269, 3)) ?_
          obtain ⟨P6, hSP6, H⟩ := H
          refine r_callV h (as := [vl 10502561]) (S := [vi (7 + (M 3 4)), vr 5]) (b := 1) m_Mod_208 hSP6 (by decide) (Nat.le_refl _) rfl at1M rfl (Nat.le_of_ble_eq_true rfl) (by decide +kernel : decode cX12_readsHouse 85 = .ok (.invokevirtual 208, 3)) ?_
          rintro _ _ M6 ⟨rfl, r6, rfl, hP⟩
          have H := H r6 M6 hP
          show K NM RRM _ _ [vi r6, vi (7 + (M 3 4)), vr 5] _
          obtain ⟨g1, H⟩ := H
          obtain ⟨H1, H2⟩ := H
          refine r_if_eq h 95 g1 (by decide) (by decide +kernel : decode cX12_readsHouse 88 = .ok (.ifCond .eq 7, 3)) (fun hc => ?_) (fun hc => ?_)
          · have H := H1 hc
            refine r_aloadn h (q := 0) 2 rfl (by decide +kernel : decode cX12_readsHouse 95 = .ok (.aload_n 0, 1)) ?_
            refine r_ldc2 h (v := 10256074) kc_Mod_271 (by decide +kernel : decode cX12_readsHouse 96 = .ok (.ldc2_w 271, 3)) ?_
            obtain ⟨P7, hSP7, H⟩ := H
            refine r_callV h (as := [vl 10256074]) (S := [vi (7 + (M 3 4)), vr 5]) (b := 1) m_Mod_208 hSP7 (by decide) (Nat.le_refl _) rfl at1M rfl (Nat.le_of_ble_eq_true rfl) (by decide +kernel : decode cX12_readsHouse 99 = .ok (.invokevirtual 208, 3)) ?_
            rintro _ _ M7 ⟨rfl, r7, rfl, hP⟩
            have H := H r7 M7 hP
            show K NM RRM _ _ [vi r7, vi (7 + (M 3 4)), vr 5] _
            obtain ⟨g1, H⟩ := H
            obtain ⟨H1, H2⟩ := H
            refine r_if_eq h 109 g1 (by decide) (by decide +kernel : decode cX12_readsHouse 102 = .ok (.ifCond .eq 7, 3)) (fun hc => ?_) (fun hc => ?_)
            · have H := H1 hc
              refine r_aloadn h (q := 0) 2 rfl (by decide +kernel : decode cX12_readsHouse 109 = .ok (.aload_n 0, 1)) ?_
              refine r_ldc2 h (v := 2234) kc_Mod_273 (by decide +kernel : decode cX12_readsHouse 110 = .ok (.ldc2_w 273, 3)) ?_
              obtain ⟨P8, hSP8, H⟩ := H
              refine r_callV h (as := [vl 2234]) (S := [vi (7 + (M 3 4)), vr 5]) (b := 1) m_Mod_208 hSP8 (by decide) (Nat.le_refl _) rfl at1M rfl (Nat.le_of_ble_eq_true rfl) (by decide +kernel : decode cX12_readsHouse 113 = .ok (.invokevirtual 208, 3)) ?_
              rintro _ _ M8 ⟨rfl, r8, rfl, hP⟩
              have H := H r8 M8 hP
              show K NM RRM _ _ [vi r8, vi (7 + (M 3 4)), vr 5] _
              obtain ⟨g1, H⟩ := H
              obtain ⟨H1, H2⟩ := H
              refine r_if_eq h 123 g1 (by decide) (by decide +kernel : decode cX12_readsHouse 116 = .ok (.ifCond .eq 7, 3)) (fun hc => ?_) (fun hc => ?_)
              · have H := H1 hc
                refine r_iconst h (v := (-1)) (by decide +kernel : decode cX12_readsHouse 123 = .ok (.iconst (-1), 1)) ?_
                refine r_drop h [2, 1, 0] rfl ?_
                exact H
              · have H := H2 hc
                refine r_iconst h (v := 3) (by decide +kernel : decode cX12_readsHouse 119 = .ok (.iconst 3, 1)) ?_
                refine r_goto h 124 (by decide) (by decide +kernel : decode cX12_readsHouse 120 = .ok (.goto 4, 3)) ?_
                refine r_drop h [2, 1, 0] rfl ?_
                exact H
            · have H := H2 hc
              refine r_iconst h (v := 2) (by decide +kernel : decode cX12_readsHouse 105 = .ok (.iconst 2, 1)) ?_
              refine r_goto h 124 (by decide) (by decide +kernel : decode cX12_readsHouse 106 = .ok (.goto 18, 3)) ?_
              refine r_drop h [2, 1, 0] rfl ?_
              exact H
          · have H := H2 hc
            refine r_iconst h (v := 1) (by decide +kernel : decode cX12_readsHouse 91 = .ok (.iconst 1, 1)) ?_
            refine r_goto h 124 (by decide) (by decide +kernel : decode cX12_readsHouse 92 = .ok (.goto 32, 3)) ?_
            refine r_drop h [2, 1, 0] rfl ?_
            exact H
        · have H := H2 hc
          refine r_iconst h (v := 0) (by decide +kernel : decode cX12_readsHouse 77 = .ok (.iconst 0, 1)) ?_
          refine r_goto h 124 (by decide) (by decide +kernel : decode cX12_readsHouse 78 = .ok (.goto 46, 3)) ?_
          refine r_drop h [2, 1, 0] rfl ?_
          exact H
      · have H := H2 hc
        refine r_aloadn h (q := 0) 1 rfl (by decide +kernel : decode cX12_readsHouse 47 = .ok (.aload_n 0, 1)) ?_
        refine r_iconst h (v := 3) (by decide +kernel : decode cX12_readsHouse 48 = .ok (.iconst 3, 1)) ?_
        obtain ⟨P9, hSP9, H⟩ := H
        refine r_callV h (as := [vi 3]) (S := []) (b := 1) m_Mod_216 hSP9 (by decide) (Nat.le_refl _) rfl at1M rfl (Nat.le_of_ble_eq_true rfl) (by decide +kernel : decode cX12_readsHouse 49 = .ok (.invokevirtual 216, 3)) ?_
        rintro _ _ M9 ⟨rfl, r9, rfl, hP⟩
        have H := H r9 M9 hP
        show K NM RRM _ _ [vi r9] _
        exact r_zret h rfl H.1 (by decide +kernel : decode cX12_readsHouse 52 = .ok (.ireturn, 1)) rfl ⟨rfl, _, rfl, H.2⟩
    · have H := H2 hc
      refine r_aloadn h (q := 0) 1 rfl (by decide +kernel : decode cX12_readsHouse 33 = .ok (.aload_n 0, 1)) ?_
      refine r_iconst h (v := 1) (by decide +kernel : decode cX12_readsHouse 34 = .ok (.iconst 1, 1)) ?_
      obtain ⟨P10, hSP10, H⟩ := H
      refine r_callV h (as := [vi 1]) (S := []) (b := 1) m_Mod_216 hSP10 (by decide) (Nat.le_refl _) rfl at1M rfl (Nat.le_of_ble_eq_true rfl) (by decide +kernel : decode cX12_readsHouse 35 = .ok (.invokevirtual 216, 3)) ?_
      rintro _ _ M10 ⟨rfl, r10, rfl, hP⟩
      have H := H r10 M10 hP
      show K NM RRM _ _ [vi r10] _
      exact r_zret h rfl H.1 (by decide +kernel : decode cX12_readsHouse 38 = .ok (.ireturn, 1)) rfl ⟨rfl, _, rfl, H.2⟩
  · have H := H2 hc
    refine r_aloadn h (q := 0) 1 rfl (by decide +kernel : decode cX12_readsHouse 16 = .ok (.aload_n 0, 1)) ?_
    refine r_iconst h (v := 5) (by decide +kernel : decode cX12_readsHouse 17 = .ok (.iconst 5, 1)) ?_
    obtain ⟨P11, hSP11, H⟩ := H
    refine r_callV h (as := [vi 5]) (S := []) (b := 1) m_Mod_216 hSP11 (by decide) (Nat.le_refl _) rfl at1M rfl (Nat.le_of_ble_eq_true rfl) (by decide +kernel : decode cX12_readsHouse 18 = .ok (.invokevirtual 216, 3)) ?_
    rintro _ _ M11 ⟨rfl, r11, rfl, hP⟩
    have H := H r11 M11 hP
    show K NM RRM _ _ [vi r11] _
    exact r_zret h rfl H.1 (by decide +kernel : decode cX12_readsHouse 21 = .ok (.ireturn, 1)) rfl ⟨rfl, _, rfl, H.2⟩
set_option maxHeartbeats 4000000 in
set_option maxRecDepth 100000 in
theorem w_Mod_readsHouse_124 {P : Int → Mm → Prop} {K : Nat → Rr → Nat → List (Nat × AV) → List AV → Mm → Prop} (h : EK shM yX12_readsHouse cX12_readsHouse 4 (some .boolean) 5 NM NM (QI RRM P) K) (x1 : Int) (x2 : Int) (s0 : Int) (s1 : Int) (M : Mm)
    (H : (0 ≤ s1 ∧ s1 < 14) ∧ ∀ M1 : Mm, M1 = (upr M 5 (up1 (M 5) s1.toNat s0)) → (0 ≤ x1 ∧ x1 < 14) ∧ (rng (M1 5 x1.toNat)) ∧ (0 ≤ (M1 5 x1.toNat) → (∃ P2 : Mm → Prop, S_Mod_nextToken  M1 P2 ∧ ∀ M2 : Mm, P2 M2 → ∃ P3 : Int → Mm → Prop, S_Mod_needsBoth 10792937 1 20 M2 P3 ∧ ∀ (r2 : Int) (M3 : Mm), P3 r2 M3 → (rng r2) ∧ (r2 ≠ 0 → ((0 ≤ x1 ∧ x1 < 14) ∧ ∀ M4 : Mm, M4 = (upr M3 6 (up1 (M3 6) x1.toNat (M3 1 36))) → ∃ P5 : Int → Mm → Prop, S_Mod_needsBoth 16922 0 99 M4 P5 ∧ ∀ (r3 : Int) (M5 : Mm), P5 r3 M5 → (rng r3) ∧ (r3 ≠ 0 → ((0 ≤ x1 ∧ x1 < 14) ∧ ∀ M6 : Mm, M6 = (upr M5 7 (up1 (M5 7) x1.toNat (M5 1 36))) → ∃ P7 : Int → Mm → Prop, S_Mod_needsBoth 6950 0 9 M6 P7 ∧ ∀ (r4 : Int) (M7 : Mm), P7 r4 M7 → (rng r4) ∧ (r4 ≠ 0 → ((0 ≤ x1 ∧ x1 < 14) ∧ ∀ M8 : Mm, M8 = (upr M7 8 (up1 (M7 8) x1.toNat (M7 1 36))) → (0 ≤ x1 ∧ x1 < 14) ∧ ∀ M9 : Mm, M9 = (upr M8 9 (up1 (M8 9) x1.toNat 0)) → (0 ≤ x1 ∧ x1 < 14) ∧ ∀ M10 : Mm, M10 = (upr M9 4 (up1 (M9 4) x1.toNat x2)) → ∀ M11 : Mm, M11 = (upr M10 3 (up1 (M10 3) 4 ((M10 3 4) + 1))) → ∃ P12 : Int → Mm → Prop, S_Mod_closes  M11 P12 ∧ ∀ (r5 : Int) (M12 : Mm), P12 r5 M12 → (r5 = 0 ∨ r5 = 1) ∧ P r5 M12)) ∧ (r4 = 0 → (P 0 M7)))) ∧ (r3 = 0 → (P 0 M5)))) ∧ (r2 = 0 → (P 0 M3)))) ∧ (¬ (0 ≤ (M1 5 x1.toNat)) → (∃ P13 : Int → Mm → Prop, S_Mod_fails 1 M1 P13 ∧ ∀ (r6 : Int) (M13 : Mm), P13 r6 M13 → (r6 = 0 ∨ r6 = 1) ∧ P r6 M13))) :
    K NM RRM 124 [(0, vr 1), (1, vi x1), (2, vl x2)] [vi s0, vi s1, vr 5] M := by
  obtain ⟨g1, H⟩ := H
  refine r_iast h s1.toNat rfl atM_5 g1 (by decide) (by decide +kernel : decode cX12_readsHouse 124 = .ok (.iastore, 1)) ?_
  have H := H _ rfl
  revert H
  generalize (upr M 5 (up1 (M 5) s1.toNat s0)) = M1
  intro H
  refine r_aloadn h (q := 0) 0 rfl (by decide +kernel : decode cX12_readsHouse 125 = .ok (.aload_n 0, 1)) ?_
  refine r_getR h (r := 5) f_Mod_20 at1M rfl (by decide) (by decide +kernel : decode cX12_readsHouse 126 = .ok (.getfield 20, 3)) ?_
  refine r_iloadn h (q := 1) 1 rfl (by decide +kernel : decode cX12_readsHouse 129 = .ok (.iload_n 1, 1)) ?_
  obtain ⟨g1, H⟩ := H
  refine r_iald h x1.toNat rfl atM_5 g1 (by decide) (by decide +kernel : decode cX12_readsHouse 130 = .ok (.iaload, 1)) ?_
  obtain ⟨g1, H⟩ := H
  obtain ⟨H1, H2⟩ := H
  refine r_if_ge h 140 g1 (by decide) (by decide +kernel : decode cX12_readsHouse 131 = .ok (.ifCond .ge 9, 3)) (fun hc => ?_) (fun hc => ?_)
  · have H := H1 hc
    refine r_aloadn h (q := 0) 0 rfl (by decide +kernel : decode cX12_readsHouse 140 = .ok (.aload_n 0, 1)) ?_
    obtain ⟨P2, hSP2, H⟩ := H
    refine r_callV h (as := []) (S := []) (b := 1) m_Mod_223 hSP2 (by decide) (Nat.le_refl _) rfl at1M rfl (Nat.le_of_ble_eq_true rfl) (by decide +kernel : decode cX12_readsHouse 141 = .ok (.invokevirtual 223, 3)) ?_
    rintro _ _ M2 ⟨rfl, rfl, hP⟩
    have H := H M2 hP
    show K NM RRM _ _ [] _
    refine r_aloadn h (q := 0) 0 rfl (by decide +kernel : decode cX12_readsHouse 144 = .ok (.aload_n 0, 1)) ?_
    refine r_ldc2 h (v := 10792937) kc_Mod_241 (by decide +kernel : decode cX12_readsHouse 145 = .ok (.ldc2_w 241, 3)) ?_
    refine r_iconst h (v := 1) (by decide +kernel : decode cX12_readsHouse 148 = .ok (.iconst 1, 1)) ?_
    refine r_bipush h (v := 20) (by decide) (by decide +kernel : decode cX12_readsHouse 149 = .ok (.bipush 20, 2)) ?_
    obtain ⟨P3, hSP3, H⟩ := H
    refine r_callV h (as := [vl 10792937, vi 1, vi 20]) (S := []) (b := 1) m_Mod_296 hSP3 (by decide) (Nat.le_refl _) rfl at1M rfl (Nat.le_of_ble_eq_true rfl) (by decide +kernel : decode cX12_readsHouse 151 = .ok (.invokevirtual 296, 3)) ?_
    rintro _ _ M3 ⟨rfl, r2, rfl, hP⟩
    have H := H r2 M3 hP
    show K NM RRM _ _ [vi r2] _
    obtain ⟨g1, H⟩ := H
    obtain ⟨H1, H2⟩ := H
    refine r_if_ne h 159 g1 (by decide) (by decide +kernel : decode cX12_readsHouse 154 = .ok (.ifCond .ne 5, 3)) (fun hc => ?_) (fun hc => ?_)
    · have H := H1 hc
      refine r_aloadn h (q := 0) 0 rfl (by decide +kernel : decode cX12_readsHouse 159 = .ok (.aload_n 0, 1)) ?_
      refine r_getR h (r := 6) f_Mod_23 at1M rfl (by decide) (by decide +kernel : decode cX12_readsHouse 160 = .ok (.getfield 23, 3)) ?_
      refine r_iloadn h (q := 1) 1 rfl (by decide +kernel : decode cX12_readsHouse 163 = .ok (.iload_n 1, 1)) ?_
      refine r_aloadn h (q := 0) 0 rfl (by decide +kernel : decode cX12_readsHouse 164 = .ok (.aload_n 0, 1)) ?_
      refine r_getI h f_Mod_279 at1M (by decide +kernel : decode cX12_readsHouse 165 = .ok (.getfield 279, 3)) ?_
      obtain ⟨g1, H⟩ := H
      refine r_iast h x1.toNat rfl atM_6 g1 (by decide) (by decide +kernel : decode cX12_readsHouse 168 = .ok (.iastore, 1)) ?_
      have H := H _ rfl
      revert H
      generalize (upr M3 6 (up1 (M3 6) x1.toNat (M3 1 36))) = M4
      intro H
      refine r_aloadn h (q := 0) 0 rfl (by decide +kernel : decode cX12_readsHouse 169 = .ok (.aload_n 0, 1)) ?_
      refine r_ldc2 h (v := 16922) kc_Mod_243 (by decide +kernel : decode cX12_readsHouse 170 = .ok (.ldc2_w 243, 3)) ?_
      refine r_iconst h (v := 0) (by decide +kernel : decode cX12_readsHouse 173 = .ok (.iconst 0, 1)) ?_
      refine r_bipush h (v := 99) (by decide) (by decide +kernel : decode cX12_readsHouse 174 = .ok (.bipush 99, 2)) ?_
      obtain ⟨P5, hSP5, H⟩ := H
      refine r_callV h (as := [vl 16922, vi 0, vi 99]) (S := []) (b := 1) m_Mod_296 hSP5 (by decide) (Nat.le_refl _) rfl at1M rfl (Nat.le_of_ble_eq_true rfl) (by decide +kernel : decode cX12_readsHouse 176 = .ok (.invokevirtual 296, 3)) ?_
      rintro _ _ M5 ⟨rfl, r3, rfl, hP⟩
      have H := H r3 M5 hP
      show K NM RRM _ _ [vi r3] _
      obtain ⟨g1, H⟩ := H
      obtain ⟨H1, H2⟩ := H
      refine r_if_ne h 184 g1 (by decide) (by decide +kernel : decode cX12_readsHouse 179 = .ok (.ifCond .ne 5, 3)) (fun hc => ?_) (fun hc => ?_)
      · have H := H1 hc
        refine r_aloadn h (q := 0) 0 rfl (by decide +kernel : decode cX12_readsHouse 184 = .ok (.aload_n 0, 1)) ?_
        refine r_getR h (r := 7) f_Mod_26 at1M rfl (by decide) (by decide +kernel : decode cX12_readsHouse 185 = .ok (.getfield 26, 3)) ?_
        refine r_iloadn h (q := 1) 1 rfl (by decide +kernel : decode cX12_readsHouse 188 = .ok (.iload_n 1, 1)) ?_
        refine r_aloadn h (q := 0) 0 rfl (by decide +kernel : decode cX12_readsHouse 189 = .ok (.aload_n 0, 1)) ?_
        refine r_getI h f_Mod_279 at1M (by decide +kernel : decode cX12_readsHouse 190 = .ok (.getfield 279, 3)) ?_
        obtain ⟨g1, H⟩ := H
        refine r_iast h x1.toNat rfl atM_7 g1 (by decide) (by decide +kernel : decode cX12_readsHouse 193 = .ok (.iastore, 1)) ?_
        have H := H _ rfl
        revert H
        generalize (upr M5 7 (up1 (M5 7) x1.toNat (M5 1 36))) = M6
        intro H
        refine r_aloadn h (q := 0) 0 rfl (by decide +kernel : decode cX12_readsHouse 194 = .ok (.aload_n 0, 1)) ?_
        refine r_ldc2 h (v := 6950) kc_Mod_245 (by decide +kernel : decode cX12_readsHouse 195 = .ok (.ldc2_w 245, 3)) ?_
        refine r_iconst h (v := 0) (by decide +kernel : decode cX12_readsHouse 198 = .ok (.iconst 0, 1)) ?_
        refine r_bipush h (v := 9) (by decide) (by decide +kernel : decode cX12_readsHouse 199 = .ok (.bipush 9, 2)) ?_
        obtain ⟨P7, hSP7, H⟩ := H
        refine r_callV h (as := [vl 6950, vi 0, vi 9]) (S := []) (b := 1) m_Mod_296 hSP7 (by decide) (Nat.le_refl _) rfl at1M rfl (Nat.le_of_ble_eq_true rfl) (by decide +kernel : decode cX12_readsHouse 201 = .ok (.invokevirtual 296, 3)) ?_
        rintro _ _ M7 ⟨rfl, r4, rfl, hP⟩
        have H := H r4 M7 hP
        show K NM RRM _ _ [vi r4] _
        obtain ⟨g1, H⟩ := H
        obtain ⟨H1, H2⟩ := H
        refine r_if_ne h 209 g1 (by decide) (by decide +kernel : decode cX12_readsHouse 204 = .ok (.ifCond .ne 5, 3)) (fun hc => ?_) (fun hc => ?_)
        · have H := H1 hc
          refine r_aloadn h (q := 0) 0 rfl (by decide +kernel : decode cX12_readsHouse 209 = .ok (.aload_n 0, 1)) ?_
          refine r_getR h (r := 8) f_Mod_29 at1M rfl (by decide) (by decide +kernel : decode cX12_readsHouse 210 = .ok (.getfield 29, 3)) ?_
          refine r_iloadn h (q := 1) 1 rfl (by decide +kernel : decode cX12_readsHouse 213 = .ok (.iload_n 1, 1)) ?_
          refine r_aloadn h (q := 0) 0 rfl (by decide +kernel : decode cX12_readsHouse 214 = .ok (.aload_n 0, 1)) ?_
          refine r_getI h f_Mod_279 at1M (by decide +kernel : decode cX12_readsHouse 215 = .ok (.getfield 279, 3)) ?_
          obtain ⟨g1, H⟩ := H
          refine r_iast h x1.toNat rfl atM_8 g1 (by decide) (by decide +kernel : decode cX12_readsHouse 218 = .ok (.iastore, 1)) ?_
          have H := H _ rfl
          revert H
          generalize (upr M7 8 (up1 (M7 8) x1.toNat (M7 1 36))) = M8
          intro H
          refine r_aloadn h (q := 0) 0 rfl (by decide +kernel : decode cX12_readsHouse 219 = .ok (.aload_n 0, 1)) ?_
          refine r_getR h (r := 9) f_Mod_32 at1M rfl (by decide) (by decide +kernel : decode cX12_readsHouse 220 = .ok (.getfield 32, 3)) ?_
          refine r_iloadn h (q := 1) 1 rfl (by decide +kernel : decode cX12_readsHouse 223 = .ok (.iload_n 1, 1)) ?_
          refine r_iconst h (v := 0) (by decide +kernel : decode cX12_readsHouse 224 = .ok (.iconst 0, 1)) ?_
          obtain ⟨g1, H⟩ := H
          refine r_iast h x1.toNat rfl atM_9 g1 (by decide) (by decide +kernel : decode cX12_readsHouse 225 = .ok (.iastore, 1)) ?_
          have H := H _ rfl
          revert H
          generalize (upr M8 9 (up1 (M8 9) x1.toNat 0)) = M9
          intro H
          refine r_aloadn h (q := 0) 0 rfl (by decide +kernel : decode cX12_readsHouse 226 = .ok (.aload_n 0, 1)) ?_
          refine r_getR h (r := 4) f_Mod_16 at1M rfl (by decide) (by decide +kernel : decode cX12_readsHouse 227 = .ok (.getfield 16, 3)) ?_
          refine r_iloadn h (q := 1) 1 rfl (by decide +kernel : decode cX12_readsHouse 230 = .ok (.iload_n 1, 1)) ?_
          refine r_lloadn h (q := 2) 2 rfl (by decide +kernel : decode cX12_readsHouse 231 = .ok (.lload_n 2, 1)) ?_
          obtain ⟨g1, H⟩ := H
          refine r_last h x1.toNat rfl atM_4 g1 (by decide) (by decide +kernel : decode cX12_readsHouse 232 = .ok (.lastore, 1)) ?_
          have H := H _ rfl
          revert H
          generalize (upr M9 4 (up1 (M9 4) x1.toNat x2)) = M10
          intro H
          refine r_aloadn h (q := 0) 0 rfl (by decide +kernel : decode cX12_readsHouse 233 = .ok (.aload_n 0, 1)) ?_
          refine r_getR h (r := 3) f_Mod_13 at1M rfl (by decide) (by decide +kernel : decode cX12_readsHouse 234 = .ok (.getfield 13, 3)) ?_
          refine r_iconst h (v := 4) (by decide +kernel : decode cX12_readsHouse 237 = .ok (.iconst 4, 1)) ?_
          refine r_dup2 h rfl rfl (by decide +kernel : decode cX12_readsHouse 238 = .ok (.dup2, 1)) ?_
          refine r_iald h 4 rfl atM_3 (by decide) (by decide) (by decide +kernel : decode cX12_readsHouse 239 = .ok (.iaload, 1)) ?_
          refine r_iconst h (v := 1) (by decide +kernel : decode cX12_readsHouse 240 = .ok (.iconst 1, 1)) ?_
          refine r_iadd h (by decide +kernel : decode cX12_readsHouse 241 = .ok (.iadd, 1)) ?_
          refine r_iast h 4 rfl atM_3 (by decide) (by decide) (by decide +kernel : decode cX12_readsHouse 242 = .ok (.iastore, 1)) ?_
          have H := H _ rfl
          revert H
          generalize (upr M10 3 (up1 (M10 3) 4 ((M10 3 4) + 1))) = M11
          intro H
          refine r_aloadn h (q := 0) 0 rfl (by decide +kernel : decode cX12_readsHouse 243 = .ok (.aload_n 0, 1)) ?_
          obtain ⟨P12, hSP12, H⟩ := H
          refine r_callV h (as := []) (S := []) (b := 1) m_Mod_300 hSP12 (by decide) (Nat.le_refl _) rfl at1M rfl (Nat.le_of_ble_eq_true rfl) (by decide +kernel : decode cX12_readsHouse 244 = .ok (.invokevirtual 300, 3)) ?_
          rintro _ _ M12 ⟨rfl, r5, rfl, hP⟩
          have H := H r5 M12 hP
          show K NM RRM _ _ [vi r5] _
          exact r_zret h rfl H.1 (by decide +kernel : decode cX12_readsHouse 247 = .ok (.ireturn, 1)) rfl ⟨rfl, _, rfl, H.2⟩
        · have H := H2 hc
          refine r_iconst h (v := 0) (by decide +kernel : decode cX12_readsHouse 207 = .ok (.iconst 0, 1)) ?_
          exact r_zret h rfl (by decide) (by decide +kernel : decode cX12_readsHouse 208 = .ok (.ireturn, 1)) rfl ⟨rfl, _, rfl, H⟩
      · have H := H2 hc
        refine r_iconst h (v := 0) (by decide +kernel : decode cX12_readsHouse 182 = .ok (.iconst 0, 1)) ?_
        exact r_zret h rfl (by decide) (by decide +kernel : decode cX12_readsHouse 183 = .ok (.ireturn, 1)) rfl ⟨rfl, _, rfl, H⟩
    · have H := H2 hc
      refine r_iconst h (v := 0) (by decide +kernel : decode cX12_readsHouse 157 = .ok (.iconst 0, 1)) ?_
      exact r_zret h rfl (by decide) (by decide +kernel : decode cX12_readsHouse 158 = .ok (.ireturn, 1)) rfl ⟨rfl, _, rfl, H⟩
  · have H := H2 hc
    refine r_aloadn h (q := 0) 0 rfl (by decide +kernel : decode cX12_readsHouse 134 = .ok (.aload_n 0, 1)) ?_
    refine r_iconst h (v := 1) (by decide +kernel : decode cX12_readsHouse 135 = .ok (.iconst 1, 1)) ?_
    obtain ⟨P13, hSP13, H⟩ := H
    refine r_callV h (as := [vi 1]) (S := []) (b := 1) m_Mod_216 hSP13 (by decide) (Nat.le_refl _) rfl at1M rfl (Nat.le_of_ble_eq_true rfl) (by decide +kernel : decode cX12_readsHouse 136 = .ok (.invokevirtual 216, 3)) ?_
    rintro _ _ M13 ⟨rfl, r6, rfl, hP⟩
    have H := H r6 M13 hP
    show K NM RRM _ _ [vi r6] _
    exact r_zret h rfl H.1 (by decide +kernel : decode cX12_readsHouse 139 = .ok (.ireturn, 1)) rfl ⟨rfl, _, rfl, H.2⟩
set_option maxHeartbeats 4000000 in
set_option maxRecDepth 100000 in
theorem w_Mod_years_0 {P : Int → Mm → Prop} {K : Nat → Rr → Nat → List (Nat × AV) → List AV → Mm → Prop} (h : EK shM yX12_years cX12_years 1 (some .int) 5 NM NM (QI RRM P) K)  (M : Mm)
    (H : ∀ M1 : Mm, M1 = (upr M 1 (up1 (M 1) 0 0)) → ∀ M2 : Mm, M2 = (upr M1 26 (up1 (M1 26) 5 0)) → ∀ M3 : Mm, M3 = (upr M2 1 (up1 (M2 1) 36 0)) → ∃ P4 : Mm → Prop, S_Mod_begins  M3 P4 ∧ ∀ M4 : Mm, P4 M4 → K NM RRM 21 [(0, vr 1)] [] M4) :
    K NM RRM 0 [(0, vr 1)] [] M := by
  refine r_aloadn h (q := 0) 0 rfl (by decide +kernel : decode cX12_years 0 = .ok (.aload_n 0, 1)) ?_
  refine r_iconst h (v := 0) (by decide +kernel : decode cX12_years 1 = .ok (.iconst 0, 1)) ?_
  refine r_putI h f_Mod_147 at1M rfl rfl (by decide +kernel : decode cX12_years 2 = .ok (.putfield 147, 3)) ?_
  have H := H _ rfl
  revert H
  generalize (upr M 1 (up1 (M 1) 0 0)) = M1
  intro H
  refine r_aloadn h (q := 0) 0 rfl (by decide +kernel : decode cX12_years 5 = .ok (.aload_n 0, 1)) ?_
  refine r_getR h (r := 26) f_Mod_84 at1M rfl (by decide) (by decide +kernel : decode cX12_years 6 = .ok (.getfield 84, 3)) ?_
  refine r_iconst h (v := 5) (by decide +kernel : decode cX12_years 9 = .ok (.iconst 5, 1)) ?_
  refine r_iconst h (v := 0) (by decide +kernel : decode cX12_years 10 = .ok (.iconst 0, 1)) ?_
  refine r_iast h 5 rfl atM_26 (by decide) (by decide) (by decide +kernel : decode cX12_years 11 = .ok (.iastore, 1)) ?_
  have H := H _ rfl
  revert H
  generalize (upr M1 26 (up1 (M1 26) 5 0)) = M2
  intro H
  refine r_aloadn h (q := 0) 0 rfl (by decide +kernel : decode cX12_years 12 = .ok (.aload_n 0, 1)) ?_
  refine r_iconst h (v := 0) (by decide +kernel : decode cX12_years 13 = .ok (.iconst 0, 1)) ?_
  refine r_putI h f_Mod_279 at1M rfl rfl (by decide +kernel : decode cX12_years 14 = .ok (.putfield 279, 3)) ?_
  have H := H _ rfl
  revert H
  generalize (upr M2 1 (up1 (M2 1) 36 0)) = M3
  intro H
  refine r_aloadn h (q := 0) 0 rfl (by decide +kernel : decode cX12_years 17 = .ok (.aload_n 0, 1)) ?_
  obtain ⟨P4, hSP4, H⟩ := H
  refine r_callV h (as := []) (S := []) (b := 1) m_Mod_312 hSP4 (by decide) (Nat.le_refl _) rfl at1M rfl (Nat.le_of_ble_eq_true rfl) (by decide +kernel : decode cX12_years 18 = .ok (.invokevirtual 312, 3)) ?_
  rintro _ _ M4 ⟨rfl, rfl, hP⟩
  have H := H M4 hP
  show K NM RRM _ _ [] _
  exact H
set_option maxHeartbeats 4000000 in
set_option maxRecDepth 100000 in
theorem w_Mod_years_21 {P : Int → Mm → Prop} {K : Nat → Rr → Nat → List (Nat × AV) → List AV → Mm → Prop} (h : EK shM yX12_years cX12_years 1 (some .int) 5 NM NM (QI RRM P) K)  (M : Mm)
    (H : (rng (M 1 6)) ∧ ((M 1 6) = 0 → (∃ P1 : Mm → Prop, S_Mod_laysLines 5 0 M P1 ∧ ∀ M1 : Mm, P1 M1 → P 0 M1)) ∧ ((M 1 6) ≠ 0 → (∃ P2 : Int → Mm → Prop, S_Mod_readsLine  M P2 ∧ ∀ (r2 : Int) (M2 : Mm), P2 r2 M2 → (rng r2) ∧ (r2 ≠ 0 → (K NM RRM 21 [(0, vr 1)] [] M2)) ∧ (r2 = 0 → (P (M2 1 9) M2))))) :
    K NM RRM 21 [(0, vr 1)] [] M := by
  refine r_aloadn h (q := 0) 0 rfl (by decide +kernel : decode cX12_years 21 = .ok (.aload_n 0, 1)) ?_
  refine r_getI h f_Mod_172 at1M (by decide +kernel : decode cX12_years 22 = .ok (.getfield 172, 3)) ?_
  obtain ⟨g1, H⟩ := H
  obtain ⟨H1, H2⟩ := H
  refine r_if_eq h 40 g1 (by decide) (by decide +kernel : decode cX12_years 25 = .ok (.ifCond .eq 15, 3)) (fun hc => ?_) (fun hc => ?_)
  · have H := H1 hc
    refine r_aloadn h (q := 0) 0 rfl (by decide +kernel : decode cX12_years 40 = .ok (.aload_n 0, 1)) ?_
    refine r_iconst h (v := 5) (by decide +kernel : decode cX12_years 41 = .ok (.iconst 5, 1)) ?_
    refine r_iconst h (v := 0) (by decide +kernel : decode cX12_years 42 = .ok (.iconst 0, 1)) ?_
    obtain ⟨P1, hSP1, H⟩ := H
    refine r_callV h (as := [vi 5, vi 0]) (S := []) (b := 1) m_Mod_346 hSP1 (by decide) (Nat.le_refl _) rfl at1M rfl (Nat.le_of_ble_eq_true rfl) (by decide +kernel : decode cX12_years 43 = .ok (.invokevirtual 346, 3)) ?_
    rintro _ _ M1 ⟨rfl, rfl, hP⟩
    have H := H M1 hP
    show K NM RRM _ _ [] _
    refine r_iconst h (v := 0) (by decide +kernel : decode cX12_years 46 = .ok (.iconst 0, 1)) ?_
    exact r_iret h rfl (by decide +kernel : decode cX12_years 47 = .ok (.ireturn, 1)) rfl ⟨rfl, _, rfl, H⟩
  · have H := H2 hc
    refine r_aloadn h (q := 0) 0 rfl (by decide +kernel : decode cX12_years 28 = .ok (.aload_n 0, 1)) ?_
    obtain ⟨P2, hSP2, H⟩ := H
    refine r_callV h (as := []) (S := []) (b := 1) m_Mod_343 hSP2 (by decide) (Nat.le_refl _) rfl at1M rfl (Nat.le_of_ble_eq_true rfl) (by decide +kernel : decode cX12_years 29 = .ok (.invokevirtual 343, 3)) ?_
    rintro _ _ M2 ⟨rfl, r2, rfl, hP⟩
    have H := H r2 M2 hP
    show K NM RRM _ _ [vi r2] _
    obtain ⟨g1, H⟩ := H
    obtain ⟨H1, H2⟩ := H
    refine r_if_ne h 21 g1 (by decide) (by decide +kernel : decode cX12_years 32 = .ok (.ifCond .ne (-11), 3)) (fun hc => ?_) (fun hc => ?_)
    · have H := H1 hc
      exact H
    · have H := H2 hc
      refine r_aloadn h (q := 0) 0 rfl (by decide +kernel : decode cX12_years 35 = .ok (.aload_n 0, 1)) ?_
      refine r_getI h f_Mod_183 at1M (by decide +kernel : decode cX12_years 36 = .ok (.getfield 183, 3)) ?_
      exact r_iret h rfl (by decide +kernel : decode cX12_years 39 = .ok (.ireturn, 1)) rfl ⟨rfl, _, rfl, H⟩
set_option maxHeartbeats 4000000 in
set_option maxRecDepth 100000 in
theorem w_Mod_goesThrough_0 {P : Int → Mm → Prop} {K : Nat → Rr → Nat → List (Nat × AV) → List AV → Mm → Prop} (h : EK shM yX12_goesThrough cX12_goesThrough 5 (some .int) 5 NM NM (QI RRM P) K) (x1 : Int) (x2 : Int) (M : Mm)
    (H : ∃ P1 : Int → Mm → Prop, S_Mod_pressedOf x1 M P1 ∧ ∀ (r1 : Int) (M1 : Mm), P1 r1 M1 → ∃ P2 : Int → Mm → Prop, S_Mod_printedBy x2 x1 M1 P2 ∧ ∀ (r2 : Int) (M2 : Mm), P2 r2 M2 → (0 ≤ (19 + x1) ∧ (19 + x1) < 33) ∧ (0 ≤ (19 + x1) ∧ (19 + x1) < 33) ∧ ∀ M3 : Mm, M3 = (upr M2 34 (up1 (M2 34) (19 + x1).toNat ((M2 34 (19 + x1).toNat) - r1))) → (rng ((M3 34 2) + r1)) ∧ ∀ M4 : Mm, M4 = (upr M3 34 (up1 (M3 34) 2 (min 999 ((M3 34 2) + r1)))) → (0 ≤ (26 + x1) ∧ (26 + x1) < 33) ∧ (rng ((M4 34 (26 + x1).toNat) + r2)) ∧ (0 ≤ (26 + x1) ∧ (26 + x1) < 33) ∧ ∀ M5 : Mm, M5 = (upr M4 34 (up1 (M4 34) (26 + x1).toNat (min 99 ((M4 34 (26 + x1).toNat) + r2)))) → ∀ M6 : Mm, M6 = (upr M5 1 (up1 (M5 1) 51 ((M5 1 51) + r2))) → (0 ≤ x1 ∧ x1 < 14) ∧ (rng (M6 5 x1.toNat)) ∧ ((M6 5 x1.toNat) ≠ 2 → (K NM RRM 113 [(0, vr 1), (1, vi x1), (3, vi r1)] [] M6)) ∧ ((M6 5 x1.toNat) = 2 → ((rng ((M6 34 1) + 1)) ∧ ∀ M7 : Mm, M7 = (upr M6 34 (up1 (M6 34) 1 (min 20 ((M6 34 1) + 1)))) → K NM RRM 113 [(0, vr 1), (1, vi x1), (3, vi r1)] [] M7))) :
    K NM RRM 0 [(0, vr 1), (1, vi x1), (2, vi x2)] [] M := by
  refine r_aloadn h (q := 0) 0 rfl (by decide +kernel : decode cX12_goesThrough 0 = .ok (.aload_n 0, 1)) ?_
  refine r_iloadn h (q := 1) 1 rfl (by decide +kernel : decode cX12_goesThrough 1 = .ok (.iload_n 1, 1)) ?_
  obtain ⟨P1, hSP1, H⟩ := H
  refine r_callV h (as := [vi x1]) (S := []) (b := 1) m_Mod_372 hSP1 (by decide) (Nat.le_refl _) rfl at1M rfl (Nat.le_of_ble_eq_true rfl) (by decide +kernel : decode cX12_goesThrough 2 = .ok (.invokevirtual 372, 3)) ?_
  rintro _ _ M1 ⟨rfl, r1, rfl, hP⟩
  have H := H r1 M1 hP
  show K NM RRM _ _ [vi r1] _
  refine r_istoren h (q := 3) (L' := [(3, vi r1), (0, vr 1), (1, vi x1), (2, vi x2)]) (by decide) rfl (by decide +kernel : decode cX12_goesThrough 5 = .ok (.istore_n 3, 1)) ?_
  refine r_aloadn h (q := 0) 1 rfl (by decide +kernel : decode cX12_goesThrough 6 = .ok (.aload_n 0, 1)) ?_
  refine r_iloadn h (q := 2) 3 rfl (by decide +kernel : decode cX12_goesThrough 7 = .ok (.iload_n 2, 1)) ?_
  refine r_iloadn h (q := 1) 2 rfl (by decide +kernel : decode cX12_goesThrough 8 = .ok (.iload_n 1, 1)) ?_
  obtain ⟨P2, hSP2, H⟩ := H
  refine r_callV h (as := [vi x2, vi x1]) (S := []) (b := 1) m_Mod_375 hSP2 (by decide) (Nat.le_refl _) rfl at1M rfl (Nat.le_of_ble_eq_true rfl) (by decide +kernel : decode cX12_goesThrough 9 = .ok (.invokevirtual 375, 3)) ?_
  rintro _ _ M2 ⟨rfl, r2, rfl, hP⟩
  have H := H r2 M2 hP
  show K NM RRM _ _ [vi r2] _
  refine r_istore h (L' := [(4, vi r2), (3, vi r1), (0, vr 1), (1, vi x1), (2, vi x2)]) (by decide) rfl (by decide +kernel : decode cX12_goesThrough 12 = .ok (.istore 4, 2)) ?_
  refine r_aloadn h (q := 0) 2 rfl (by decide +kernel : decode cX12_goesThrough 14 = .ok (.aload_n 0, 1)) ?_
  refine r_getR h (r := 34) f_Mod_108 at1M rfl (by decide) (by decide +kernel : decode cX12_goesThrough 15 = .ok (.getfield 108, 3)) ?_
  refine r_bipush h (v := 19) (by decide) (by decide +kernel : decode cX12_goesThrough 18 = .ok (.bipush 19, 2)) ?_
  refine r_iloadn h (q := 1) 3 rfl (by decide +kernel : decode cX12_goesThrough 20 = .ok (.iload_n 1, 1)) ?_
  refine r_iadd h (by decide +kernel : decode cX12_goesThrough 21 = .ok (.iadd, 1)) ?_
  refine r_dup2 h rfl rfl (by decide +kernel : decode cX12_goesThrough 22 = .ok (.dup2, 1)) ?_
  obtain ⟨g1, H⟩ := H
  refine r_iald h (19 + x1).toNat rfl atM_34 g1 (by decide) (by decide +kernel : decode cX12_goesThrough 23 = .ok (.iaload, 1)) ?_
  refine r_iloadn h (q := 3) 1 rfl (by decide +kernel : decode cX12_goesThrough 24 = .ok (.iload_n 3, 1)) ?_
  refine r_isub h (by decide +kernel : decode cX12_goesThrough 25 = .ok (.isub, 1)) ?_
  obtain ⟨g1, H⟩ := H
  refine r_iast h (19 + x1).toNat rfl atM_34 g1 (by decide) (by decide +kernel : decode cX12_goesThrough 26 = .ok (.iastore, 1)) ?_
  have H := H _ rfl
  revert H
  generalize (upr M2 34 (up1 (M2 34) (19 + x1).toNat ((M2 34 (19 + x1).toNat) - r1))) = M3
  intro H
  refine r_aloadn h (q := 0) 2 rfl (by decide +kernel : decode cX12_goesThrough 27 = .ok (.aload_n 0, 1)) ?_
  refine r_getR h (r := 34) f_Mod_108 at1M rfl (by decide) (by decide +kernel : decode cX12_goesThrough 28 = .ok (.getfield 108, 3)) ?_
  refine r_iconst h (v := 2) (by decide +kernel : decode cX12_goesThrough 31 = .ok (.iconst 2, 1)) ?_
  refine r_sipush h (v := 999) (by decide) (by decide +kernel : decode cX12_goesThrough 32 = .ok (.sipush 999, 3)) ?_
  refine r_aloadn h (q := 0) 2 rfl (by decide +kernel : decode cX12_goesThrough 35 = .ok (.aload_n 0, 1)) ?_
  refine r_getR h (r := 34) f_Mod_108 at1M rfl (by decide) (by decide +kernel : decode cX12_goesThrough 36 = .ok (.getfield 108, 3)) ?_
  refine r_iconst h (v := 2) (by decide +kernel : decode cX12_goesThrough 39 = .ok (.iconst 2, 1)) ?_
  refine r_iald h 2 rfl atM_34 (by decide) (by decide) (by decide +kernel : decode cX12_goesThrough 40 = .ok (.iaload, 1)) ?_
  refine r_iloadn h (q := 3) 1 rfl (by decide +kernel : decode cX12_goesThrough 41 = .ok (.iload_n 3, 1)) ?_
  refine r_iadd h (by decide +kernel : decode cX12_goesThrough 42 = .ok (.iadd, 1)) ?_
  obtain ⟨g1, H⟩ := H
  refine r_min h (by decide) g1 kM_min_Mod (by decide) (Nat.le_refl _) (Nat.le_of_ble_eq_true rfl) (by decide +kernel : decode cX12_goesThrough 43 = .ok (.invokestatic 357, 3)) ?_
  rw [min_if]
  have gm1 : rng (min 999 ((M3 34 2) + r1)) := min_rng (by decide) g1
  refine r_iast h 2 rfl atM_34 (by decide) (by decide) (by decide +kernel : decode cX12_goesThrough 46 = .ok (.iastore, 1)) ?_
  have H := H _ rfl
  revert H
  generalize (upr M3 34 (up1 (M3 34) 2 (min 999 ((M3 34 2) + r1)))) = M4
  intro H
  refine r_aloadn h (q := 0) 2 rfl (by decide +kernel : decode cX12_goesThrough 47 = .ok (.aload_n 0, 1)) ?_
  refine r_getR h (r := 34) f_Mod_108 at1M rfl (by decide) (by decide +kernel : decode cX12_goesThrough 48 = .ok (.getfield 108, 3)) ?_
  refine r_bipush h (v := 26) (by decide) (by decide +kernel : decode cX12_goesThrough 51 = .ok (.bipush 26, 2)) ?_
  refine r_iloadn h (q := 1) 3 rfl (by decide +kernel : decode cX12_goesThrough 53 = .ok (.iload_n 1, 1)) ?_
  refine r_iadd h (by decide +kernel : decode cX12_goesThrough 54 = .ok (.iadd, 1)) ?_
  refine r_bipush h (v := 99) (by decide) (by decide +kernel : decode cX12_goesThrough 55 = .ok (.bipush 99, 2)) ?_
  refine r_aloadn h (q := 0) 2 rfl (by decide +kernel : decode cX12_goesThrough 57 = .ok (.aload_n 0, 1)) ?_
  refine r_getR h (r := 34) f_Mod_108 at1M rfl (by decide) (by decide +kernel : decode cX12_goesThrough 58 = .ok (.getfield 108, 3)) ?_
  refine r_bipush h (v := 26) (by decide) (by decide +kernel : decode cX12_goesThrough 61 = .ok (.bipush 26, 2)) ?_
  refine r_iloadn h (q := 1) 3 rfl (by decide +kernel : decode cX12_goesThrough 63 = .ok (.iload_n 1, 1)) ?_
  refine r_iadd h (by decide +kernel : decode cX12_goesThrough 64 = .ok (.iadd, 1)) ?_
  obtain ⟨g1, H⟩ := H
  refine r_iald h (26 + x1).toNat rfl atM_34 g1 (by decide) (by decide +kernel : decode cX12_goesThrough 65 = .ok (.iaload, 1)) ?_
  refine r_iload h 0 rfl (by decide +kernel : decode cX12_goesThrough 66 = .ok (.iload 4, 2)) ?_
  refine r_iadd h (by decide +kernel : decode cX12_goesThrough 68 = .ok (.iadd, 1)) ?_
  obtain ⟨g1, H⟩ := H
  refine r_min h (by decide) g1 kM_min_Mod (by decide) (Nat.le_refl _) (Nat.le_of_ble_eq_true rfl) (by decide +kernel : decode cX12_goesThrough 69 = .ok (.invokestatic 357, 3)) ?_
  rw [min_if]
  have gm2 : rng (min 99 ((M4 34 (26 + x1).toNat) + r2)) := min_rng (by decide) g1
  obtain ⟨g1, H⟩ := H
  refine r_iast h (26 + x1).toNat rfl atM_34 g1 (by decide) (by decide +kernel : decode cX12_goesThrough 72 = .ok (.iastore, 1)) ?_
  have H := H _ rfl
  revert H
  generalize (upr M4 34 (up1 (M4 34) (26 + x1).toNat (min 99 ((M4 34 (26 + x1).toNat) + r2)))) = M5
  intro H
  refine r_aloadn h (q := 0) 2 rfl (by decide +kernel : decode cX12_goesThrough 73 = .ok (.aload_n 0, 1)) ?_
  refine r_dup h rfl (by decide +kernel : decode cX12_goesThrough 74 = .ok (.dup, 1)) ?_
  refine r_getI h f_Mod_378 at1M (by decide +kernel : decode cX12_goesThrough 75 = .ok (.getfield 378, 3)) ?_
  refine r_iload h 0 rfl (by decide +kernel : decode cX12_goesThrough 78 = .ok (.iload 4, 2)) ?_
  refine r_iadd h (by decide +kernel : decode cX12_goesThrough 80 = .ok (.iadd, 1)) ?_
  refine r_putI h f_Mod_378 at1M rfl rfl (by decide +kernel : decode cX12_goesThrough 81 = .ok (.putfield 378, 3)) ?_
  have H := H _ rfl
  revert H
  generalize (upr M5 1 (up1 (M5 1) 51 ((M5 1 51) + r2))) = M6
  intro H
  refine r_aloadn h (q := 0) 2 rfl (by decide +kernel : decode cX12_goesThrough 84 = .ok (.aload_n 0, 1)) ?_
  refine r_getR h (r := 5) f_Mod_20 at1M rfl (by decide) (by decide +kernel : decode cX12_goesThrough 85 = .ok (.getfield 20, 3)) ?_
  refine r_iloadn h (q := 1) 3 rfl (by decide +kernel : decode cX12_goesThrough 88 = .ok (.iload_n 1, 1)) ?_
  obtain ⟨g1, H⟩ := H
  refine r_iald h x1.toNat rfl atM_5 g1 (by decide) (by decide +kernel : decode cX12_goesThrough 89 = .ok (.iaload, 1)) ?_
  refine r_iconst h (v := 2) (by decide +kernel : decode cX12_goesThrough 90 = .ok (.iconst 2, 1)) ?_
  obtain ⟨g1, H⟩ := H
  obtain ⟨H1, H2⟩ := H
  refine r_icmp_ne h 113 g1 (by decide) (by decide) (by decide +kernel : decode cX12_goesThrough 91 = .ok (.if_icmp .ne 22, 3)) (fun hc => ?_) (fun hc => ?_)
  · have H := H1 hc
    refine r_drop h [2, 3, 1] rfl ?_
    exact H
  · have H := H2 hc
    refine r_aloadn h (q := 0) 2 rfl (by decide +kernel : decode cX12_goesThrough 94 = .ok (.aload_n 0, 1)) ?_
    refine r_getR h (r := 34) f_Mod_108 at1M rfl (by decide) (by decide +kernel : decode cX12_goesThrough 95 = .ok (.getfield 108, 3)) ?_
    refine r_iconst h (v := 1) (by decide +kernel : decode cX12_goesThrough 98 = .ok (.iconst 1, 1)) ?_
    refine r_bipush h (v := 20) (by decide) (by decide +kernel : decode cX12_goesThrough 99 = .ok (.bipush 20, 2)) ?_
    refine r_aloadn h (q := 0) 2 rfl (by decide +kernel : decode cX12_goesThrough 101 = .ok (.aload_n 0, 1)) ?_
    refine r_getR h (r := 34) f_Mod_108 at1M rfl (by decide) (by decide +kernel : decode cX12_goesThrough 102 = .ok (.getfield 108, 3)) ?_
    refine r_iconst h (v := 1) (by decide +kernel : decode cX12_goesThrough 105 = .ok (.iconst 1, 1)) ?_
    refine r_iald h 1 rfl atM_34 (by decide) (by decide) (by decide +kernel : decode cX12_goesThrough 106 = .ok (.iaload, 1)) ?_
    refine r_iconst h (v := 1) (by decide +kernel : decode cX12_goesThrough 107 = .ok (.iconst 1, 1)) ?_
    refine r_iadd h (by decide +kernel : decode cX12_goesThrough 108 = .ok (.iadd, 1)) ?_
    obtain ⟨g1, H⟩ := H
    refine r_min h (by decide) g1 kM_min_Mod (by decide) (Nat.le_refl _) (Nat.le_of_ble_eq_true rfl) (by decide +kernel : decode cX12_goesThrough 109 = .ok (.invokestatic 357, 3)) ?_
    rw [min_if]
    have gm3 : rng (min 20 ((M6 34 1) + 1)) := min_rng (by decide) g1
    refine r_iast h 1 rfl atM_34 (by decide) (by decide) (by decide +kernel : decode cX12_goesThrough 112 = .ok (.iastore, 1)) ?_
    have H := H _ rfl
    revert H
    generalize (upr M6 34 (up1 (M6 34) 1 (min 20 ((M6 34 1) + 1)))) = M7
    intro H
    refine r_drop h [2, 3, 1] rfl ?_
    exact H
set_option maxHeartbeats 4000000 in
set_option maxRecDepth 100000 in
theorem w_Mod_goesThrough_113 {P : Int → Mm → Prop} {K : Nat → Rr → Nat → List (Nat × AV) → List AV → Mm → Prop} (h : EK shM yX12_goesThrough cX12_goesThrough 5 (some .int) 5 NM NM (QI RRM P) K) (x1 : Int) (x3 : Int) (M : Mm)
    (H : (0 ≤ x1 ∧ x1 < 14) ∧ (rng (M 5 x1.toNat)) ∧ ((M 5 x1.toNat) ≠ 1 → (P x3 M)) ∧ ((M 5 x1.toNat) = 1 → ((0 ≤ (12 + x1) ∧ (12 + x1) < 33) ∧ (rng (M 34 (12 + x1).toNat)) ∧ (rng (M 34 1)) ∧ ((M 34 (12 + x1).toNat) ≤ (M 34 1) → (P x3 M)) ∧ (¬ ((M 34 (12 + x1).toNat) ≤ (M 34 1)) → ((0 ≤ (12 + x1) ∧ (12 + x1) < 33) ∧ (0 ≤ (12 + x1) ∧ (12 + x1) < 33) ∧ ∀ M1 : Mm, M1 = (upr M 34 (up1 (M 34) (12 + x1).toNat ((M 34 (12 + x1).toNat) - 1))) → P x3 M1))))) :
    K NM RRM 113 [(0, vr 1), (1, vi x1), (3, vi x3)] [] M := by
  refine r_aloadn h (q := 0) 0 rfl (by decide +kernel : decode cX12_goesThrough 113 = .ok (.aload_n 0, 1)) ?_
  refine r_getR h (r := 5) f_Mod_20 at1M rfl (by decide) (by decide +kernel : decode cX12_goesThrough 114 = .ok (.getfield 20, 3)) ?_
  refine r_iloadn h (q := 1) 1 rfl (by decide +kernel : decode cX12_goesThrough 117 = .ok (.iload_n 1, 1)) ?_
  obtain ⟨g1, H⟩ := H
  refine r_iald h x1.toNat rfl atM_5 g1 (by decide) (by decide +kernel : decode cX12_goesThrough 118 = .ok (.iaload, 1)) ?_
  refine r_iconst h (v := 1) (by decide +kernel : decode cX12_goesThrough 119 = .ok (.iconst 1, 1)) ?_
  obtain ⟨g1, H⟩ := H
  obtain ⟨H1, H2⟩ := H
  refine r_icmp_ne h 154 g1 (by decide) (by decide) (by decide +kernel : decode cX12_goesThrough 120 = .ok (.if_icmp .ne 34, 3)) (fun hc => ?_) (fun hc => ?_)
  · have H := H1 hc
    refine r_iloadn h (q := 3) 2 rfl (by decide +kernel : decode cX12_goesThrough 154 = .ok (.iload_n 3, 1)) ?_
    exact r_iret h rfl (by decide +kernel : decode cX12_goesThrough 155 = .ok (.ireturn, 1)) rfl ⟨rfl, _, rfl, H⟩
  · have H := H2 hc
    refine r_aloadn h (q := 0) 0 rfl (by decide +kernel : decode cX12_goesThrough 123 = .ok (.aload_n 0, 1)) ?_
    refine r_getR h (r := 34) f_Mod_108 at1M rfl (by decide) (by decide +kernel : decode cX12_goesThrough 124 = .ok (.getfield 108, 3)) ?_
    refine r_bipush h (v := 12) (by decide) (by decide +kernel : decode cX12_goesThrough 127 = .ok (.bipush 12, 2)) ?_
    refine r_iloadn h (q := 1) 1 rfl (by decide +kernel : decode cX12_goesThrough 129 = .ok (.iload_n 1, 1)) ?_
    refine r_iadd h (by decide +kernel : decode cX12_goesThrough 130 = .ok (.iadd, 1)) ?_
    obtain ⟨g1, H⟩ := H
    refine r_iald h (12 + x1).toNat rfl atM_34 g1 (by decide) (by decide +kernel : decode cX12_goesThrough 131 = .ok (.iaload, 1)) ?_
    refine r_aloadn h (q := 0) 0 rfl (by decide +kernel : decode cX12_goesThrough 132 = .ok (.aload_n 0, 1)) ?_
    refine r_getR h (r := 34) f_Mod_108 at1M rfl (by decide) (by decide +kernel : decode cX12_goesThrough 133 = .ok (.getfield 108, 3)) ?_
    refine r_iconst h (v := 1) (by decide +kernel : decode cX12_goesThrough 136 = .ok (.iconst 1, 1)) ?_
    refine r_iald h 1 rfl atM_34 (by decide) (by decide) (by decide +kernel : decode cX12_goesThrough 137 = .ok (.iaload, 1)) ?_
    obtain ⟨g1, g2, H⟩ := H
    obtain ⟨H1, H2⟩ := H
    refine r_icmp_le h 154 g1 g2 (by decide) (by decide +kernel : decode cX12_goesThrough 138 = .ok (.if_icmp .le 16, 3)) (fun hc => ?_) (fun hc => ?_)
    · have H := H1 hc
      refine r_iloadn h (q := 3) 2 rfl (by decide +kernel : decode cX12_goesThrough 154 = .ok (.iload_n 3, 1)) ?_
      exact r_iret h rfl (by decide +kernel : decode cX12_goesThrough 155 = .ok (.ireturn, 1)) rfl ⟨rfl, _, rfl, H⟩
    · have H := H2 hc
      refine r_aloadn h (q := 0) 0 rfl (by decide +kernel : decode cX12_goesThrough 141 = .ok (.aload_n 0, 1)) ?_
      refine r_getR h (r := 34) f_Mod_108 at1M rfl (by decide) (by decide +kernel : decode cX12_goesThrough 142 = .ok (.getfield 108, 3)) ?_
      refine r_bipush h (v := 12) (by decide) (by decide +kernel : decode cX12_goesThrough 145 = .ok (.bipush 12, 2)) ?_
      refine r_iloadn h (q := 1) 1 rfl (by decide +kernel : decode cX12_goesThrough 147 = .ok (.iload_n 1, 1)) ?_
      refine r_iadd h (by decide +kernel : decode cX12_goesThrough 148 = .ok (.iadd, 1)) ?_
      refine r_dup2 h rfl rfl (by decide +kernel : decode cX12_goesThrough 149 = .ok (.dup2, 1)) ?_
      obtain ⟨g1, H⟩ := H
      refine r_iald h (12 + x1).toNat rfl atM_34 g1 (by decide) (by decide +kernel : decode cX12_goesThrough 150 = .ok (.iaload, 1)) ?_
      refine r_iconst h (v := 1) (by decide +kernel : decode cX12_goesThrough 151 = .ok (.iconst 1, 1)) ?_
      refine r_isub h (by decide +kernel : decode cX12_goesThrough 152 = .ok (.isub, 1)) ?_
      obtain ⟨g1, H⟩ := H
      refine r_iast h (12 + x1).toNat rfl atM_34 g1 (by decide) (by decide +kernel : decode cX12_goesThrough 153 = .ok (.iastore, 1)) ?_
      have H := H _ rfl
      revert H
      generalize (upr M 34 (up1 (M 34) (12 + x1).toNat ((M 34 (12 + x1).toNat) - 1))) = M1
      intro H
      refine r_iloadn h (q := 3) 2 rfl (by decide +kernel : decode cX12_goesThrough 154 = .ok (.iload_n 3, 1)) ?_
      exact r_iret h rfl (by decide +kernel : decode cX12_goesThrough 155 = .ok (.ireturn, 1)) rfl ⟨rfl, _, rfl, H⟩
set_option maxHeartbeats 4000000 in
set_option maxRecDepth 100000 in
theorem w_Mod_pressed_0 {P : Int → Mm → Prop} {K : Nat → Rr → Nat → List (Nat × AV) → List AV → Mm → Prop} (h : EK shM yX12_pressed cX12_pressed 2 (some .int) 5 NM NM (QI RRM P) K) (x1 : Int) (M : Mm)
    (H : ∀ M1 : Mm, M1 = (upr M 1 (up1 (M 1) 0 0)) → ∃ P2 : Int → Mm → Prop, S_Mod_isHouse x1 M1 P2 ∧ ∀ (r1 : Int) (M2 : Mm), P2 r1 M2 → (rng r1) ∧ (r1 = 0 → (P (-1) M2)) ∧ (r1 ≠ 0 → (∃ P3 : Int → Mm → Prop, S_Mod_pressedOf x1 M2 P3 ∧ ∀ (r2 : Int) (M3 : Mm), P3 r2 M3 → P r2 M3))) :
    K NM RRM 0 [(0, vr 1), (1, vi x1)] [] M := by
  refine r_aloadn h (q := 0) 0 rfl (by decide +kernel : decode cX12_pressed 0 = .ok (.aload_n 0, 1)) ?_
  refine r_iconst h (v := 0) (by decide +kernel : decode cX12_pressed 1 = .ok (.iconst 0, 1)) ?_
  refine r_putI h f_Mod_147 at1M rfl rfl (by decide +kernel : decode cX12_pressed 2 = .ok (.putfield 147, 3)) ?_
  have H := H _ rfl
  revert H
  generalize (upr M 1 (up1 (M 1) 0 0)) = M1
  intro H
  refine r_aloadn h (q := 0) 0 rfl (by decide +kernel : decode cX12_pressed 5 = .ok (.aload_n 0, 1)) ?_
  refine r_iloadn h (q := 1) 1 rfl (by decide +kernel : decode cX12_pressed 6 = .ok (.iload_n 1, 1)) ?_
  obtain ⟨P2, hSP2, H⟩ := H
  refine r_callV h (as := [vi x1]) (S := []) (b := 1) m_Mod_390 hSP2 (by decide) (Nat.le_refl _) rfl at1M rfl (Nat.le_of_ble_eq_true rfl) (by decide +kernel : decode cX12_pressed 7 = .ok (.invokevirtual 390, 3)) ?_
  rintro _ _ M2 ⟨rfl, r1, rfl, hP⟩
  have H := H r1 M2 hP
  show K NM RRM _ _ [vi r1] _
  obtain ⟨g1, H⟩ := H
  obtain ⟨H1, H2⟩ := H
  refine r_if_eq h 21 g1 (by decide) (by decide +kernel : decode cX12_pressed 10 = .ok (.ifCond .eq 11, 3)) (fun hc => ?_) (fun hc => ?_)
  · have H := H1 hc
    refine r_iconst h (v := (-1)) (by decide +kernel : decode cX12_pressed 21 = .ok (.iconst (-1), 1)) ?_
    exact r_iret h rfl (by decide +kernel : decode cX12_pressed 22 = .ok (.ireturn, 1)) rfl ⟨rfl, _, rfl, H⟩
  · have H := H2 hc
    refine r_aloadn h (q := 0) 0 rfl (by decide +kernel : decode cX12_pressed 13 = .ok (.aload_n 0, 1)) ?_
    refine r_iloadn h (q := 1) 1 rfl (by decide +kernel : decode cX12_pressed 14 = .ok (.iload_n 1, 1)) ?_
    obtain ⟨P3, hSP3, H⟩ := H
    refine r_callV h (as := [vi x1]) (S := []) (b := 1) m_Mod_372 hSP3 (by decide) (Nat.le_refl _) rfl at1M rfl (Nat.le_of_ble_eq_true rfl) (by decide +kernel : decode cX12_pressed 15 = .ok (.invokevirtual 372, 3)) ?_
    rintro _ _ M3 ⟨rfl, r2, rfl, hP⟩
    have H := H r2 M3 hP
    show K NM RRM _ _ [vi r2] _
    refine r_goto h 22 (by decide) (by decide +kernel : decode cX12_pressed 18 = .ok (.goto 4, 3)) ?_
    exact r_iret h rfl (by decide +kernel : decode cX12_pressed 22 = .ok (.ireturn, 1)) rfl ⟨rfl, _, rfl, H⟩
theorem W_Mod_pressed (x1 : Int) (M : Mm) {P : Int → Mm → Prop} (H : ∀ M1 : Mm, M1 = (upr M 1 (up1 (M 1) 0 0)) → ∃ P2 : Int → Mm → Prop, S_Mod_isHouse x1 M1 P2 ∧ ∀ (r1 : Int) (M2 : Mm), P2 r1 M2 → (rng r1) ∧ (r1 = 0 → (P (-1) M2)) ∧ (r1 ≠ 0 → (∃ P3 : Int → Mm → Prop, S_Mod_pressedOf x1 M2 P3 ∧ ∀ (r2 : Int) (M3 : Mm), P3 r2 M3 → P r2 M3))) : S_Mod_pressed x1 M P := e_Mod_pressed x1 M (fun _ h => w_Mod_pressed_0 h x1 M H)
set_option maxHeartbeats 4000000 in
set_option maxRecDepth 100000 in
theorem w_Mod_blot_0 {P : Int → Mm → Prop} {K : Nat → Rr → Nat → List (Nat × AV) → List AV → Mm → Prop} (h : EK shM yX12_blot cX12_blot 3 (some .int) 5 NM NM (QI RRM P) K) (x1 : Int) (x2 : Int) (M : Mm)
    (H : ∀ M1 : Mm, M1 = (upr M 1 (up1 (M 1) 0 0)) → ∃ P2 : Int → Mm → Prop, S_Mod_isHouse x1 M1 P2 ∧ ∀ (r1 : Int) (M2 : Mm), P2 r1 M2 → (rng r1) ∧ (r1 = 0 → (P (-1) M2)) ∧ (r1 ≠ 0 → (∃ P3 : Int → Mm → Prop, S_Mod_isHouse x2 M2 P3 ∧ ∀ (r2 : Int) (M3 : Mm), P3 r2 M3 → (rng r2) ∧ (r2 = 0 → (P (-1) M3)) ∧ (r2 ≠ 0 → ((rng x1) ∧ (rng x2) ∧ (x1 = x2 → (P (-1) M3)) ∧ (x1 ≠ x2 → ((0 ≤ x1 ∧ x1 < 14) ∧ (rng (M3 5 x1.toNat)) ∧ ((M3 5 x1.toNat) = 3 → (P (-1) M3)) ∧ ((M3 5 x1.toNat) ≠ 3 → (∃ P4 : Int → Mm → Prop, S_Mod_printedBy x1 x2 M3 P4 ∧ ∀ (r3 : Int) (M4 : Mm), P4 r3 M4 → P r3 M4))))))))) :
    K NM RRM 0 [(0, vr 1), (1, vi x1), (2, vi x2)] [] M := by
  refine r_aloadn h (q := 0) 0 rfl (by decide +kernel : decode cX12_blot 0 = .ok (.aload_n 0, 1)) ?_
  refine r_iconst h (v := 0) (by decide +kernel : decode cX12_blot 1 = .ok (.iconst 0, 1)) ?_
  refine r_putI h f_Mod_147 at1M rfl rfl (by decide +kernel : decode cX12_blot 2 = .ok (.putfield 147, 3)) ?_
  have H := H _ rfl
  revert H
  generalize (upr M 1 (up1 (M 1) 0 0)) = M1
  intro H
  refine r_aloadn h (q := 0) 0 rfl (by decide +kernel : decode cX12_blot 5 = .ok (.aload_n 0, 1)) ?_
  refine r_iloadn h (q := 1) 1 rfl (by decide +kernel : decode cX12_blot 6 = .ok (.iload_n 1, 1)) ?_
  obtain ⟨P2, hSP2, H⟩ := H
  refine r_callV h (as := [vi x1]) (S := []) (b := 1) m_Mod_390 hSP2 (by decide) (Nat.le_refl _) rfl at1M rfl (Nat.le_of_ble_eq_true rfl) (by decide +kernel : decode cX12_blot 7 = .ok (.invokevirtual 390, 3)) ?_
  rintro _ _ M2 ⟨rfl, r1, rfl, hP⟩
  have H := H r1 M2 hP
  show K NM RRM _ _ [vi r1] _
  obtain ⟨g1, H⟩ := H
  obtain ⟨H1, H2⟩ := H
  refine r_if_eq h 45 g1 (by decide) (by decide +kernel : decode cX12_blot 10 = .ok (.ifCond .eq 35, 3)) (fun hc => ?_) (fun hc => ?_)
  · have H := H1 hc
    refine r_iconst h (v := (-1)) (by decide +kernel : decode cX12_blot 45 = .ok (.iconst (-1), 1)) ?_
    exact r_iret h rfl (by decide +kernel : decode cX12_blot 46 = .ok (.ireturn, 1)) rfl ⟨rfl, _, rfl, H⟩
  · have H := H2 hc
    refine r_aloadn h (q := 0) 0 rfl (by decide +kernel : decode cX12_blot 13 = .ok (.aload_n 0, 1)) ?_
    refine r_iloadn h (q := 2) 2 rfl (by decide +kernel : decode cX12_blot 14 = .ok (.iload_n 2, 1)) ?_
    obtain ⟨P3, hSP3, H⟩ := H
    refine r_callV h (as := [vi x2]) (S := []) (b := 1) m_Mod_390 hSP3 (by decide) (Nat.le_refl _) rfl at1M rfl (Nat.le_of_ble_eq_true rfl) (by decide +kernel : decode cX12_blot 15 = .ok (.invokevirtual 390, 3)) ?_
    rintro _ _ M3 ⟨rfl, r2, rfl, hP⟩
    have H := H r2 M3 hP
    show K NM RRM _ _ [vi r2] _
    obtain ⟨g1, H⟩ := H
    obtain ⟨H1, H2⟩ := H
    refine r_if_eq h 45 g1 (by decide) (by decide +kernel : decode cX12_blot 18 = .ok (.ifCond .eq 27, 3)) (fun hc => ?_) (fun hc => ?_)
    · have H := H1 hc
      refine r_iconst h (v := (-1)) (by decide +kernel : decode cX12_blot 45 = .ok (.iconst (-1), 1)) ?_
      exact r_iret h rfl (by decide +kernel : decode cX12_blot 46 = .ok (.ireturn, 1)) rfl ⟨rfl, _, rfl, H⟩
    · have H := H2 hc
      refine r_iloadn h (q := 1) 1 rfl (by decide +kernel : decode cX12_blot 21 = .ok (.iload_n 1, 1)) ?_
      refine r_iloadn h (q := 2) 2 rfl (by decide +kernel : decode cX12_blot 22 = .ok (.iload_n 2, 1)) ?_
      obtain ⟨g1, g2, H⟩ := H
      obtain ⟨H1, H2⟩ := H
      refine r_icmp_eq h 45 g1 g2 (by decide) (by decide +kernel : decode cX12_blot 23 = .ok (.if_icmp .eq 22, 3)) (fun hc => ?_) (fun hc => ?_)
      · have H := H1 hc
        refine r_iconst h (v := (-1)) (by decide +kernel : decode cX12_blot 45 = .ok (.iconst (-1), 1)) ?_
        exact r_iret h rfl (by decide +kernel : decode cX12_blot 46 = .ok (.ireturn, 1)) rfl ⟨rfl, _, rfl, H⟩
      · have H := H2 hc
        refine r_aloadn h (q := 0) 0 rfl (by decide +kernel : decode cX12_blot 26 = .ok (.aload_n 0, 1)) ?_
        refine r_getR h (r := 5) f_Mod_20 at1M rfl (by decide) (by decide +kernel : decode cX12_blot 27 = .ok (.getfield 20, 3)) ?_
        refine r_iloadn h (q := 1) 1 rfl (by decide +kernel : decode cX12_blot 30 = .ok (.iload_n 1, 1)) ?_
        obtain ⟨g1, H⟩ := H
        refine r_iald h x1.toNat rfl atM_5 g1 (by decide) (by decide +kernel : decode cX12_blot 31 = .ok (.iaload, 1)) ?_
        refine r_iconst h (v := 3) (by decide +kernel : decode cX12_blot 32 = .ok (.iconst 3, 1)) ?_
        obtain ⟨g1, H⟩ := H
        obtain ⟨H1, H2⟩ := H
        refine r_icmp_eq h 45 g1 (by decide) (by decide) (by decide +kernel : decode cX12_blot 33 = .ok (.if_icmp .eq 12, 3)) (fun hc => ?_) (fun hc => ?_)
        · have H := H1 hc
          refine r_iconst h (v := (-1)) (by decide +kernel : decode cX12_blot 45 = .ok (.iconst (-1), 1)) ?_
          exact r_iret h rfl (by decide +kernel : decode cX12_blot 46 = .ok (.ireturn, 1)) rfl ⟨rfl, _, rfl, H⟩
        · have H := H2 hc
          refine r_aloadn h (q := 0) 0 rfl (by decide +kernel : decode cX12_blot 36 = .ok (.aload_n 0, 1)) ?_
          refine r_iloadn h (q := 1) 1 rfl (by decide +kernel : decode cX12_blot 37 = .ok (.iload_n 1, 1)) ?_
          refine r_iloadn h (q := 2) 2 rfl (by decide +kernel : decode cX12_blot 38 = .ok (.iload_n 2, 1)) ?_
          obtain ⟨P4, hSP4, H⟩ := H
          refine r_callV h (as := [vi x1, vi x2]) (S := []) (b := 1) m_Mod_375 hSP4 (by decide) (Nat.le_refl _) rfl at1M rfl (Nat.le_of_ble_eq_true rfl) (by decide +kernel : decode cX12_blot 39 = .ok (.invokevirtual 375, 3)) ?_
          rintro _ _ M4 ⟨rfl, r3, rfl, hP⟩
          have H := H r3 M4 hP
          show K NM RRM _ _ [vi r3] _
          refine r_goto h 46 (by decide) (by decide +kernel : decode cX12_blot 42 = .ok (.goto 4, 3)) ?_
          exact r_iret h rfl (by decide +kernel : decode cX12_blot 46 = .ok (.ireturn, 1)) rfl ⟨rfl, _, rfl, H⟩
theorem W_Mod_blot (x1 : Int) (x2 : Int) (M : Mm) {P : Int → Mm → Prop} (H : ∀ M1 : Mm, M1 = (upr M 1 (up1 (M 1) 0 0)) → ∃ P2 : Int → Mm → Prop, S_Mod_isHouse x1 M1 P2 ∧ ∀ (r1 : Int) (M2 : Mm), P2 r1 M2 → (rng r1) ∧ (r1 = 0 → (P (-1) M2)) ∧ (r1 ≠ 0 → (∃ P3 : Int → Mm → Prop, S_Mod_isHouse x2 M2 P3 ∧ ∀ (r2 : Int) (M3 : Mm), P3 r2 M3 → (rng r2) ∧ (r2 = 0 → (P (-1) M3)) ∧ (r2 ≠ 0 → ((rng x1) ∧ (rng x2) ∧ (x1 = x2 → (P (-1) M3)) ∧ (x1 ≠ x2 → ((0 ≤ x1 ∧ x1 < 14) ∧ (rng (M3 5 x1.toNat)) ∧ ((M3 5 x1.toNat) = 3 → (P (-1) M3)) ∧ ((M3 5 x1.toNat) ≠ 3 → (∃ P4 : Int → Mm → Prop, S_Mod_printedBy x1 x2 M3 P4 ∧ ∀ (r3 : Int) (M4 : Mm), P4 r3 M4 → P r3 M4))))))))) : S_Mod_blot x1 x2 M P := e_Mod_blot x1 x2 M (fun _ h => w_Mod_blot_0 h x1 x2 M H)
set_option maxHeartbeats 4000000 in
set_option maxRecDepth 100000 in
theorem w_Mod_isAsHeard_0 {P : Int → Mm → Prop} {K : Nat → Rr → Nat → List (Nat × AV) → List AV → Mm → Prop} (h : EK shM yX12_isAsHeard cX12_isAsHeard 4 (some .boolean) 5 NM NM (QI RRM P) K) (x1 : Int) (M : Mm)
    (H : (rng (M 30 0)) ∧ (0 ≤ (M 30 0) → (K NM RRM 15 [(0, vr 1), (1, vi x1), (2, vi 0), (3, vi 0)] [] M)) ∧ (¬ (0 ≤ (M 30 0)) → (P 1 M))) :
    K NM RRM 0 [(0, vr 1), (1, vi x1)] [] M := by
  refine r_aloadn h (q := 0) 0 rfl (by decide +kernel : decode cX12_isAsHeard 0 = .ok (.aload_n 0, 1)) ?_
  refine r_getR h (r := 30) f_Mod_96 at1M rfl (by decide) (by decide +kernel : decode cX12_isAsHeard 1 = .ok (.getfield 96, 3)) ?_
  refine r_iconst h (v := 0) (by decide +kernel : decode cX12_isAsHeard 4 = .ok (.iconst 0, 1)) ?_
  refine r_iald h 0 rfl atM_30 (by decide) (by decide) (by decide +kernel : decode cX12_isAsHeard 5 = .ok (.iaload, 1)) ?_
  obtain ⟨g1, H⟩ := H
  obtain ⟨H1, H2⟩ := H
  refine r_if_ge h 11 g1 (by decide) (by decide +kernel : decode cX12_isAsHeard 6 = .ok (.ifCond .ge 5, 3)) (fun hc => ?_) (fun hc => ?_)
  · have H := H1 hc
    refine r_iconst h (v := 0) (by decide +kernel : decode cX12_isAsHeard 11 = .ok (.iconst 0, 1)) ?_
    refine r_istoren h (q := 2) (L' := [(2, vi 0), (0, vr 1), (1, vi x1)]) (by decide) rfl (by decide +kernel : decode cX12_isAsHeard 12 = .ok (.istore_n 2, 1)) ?_
    refine r_iconst h (v := 0) (by decide +kernel : decode cX12_isAsHeard 13 = .ok (.iconst 0, 1)) ?_
    refine r_istoren h (q := 3) (L' := [(3, vi 0), (2, vi 0), (0, vr 1), (1, vi x1)]) (by decide) rfl (by decide +kernel : decode cX12_isAsHeard 14 = .ok (.istore_n 3, 1)) ?_
    refine r_drop h [2, 3, 1, 0] rfl ?_
    exact H
  · have H := H2 hc
    refine r_iconst h (v := 1) (by decide +kernel : decode cX12_isAsHeard 9 = .ok (.iconst 1, 1)) ?_
    exact r_zret h rfl (by decide) (by decide +kernel : decode cX12_isAsHeard 10 = .ok (.ireturn, 1)) rfl ⟨rfl, _, rfl, H⟩
set_option maxHeartbeats 4000000 in
set_option maxRecDepth 100000 in
theorem w_Mod_isAsHeard_15 {P : Int → Mm → Prop} {K : Nat → Rr → Nat → List (Nat × AV) → List AV → Mm → Prop} (h : EK shM yX12_isAsHeard cX12_isAsHeard 4 (some .boolean) 5 NM NM (QI RRM P) K) (x1 : Int) (x2 : Int) (x3 : Int) (M : Mm)
    (H : (rng x3) ∧ (rng (M 3 0)) ∧ ((M 3 0) ≤ x3 → ((rng x2) ∧ (rng (M 30 0)) ∧ (x2 ≠ (M 30 0) → (P 0 M)) ∧ (x2 = (M 30 0) → (P 1 M)))) ∧ (¬ ((M 3 0) ≤ x3) → (((andI (shrI x1 x3) 1) ≠ 1 → (K NM RRM 15 [(0, vr 1), (1, vi x1), (2, vi (x2 + 0)), (3, vi (x3 + 1))] [] M)) ∧ ((andI (shrI x1 x3) 1) = 1 → (∃ P1 : Int → Mm → Prop, S_Mod_pressedOf x3 M P1 ∧ ∀ (r1 : Int) (M1 : Mm), P1 r1 M1 → K NM RRM 15 [(0, vr 1), (1, vi x1), (2, vi (x2 + r1)), (3, vi (x3 + 1))] [] M1))))) :
    K NM RRM 15 [(0, vr 1), (1, vi x1), (2, vi x2), (3, vi x3)] [] M := by
  refine r_iloadn h (q := 3) 3 rfl (by decide +kernel : decode cX12_isAsHeard 15 = .ok (.iload_n 3, 1)) ?_
  refine r_aloadn h (q := 0) 0 rfl (by decide +kernel : decode cX12_isAsHeard 16 = .ok (.aload_n 0, 1)) ?_
  refine r_getR h (r := 3) f_Mod_13 at1M rfl (by decide) (by decide +kernel : decode cX12_isAsHeard 17 = .ok (.getfield 13, 3)) ?_
  refine r_iconst h (v := 0) (by decide +kernel : decode cX12_isAsHeard 20 = .ok (.iconst 0, 1)) ?_
  refine r_iald h 0 rfl atM_3 (by decide) (by decide) (by decide +kernel : decode cX12_isAsHeard 21 = .ok (.iaload, 1)) ?_
  obtain ⟨g1, g2, H⟩ := H
  obtain ⟨H1, H2⟩ := H
  refine r_icmp_ge h 52 g1 g2 (by decide) (by decide +kernel : decode cX12_isAsHeard 22 = .ok (.if_icmp .ge 30, 3)) (fun hc => ?_) (fun hc => ?_)
  · have H := H1 hc
    refine r_iloadn h (q := 2) 2 rfl (by decide +kernel : decode cX12_isAsHeard 52 = .ok (.iload_n 2, 1)) ?_
    refine r_aloadn h (q := 0) 0 rfl (by decide +kernel : decode cX12_isAsHeard 53 = .ok (.aload_n 0, 1)) ?_
    refine r_getR h (r := 30) f_Mod_96 at1M rfl (by decide) (by decide +kernel : decode cX12_isAsHeard 54 = .ok (.getfield 96, 3)) ?_
    refine r_iconst h (v := 0) (by decide +kernel : decode cX12_isAsHeard 57 = .ok (.iconst 0, 1)) ?_
    refine r_iald h 0 rfl atM_30 (by decide) (by decide) (by decide +kernel : decode cX12_isAsHeard 58 = .ok (.iaload, 1)) ?_
    obtain ⟨g1, g2, H⟩ := H
    obtain ⟨H1, H2⟩ := H
    refine r_icmp_ne h 66 g1 g2 (by decide) (by decide +kernel : decode cX12_isAsHeard 59 = .ok (.if_icmp .ne 7, 3)) (fun hc => ?_) (fun hc => ?_)
    · have H := H1 hc
      refine r_iconst h (v := 0) (by decide +kernel : decode cX12_isAsHeard 66 = .ok (.iconst 0, 1)) ?_
      exact r_zret h rfl (by decide) (by decide +kernel : decode cX12_isAsHeard 67 = .ok (.ireturn, 1)) rfl ⟨rfl, _, rfl, H⟩
    · have H := H2 hc
      refine r_iconst h (v := 1) (by decide +kernel : decode cX12_isAsHeard 62 = .ok (.iconst 1, 1)) ?_
      refine r_goto h 67 (by decide) (by decide +kernel : decode cX12_isAsHeard 63 = .ok (.goto 4, 3)) ?_
      exact r_zret h rfl (by decide) (by decide +kernel : decode cX12_isAsHeard 67 = .ok (.ireturn, 1)) rfl ⟨rfl, _, rfl, H⟩
  · have H := H2 hc
    refine r_iloadn h (q := 2) 2 rfl (by decide +kernel : decode cX12_isAsHeard 25 = .ok (.iload_n 2, 1)) ?_
    refine r_iloadn h (q := 1) 1 rfl (by decide +kernel : decode cX12_isAsHeard 26 = .ok (.iload_n 1, 1)) ?_
    refine r_iloadn h (q := 3) 3 rfl (by decide +kernel : decode cX12_isAsHeard 27 = .ok (.iload_n 3, 1)) ?_
    refine r_ishr h (by decide +kernel : decode cX12_isAsHeard 28 = .ok (.ishr, 1)) ?_
    refine r_iconst h (v := 1) (by decide +kernel : decode cX12_isAsHeard 29 = .ok (.iconst 1, 1)) ?_
    refine r_iand h (by decide +kernel : decode cX12_isAsHeard 30 = .ok (.iand, 1)) ?_
    refine r_iconst h (v := 1) (by decide +kernel : decode cX12_isAsHeard 31 = .ok (.iconst 1, 1)) ?_
    obtain ⟨H1, H2⟩ := H
    refine r_icmp_ne h 43 (rng_toInt _) (by decide) (by decide) (by decide +kernel : decode cX12_isAsHeard 32 = .ok (.if_icmp .ne 11, 3)) (fun hc => ?_) (fun hc => ?_)
    · have H := H1 hc
      refine r_iconst h (v := 0) (by decide +kernel : decode cX12_isAsHeard 43 = .ok (.iconst 0, 1)) ?_
      refine r_iadd h (by decide +kernel : decode cX12_isAsHeard 44 = .ok (.iadd, 1)) ?_
      refine r_istoren h (q := 2) (L' := [(2, vi (x2 + 0)), (0, vr 1), (1, vi x1), (3, vi x3)]) (by decide) rfl (by decide +kernel : decode cX12_isAsHeard 45 = .ok (.istore_n 2, 1)) ?_
      refine r_iinc h (i := 3) (v := 1) (L' := [(3, vi (x3 + 1)), (2, vi (x2 + 0)), (0, vr 1), (1, vi x1)]) 3 rfl (by decide) rfl (by decide +kernel : decode cX12_isAsHeard 46 = .ok (.iinc 3 1, 3)) ?_
      refine r_goto h 15 (by decide) (by decide +kernel : decode cX12_isAsHeard 49 = .ok (.goto (-34), 3)) ?_
      refine r_drop h [2, 3, 1, 0] rfl ?_
      exact H
    · have H := H2 hc
      refine r_aloadn h (q := 0) 0 rfl (by decide +kernel : decode cX12_isAsHeard 35 = .ok (.aload_n 0, 1)) ?_
      refine r_iloadn h (q := 3) 3 rfl (by decide +kernel : decode cX12_isAsHeard 36 = .ok (.iload_n 3, 1)) ?_
      obtain ⟨P1, hSP1, H⟩ := H
      refine r_callV h (as := [vi x3]) (S := [vi x2]) (b := 1) m_Mod_372 hSP1 (by decide) (Nat.le_refl _) rfl at1M rfl (Nat.le_of_ble_eq_true rfl) (by decide +kernel : decode cX12_isAsHeard 37 = .ok (.invokevirtual 372, 3)) ?_
      rintro _ _ M1 ⟨rfl, r1, rfl, hP⟩
      have H := H r1 M1 hP
      show K NM RRM _ _ [vi r1, vi x2] _
      refine r_goto h 44 (by decide) (by decide +kernel : decode cX12_isAsHeard 40 = .ok (.goto 4, 3)) ?_
      refine r_iadd h (by decide +kernel : decode cX12_isAsHeard 44 = .ok (.iadd, 1)) ?_
      refine r_istoren h (q := 2) (L' := [(2, vi (x2 + r1)), (0, vr 1), (1, vi x1), (3, vi x3)]) (by decide) rfl (by decide +kernel : decode cX12_isAsHeard 45 = .ok (.istore_n 2, 1)) ?_
      refine r_iinc h (i := 3) (v := 1) (L' := [(3, vi (x3 + 1)), (2, vi (x2 + r1)), (0, vr 1), (1, vi x1)]) 3 rfl (by decide) rfl (by decide +kernel : decode cX12_isAsHeard 46 = .ok (.iinc 3 1, 3)) ?_
      refine r_goto h 15 (by decide) (by decide +kernel : decode cX12_isAsHeard 49 = .ok (.goto (-34), 3)) ?_
      refine r_drop h [2, 3, 1, 0] rfl ?_
      exact H
set_option maxHeartbeats 4000000 in
set_option maxRecDepth 100000 in
theorem w_Mod_readsAll_0 {P : Int → Mm → Prop} {K : Nat → Rr → Nat → List (Nat × AV) → List AV → Mm → Prop} (h : EK shM yX12_readsAll cX12_readsAll 2 (some .boolean) 6 NM NM (QI RRM P) K)  (M : Mm)
    (H : ∀ M1 : Mm, M1 = (upr M 3 (up1 (M 3) 4 0)) → ∀ M2 : Mm, M2 = (upr M1 3 (up1 (M1 3) 5 5)) → ∀ M3 : Mm, M3 = (upr M2 3 (up1 (M2 3) 6 3)) → ∀ M4 : Mm, M4 = (upr M3 3 (up1 (M3 3) 7 0)) → K NM RRM 32 [(0, vr 1), (1, vi 2)] [] M4) :
    K NM RRM 0 [(0, vr 1)] [] M := by
  refine r_aloadn h (q := 0) 0 rfl (by decide +kernel : decode cX12_readsAll 0 = .ok (.aload_n 0, 1)) ?_
  refine r_getR h (r := 3) f_Mod_13 at1M rfl (by decide) (by decide +kernel : decode cX12_readsAll 1 = .ok (.getfield 13, 3)) ?_
  refine r_iconst h (v := 4) (by decide +kernel : decode cX12_readsAll 4 = .ok (.iconst 4, 1)) ?_
  refine r_iconst h (v := 0) (by decide +kernel : decode cX12_readsAll 5 = .ok (.iconst 0, 1)) ?_
  refine r_iast h 4 rfl atM_3 (by decide) (by decide) (by decide +kernel : decode cX12_readsAll 6 = .ok (.iastore, 1)) ?_
  have H := H _ rfl
  revert H
  generalize (upr M 3 (up1 (M 3) 4 0)) = M1
  intro H
  refine r_aloadn h (q := 0) 0 rfl (by decide +kernel : decode cX12_readsAll 7 = .ok (.aload_n 0, 1)) ?_
  refine r_getR h (r := 3) f_Mod_13 at1M rfl (by decide) (by decide +kernel : decode cX12_readsAll 8 = .ok (.getfield 13, 3)) ?_
  refine r_iconst h (v := 5) (by decide +kernel : decode cX12_readsAll 11 = .ok (.iconst 5, 1)) ?_
  refine r_iconst h (v := 5) (by decide +kernel : decode cX12_readsAll 12 = .ok (.iconst 5, 1)) ?_
  refine r_iast h 5 rfl atM_3 (by decide) (by decide) (by decide +kernel : decode cX12_readsAll 13 = .ok (.iastore, 1)) ?_
  have H := H _ rfl
  revert H
  generalize (upr M1 3 (up1 (M1 3) 5 5)) = M2
  intro H
  refine r_aloadn h (q := 0) 0 rfl (by decide +kernel : decode cX12_readsAll 14 = .ok (.aload_n 0, 1)) ?_
  refine r_getR h (r := 3) f_Mod_13 at1M rfl (by decide) (by decide +kernel : decode cX12_readsAll 15 = .ok (.getfield 13, 3)) ?_
  refine r_bipush h (v := 6) (by decide) (by decide +kernel : decode cX12_readsAll 18 = .ok (.bipush 6, 2)) ?_
  refine r_iconst h (v := 3) (by decide +kernel : decode cX12_readsAll 20 = .ok (.iconst 3, 1)) ?_
  refine r_iast h 6 rfl atM_3 (by decide) (by decide) (by decide +kernel : decode cX12_readsAll 21 = .ok (.iastore, 1)) ?_
  have H := H _ rfl
  revert H
  generalize (upr M2 3 (up1 (M2 3) 6 3)) = M3
  intro H
  refine r_aloadn h (q := 0) 0 rfl (by decide +kernel : decode cX12_readsAll 22 = .ok (.aload_n 0, 1)) ?_
  refine r_getR h (r := 3) f_Mod_13 at1M rfl (by decide) (by decide +kernel : decode cX12_readsAll 23 = .ok (.getfield 13, 3)) ?_
  refine r_bipush h (v := 7) (by decide) (by decide +kernel : decode cX12_readsAll 26 = .ok (.bipush 7, 2)) ?_
  refine r_iconst h (v := 0) (by decide +kernel : decode cX12_readsAll 28 = .ok (.iconst 0, 1)) ?_
  refine r_iast h 7 rfl atM_3 (by decide) (by decide) (by decide +kernel : decode cX12_readsAll 29 = .ok (.iastore, 1)) ?_
  have H := H _ rfl
  revert H
  generalize (upr M3 3 (up1 (M3 3) 7 0)) = M4
  intro H
  refine r_iconst h (v := 2) (by decide +kernel : decode cX12_readsAll 30 = .ok (.iconst 2, 1)) ?_
  refine r_istoren h (q := 1) (L' := [(1, vi 2), (0, vr 1)]) (by decide) rfl (by decide +kernel : decode cX12_readsAll 31 = .ok (.istore_n 1, 1)) ?_
  refine r_drop h [1, 0] rfl ?_
  exact H
set_option maxHeartbeats 4000000 in
set_option maxRecDepth 100000 in
theorem w_Mod_readsAll_32 {P : Int → Mm → Prop} {K : Nat → Rr → Nat → List (Nat × AV) → List AV → Mm → Prop} (h : EK shM yX12_readsAll cX12_readsAll 2 (some .boolean) 6 NM NM (QI RRM P) K) (x1 : Int) (M : Mm)
    (H : (rng x1) ∧ (4 ≤ x1 → (∀ M1 : Mm, M1 = (upr M 1 (up1 (M 1) 23 0)) → ∀ M2 : Mm, M2 = (upr M1 1 (up1 (M1 1) 21 1000)) → ∃ P3 : Mm → Prop, S_Mod_begins  M2 P3 ∧ ∀ M3 : Mm, P3 M3 → K NM RRM 77 [(0, vr 1)] [] M3)) ∧ (¬ (4 ≤ x1) → ((0 ≤ x1 ∧ x1 < 4) ∧ ∀ M4 : Mm, M4 = (upr M 11 (up1 (M 11) x1.toNat 1000)) → (0 ≤ x1 ∧ x1 < 4) ∧ ∀ M5 : Mm, M5 = (upr M4 12 (up1 (M4 12) x1.toNat 1000)) → K NM RRM 32 [(0, vr 1), (1, vi (x1 + 1))] [] M5))) :
    K NM RRM 32 [(0, vr 1), (1, vi x1)] [] M := by
  refine r_iloadn h (q := 1) 1 rfl (by decide +kernel : decode cX12_readsAll 32 = .ok (.iload_n 1, 1)) ?_
  refine r_iconst h (v := 4) (by decide +kernel : decode cX12_readsAll 33 = .ok (.iconst 4, 1)) ?_
  obtain ⟨g1, H⟩ := H
  obtain ⟨H1, H2⟩ := H
  refine r_icmp_ge h 61 g1 (by decide) (by decide) (by decide +kernel : decode cX12_readsAll 34 = .ok (.if_icmp .ge 27, 3)) (fun hc => ?_) (fun hc => ?_)
  · have H := H1 hc
    refine r_aloadn h (q := 0) 0 rfl (by decide +kernel : decode cX12_readsAll 61 = .ok (.aload_n 0, 1)) ?_
    refine r_iconst h (v := 0) (by decide +kernel : decode cX12_readsAll 62 = .ok (.iconst 0, 1)) ?_
    refine r_putI h f_Mod_293 at1M rfl rfl (by decide +kernel : decode cX12_readsAll 63 = .ok (.putfield 293, 3)) ?_
    have H := H _ rfl
    revert H
    generalize (upr M 1 (up1 (M 1) 23 0)) = M1
    intro H
    refine r_aloadn h (q := 0) 0 rfl (by decide +kernel : decode cX12_readsAll 66 = .ok (.aload_n 0, 1)) ?_
    refine r_sipush h (v := 1000) (by decide) (by decide +kernel : decode cX12_readsAll 67 = .ok (.sipush 1000, 3)) ?_
    refine r_putI h f_Mod_186 at1M rfl rfl (by decide +kernel : decode cX12_readsAll 70 = .ok (.putfield 186, 3)) ?_
    have H := H _ rfl
    revert H
    generalize (upr M1 1 (up1 (M1 1) 21 1000)) = M2
    intro H
    refine r_aloadn h (q := 0) 0 rfl (by decide +kernel : decode cX12_readsAll 73 = .ok (.aload_n 0, 1)) ?_
    obtain ⟨P3, hSP3, H⟩ := H
    refine r_callV h (as := []) (S := []) (b := 1) m_Mod_312 hSP3 (by decide) (Nat.le_refl _) rfl at1M rfl (Nat.le_of_ble_eq_true rfl) (by decide +kernel : decode cX12_readsAll 74 = .ok (.invokevirtual 312, 3)) ?_
    rintro _ _ M3 ⟨rfl, rfl, hP⟩
    have H := H M3 hP
    show K NM RRM _ _ [] _
    refine r_drop h [0] rfl ?_
    exact H
  · have H := H2 hc
    refine r_aloadn h (q := 0) 0 rfl (by decide +kernel : decode cX12_readsAll 37 = .ok (.aload_n 0, 1)) ?_
    refine r_getR h (r := 11) f_Mod_38 at1M rfl (by decide) (by decide +kernel : decode cX12_readsAll 38 = .ok (.getfield 38, 3)) ?_
    refine r_iloadn h (q := 1) 1 rfl (by decide +kernel : decode cX12_readsAll 41 = .ok (.iload_n 1, 1)) ?_
    refine r_sipush h (v := 1000) (by decide) (by decide +kernel : decode cX12_readsAll 42 = .ok (.sipush 1000, 3)) ?_
    obtain ⟨g1, H⟩ := H
    refine r_iast h x1.toNat rfl atM_11 g1 (by decide) (by decide +kernel : decode cX12_readsAll 45 = .ok (.iastore, 1)) ?_
    have H := H _ rfl
    revert H
    generalize (upr M 11 (up1 (M 11) x1.toNat 1000)) = M4
    intro H
    refine r_aloadn h (q := 0) 0 rfl (by decide +kernel : decode cX12_readsAll 46 = .ok (.aload_n 0, 1)) ?_
    refine r_getR h (r := 12) f_Mod_41 at1M rfl (by decide) (by decide +kernel : decode cX12_readsAll 47 = .ok (.getfield 41, 3)) ?_
    refine r_iloadn h (q := 1) 1 rfl (by decide +kernel : decode cX12_readsAll 50 = .ok (.iload_n 1, 1)) ?_
    refine r_sipush h (v := 1000) (by decide) (by decide +kernel : decode cX12_readsAll 51 = .ok (.sipush 1000, 3)) ?_
    obtain ⟨g1, H⟩ := H
    refine r_iast h x1.toNat rfl atM_12 g1 (by decide) (by decide +kernel : decode cX12_readsAll 54 = .ok (.iastore, 1)) ?_
    have H := H _ rfl
    revert H
    generalize (upr M4 12 (up1 (M4 12) x1.toNat 1000)) = M5
    intro H
    refine r_iinc h (i := 1) (v := 1) (L' := [(1, vi (x1 + 1)), (0, vr 1)]) 1 rfl (by decide) rfl (by decide +kernel : decode cX12_readsAll 55 = .ok (.iinc 1 1, 3)) ?_
    refine r_goto h 32 (by decide) (by decide +kernel : decode cX12_readsAll 58 = .ok (.goto (-26), 3)) ?_
    refine r_drop h [1, 0] rfl ?_
    exact H
set_option maxHeartbeats 4000000 in
set_option maxRecDepth 100000 in
theorem w_Mod_readsAll_77 {P : Int → Mm → Prop} {K : Nat → Rr → Nat → List (Nat × AV) → List AV → Mm → Prop} (h : EK shM yX12_readsAll cX12_readsAll 2 (some .boolean) 6 NM NM (QI RRM P) K)  (M : Mm)
    (H : (rng (M 1 6)) ∧ ((M 1 6) = 0 → (P 1 M)) ∧ ((M 1 6) ≠ 0 → (∃ P1 : Int → Mm → Prop, S_Mod_isWord 4562600 M P1 ∧ ∀ (r1 : Int) (M1 : Mm), P1 r1 M1 → (rng r1) ∧ (r1 = 0 → (∃ P2 : Int → Mm → Prop, S_Mod_isWord 10270549 M1 P2 ∧ ∀ (r2 : Int) (M2 : Mm), P2 r2 M2 → (rng r2) ∧ (r2 = 0 → (∃ P3 : Int → Mm → Prop, S_Mod_isWord 5146 M2 P3 ∧ ∀ (r3 : Int) (M3 : Mm), P3 r3 M3 → (rng r3) ∧ (r3 = 0 → (∃ P4 : Int → Mm → Prop, S_Mod_isWord 8863997 M3 P4 ∧ ∀ (r4 : Int) (M4 : Mm), P4 r4 M4 → (rng r4) ∧ (r4 = 0 → (∃ P5 : Int → Mm → Prop, S_Mod_isWord 9592579 M4 P5 ∧ ∀ (r5 : Int) (M5 : Mm), P5 r5 M5 → (rng r5) ∧ (r5 = 0 → (∃ P6 : Int → Mm → Prop, S_Mod_isWord 6460053337 M5 P6 ∧ ∀ (r6 : Int) (M6 : Mm), P6 r6 M6 → (rng r6) ∧ (r6 = 0 → (∃ P7 : Int → Mm → Prop, S_Mod_isWord 239336362 M6 P7 ∧ ∀ (r7 : Int) (M7 : Mm), P7 r7 M7 → (rng r7) ∧ (r7 = 0 → (∃ P8 : Int → Mm → Prop, S_Mod_fails 1 M7 P8 ∧ ∀ (r8 : Int) (M8 : Mm), P8 r8 M8 → (rng r8) ∧ (r8 ≠ 0 → (K NM RRM 77 [(0, vr 1)] [] M8)) ∧ (r8 = 0 → (P 0 M8)))) ∧ (r7 ≠ 0 → (∃ P9 : Int → Mm → Prop, S_Mod_readsLaw 1 M7 P9 ∧ ∀ (r9 : Int) (M9 : Mm), P9 r9 M9 → (rng r9) ∧ (r9 ≠ 0 → (K NM RRM 77 [(0, vr 1)] [] M9)) ∧ (r9 = 0 → (P 0 M9)))))) ∧ (r6 ≠ 0 → (∃ P10 : Int → Mm → Prop, S_Mod_readsLaw 0 M6 P10 ∧ ∀ (r10 : Int) (M10 : Mm), P10 r10 M10 → (rng r10) ∧ (r10 ≠ 0 → (K NM RRM 77 [(0, vr 1)] [] M10)) ∧ (r10 = 0 → (P 0 M10)))))) ∧ (r5 ≠ 0 → (∃ P11 : Int → Mm → Prop, S_Mod_readsRains  M5 P11 ∧ ∀ (r11 : Int) (M11 : Mm), P11 r11 M11 → (rng r11) ∧ (r11 ≠ 0 → (K NM RRM 77 [(0, vr 1)] [] M11)) ∧ (r11 = 0 → (P 0 M11)))))) ∧ (r4 ≠ 0 → (∃ P12 : Int → Mm → Prop, S_Mod_readsOne 2 0 99 M4 P12 ∧ ∀ (r12 : Int) (M12 : Mm), P12 r12 M12 → (rng r12) ∧ (r12 ≠ 0 → (K NM RRM 77 [(0, vr 1)] [] M12)) ∧ (r12 = 0 → (P 0 M12)))))) ∧ (r3 ≠ 0 → (∃ P13 : Int → Mm → Prop, S_Mod_readsOne 1 1 20 M3 P13 ∧ ∀ (r13 : Int) (M13 : Mm), P13 r13 M13 → (rng r13) ∧ (r13 ≠ 0 → (K NM RRM 77 [(0, vr 1)] [] M13)) ∧ (r13 = 0 → (P 0 M13)))))) ∧ (r2 ≠ 0 → (∃ P14 : Int → Mm → Prop, S_Mod_readsShuns  M2 P14 ∧ ∀ (r14 : Int) (M14 : Mm), P14 r14 M14 → (rng r14) ∧ (r14 ≠ 0 → (K NM RRM 77 [(0, vr 1)] [] M14)) ∧ (r14 = 0 → (P 0 M14)))))) ∧ (r1 ≠ 0 → (∃ P15 : Int → Mm → Prop, S_Mod_readsHouse  M1 P15 ∧ ∀ (r15 : Int) (M15 : Mm), P15 r15 M15 → (rng r15) ∧ (r15 ≠ 0 → (K NM RRM 77 [(0, vr 1)] [] M15)) ∧ (r15 = 0 → (P 0 M15))))))) :
    K NM RRM 77 [(0, vr 1)] [] M := by
  refine r_aloadn h (q := 0) 0 rfl (by decide +kernel : decode cX12_readsAll 77 = .ok (.aload_n 0, 1)) ?_
  refine r_getI h f_Mod_172 at1M (by decide +kernel : decode cX12_readsAll 78 = .ok (.getfield 172, 3)) ?_
  obtain ⟨g1, H⟩ := H
  obtain ⟨H1, H2⟩ := H
  refine r_if_eq h 228 g1 (by decide) (by decide +kernel : decode cX12_readsAll 81 = .ok (.ifCond .eq 147, 3)) (fun hc => ?_) (fun hc => ?_)
  · have H := H1 hc
    refine r_iconst h (v := 1) (by decide +kernel : decode cX12_readsAll 228 = .ok (.iconst 1, 1)) ?_
    exact r_zret h rfl (by decide) (by decide +kernel : decode cX12_readsAll 229 = .ok (.ireturn, 1)) rfl ⟨rfl, _, rfl, H⟩
  · have H := H2 hc
    refine r_aloadn h (q := 0) 0 rfl (by decide +kernel : decode cX12_readsAll 84 = .ok (.aload_n 0, 1)) ?_
    refine r_ldc2 h (v := 4562600) kc_Mod_239 (by decide +kernel : decode cX12_readsAll 85 = .ok (.ldc2_w 239, 3)) ?_
    obtain ⟨P1, hSP1, H⟩ := H
    refine r_callV h (as := [vl 4562600]) (S := []) (b := 1) m_Mod_208 hSP1 (by decide) (Nat.le_refl _) rfl at1M rfl (Nat.le_of_ble_eq_true rfl) (by decide +kernel : decode cX12_readsAll 88 = .ok (.invokevirtual 208, 3)) ?_
    rintro _ _ M1 ⟨rfl, r1, rfl, hP⟩
    have H := H r1 M1 hP
    show K NM RRM _ _ [vi r1] _
    obtain ⟨g1, H⟩ := H
    obtain ⟨H1, H2⟩ := H
    refine r_if_eq h 101 g1 (by decide) (by decide +kernel : decode cX12_readsAll 91 = .ok (.ifCond .eq 10, 3)) (fun hc => ?_) (fun hc => ?_)
    · have H := H1 hc
      refine r_aloadn h (q := 0) 0 rfl (by decide +kernel : decode cX12_readsAll 101 = .ok (.aload_n 0, 1)) ?_
      refine r_ldc2 h (v := 10270549) kc_Mod_247 (by decide +kernel : decode cX12_readsAll 102 = .ok (.ldc2_w 247, 3)) ?_
      obtain ⟨P2, hSP2, H⟩ := H
      refine r_callV h (as := [vl 10270549]) (S := []) (b := 1) m_Mod_208 hSP2 (by decide) (Nat.le_refl _) rfl at1M rfl (Nat.le_of_ble_eq_true rfl) (by decide +kernel : decode cX12_readsAll 105 = .ok (.invokevirtual 208, 3)) ?_
      rintro _ _ M2 ⟨rfl, r2, rfl, hP⟩
      have H := H r2 M2 hP
      show K NM RRM _ _ [vi r2] _
      obtain ⟨g1, H⟩ := H
      obtain ⟨H1, H2⟩ := H
      refine r_if_eq h 118 g1 (by decide) (by decide +kernel : decode cX12_readsAll 108 = .ok (.ifCond .eq 10, 3)) (fun hc => ?_) (fun hc => ?_)
      · have H := H1 hc
        refine r_aloadn h (q := 0) 0 rfl (by decide +kernel : decode cX12_readsAll 118 = .ok (.aload_n 0, 1)) ?_
        refine r_ldc2 h (v := 5146) kc_Mod_249 (by decide +kernel : decode cX12_readsAll 119 = .ok (.ldc2_w 249, 3)) ?_
        obtain ⟨P3, hSP3, H⟩ := H
        refine r_callV h (as := [vl 5146]) (S := []) (b := 1) m_Mod_208 hSP3 (by decide) (Nat.le_refl _) rfl at1M rfl (Nat.le_of_ble_eq_true rfl) (by decide +kernel : decode cX12_readsAll 122 = .ok (.invokevirtual 208, 3)) ?_
        rintro _ _ M3 ⟨rfl, r3, rfl, hP⟩
        have H := H r3 M3 hP
        show K NM RRM _ _ [vi r3] _
        obtain ⟨g1, H⟩ := H
        obtain ⟨H1, H2⟩ := H
        refine r_if_eq h 139 g1 (by decide) (by decide +kernel : decode cX12_readsAll 125 = .ok (.ifCond .eq 14, 3)) (fun hc => ?_) (fun hc => ?_)
        · have H := H1 hc
          refine r_aloadn h (q := 0) 0 rfl (by decide +kernel : decode cX12_readsAll 139 = .ok (.aload_n 0, 1)) ?_
          refine r_ldc2 h (v := 8863997) kc_Mod_253 (by decide +kernel : decode cX12_readsAll 140 = .ok (.ldc2_w 253, 3)) ?_
          obtain ⟨P4, hSP4, H⟩ := H
          refine r_callV h (as := [vl 8863997]) (S := []) (b := 1) m_Mod_208 hSP4 (by decide) (Nat.le_refl _) rfl at1M rfl (Nat.le_of_ble_eq_true rfl) (by decide +kernel : decode cX12_readsAll 143 = .ok (.invokevirtual 208, 3)) ?_
          rintro _ _ M4 ⟨rfl, r4, rfl, hP⟩
          have H := H r4 M4 hP
          show K NM RRM _ _ [vi r4] _
          obtain ⟨g1, H⟩ := H
          obtain ⟨H1, H2⟩ := H
          refine r_if_eq h 160 g1 (by decide) (by decide +kernel : decode cX12_readsAll 146 = .ok (.ifCond .eq 14, 3)) (fun hc => ?_) (fun hc => ?_)
          · have H := H1 hc
            refine r_aloadn h (q := 0) 0 rfl (by decide +kernel : decode cX12_readsAll 160 = .ok (.aload_n 0, 1)) ?_
            refine r_ldc2 h (v := 9592579) kc_Mod_251 (by decide +kernel : decode cX12_readsAll 161 = .ok (.ldc2_w 251, 3)) ?_
            obtain ⟨P5, hSP5, H⟩ := H
            refine r_callV h (as := [vl 9592579]) (S := []) (b := 1) m_Mod_208 hSP5 (by decide) (Nat.le_refl _) rfl at1M rfl (Nat.le_of_ble_eq_true rfl) (by decide +kernel : decode cX12_readsAll 164 = .ok (.invokevirtual 208, 3)) ?_
            rintro _ _ M5 ⟨rfl, r5, rfl, hP⟩
            have H := H r5 M5 hP
            show K NM RRM _ _ [vi r5] _
            obtain ⟨g1, H⟩ := H
            obtain ⟨H1, H2⟩ := H
            refine r_if_eq h 177 g1 (by decide) (by decide +kernel : decode cX12_readsAll 167 = .ok (.ifCond .eq 10, 3)) (fun hc => ?_) (fun hc => ?_)
            · have H := H1 hc
              refine r_aloadn h (q := 0) 0 rfl (by decide +kernel : decode cX12_readsAll 177 = .ok (.aload_n 0, 1)) ?_
              refine r_ldc2 h (v := 6460053337) kc_Mod_255 (by decide +kernel : decode cX12_readsAll 178 = .ok (.ldc2_w 255, 3)) ?_
              obtain ⟨P6, hSP6, H⟩ := H
              refine r_callV h (as := [vl 6460053337]) (S := []) (b := 1) m_Mod_208 hSP6 (by decide) (Nat.le_refl _) rfl at1M rfl (Nat.le_of_ble_eq_true rfl) (by decide +kernel : decode cX12_readsAll 181 = .ok (.invokevirtual 208, 3)) ?_
              rintro _ _ M6 ⟨rfl, r6, rfl, hP⟩
              have H := H r6 M6 hP
              show K NM RRM _ _ [vi r6] _
              obtain ⟨g1, H⟩ := H
              obtain ⟨H1, H2⟩ := H
              refine r_if_eq h 195 g1 (by decide) (by decide +kernel : decode cX12_readsAll 184 = .ok (.ifCond .eq 11, 3)) (fun hc => ?_) (fun hc => ?_)
              · have H := H1 hc
                refine r_aloadn h (q := 0) 0 rfl (by decide +kernel : decode cX12_readsAll 195 = .ok (.aload_n 0, 1)) ?_
                refine r_ldc2 h (v := 239336362) kc_Mod_257 (by decide +kernel : decode cX12_readsAll 196 = .ok (.ldc2_w 257, 3)) ?_
                obtain ⟨P7, hSP7, H⟩ := H
                refine r_callV h (as := [vl 239336362]) (S := []) (b := 1) m_Mod_208 hSP7 (by decide) (Nat.le_refl _) rfl at1M rfl (Nat.le_of_ble_eq_true rfl) (by decide +kernel : decode cX12_readsAll 199 = .ok (.invokevirtual 208, 3)) ?_
                rintro _ _ M7 ⟨rfl, r7, rfl, hP⟩
                have H := H r7 M7 hP
                show K NM RRM _ _ [vi r7] _
                obtain ⟨g1, H⟩ := H
                obtain ⟨H1, H2⟩ := H
                refine r_if_eq h 213 g1 (by decide) (by decide +kernel : decode cX12_readsAll 202 = .ok (.ifCond .eq 11, 3)) (fun hc => ?_) (fun hc => ?_)
                · have H := H1 hc
                  refine r_aloadn h (q := 0) 0 rfl (by decide +kernel : decode cX12_readsAll 213 = .ok (.aload_n 0, 1)) ?_
                  refine r_iconst h (v := 1) (by decide +kernel : decode cX12_readsAll 214 = .ok (.iconst 1, 1)) ?_
                  obtain ⟨P8, hSP8, H⟩ := H
                  refine r_callV h (as := [vi 1]) (S := []) (b := 1) m_Mod_216 hSP8 (by decide) (Nat.le_refl _) rfl at1M rfl (Nat.le_of_ble_eq_true rfl) (by decide +kernel : decode cX12_readsAll 215 = .ok (.invokevirtual 216, 3)) ?_
                  rintro _ _ M8 ⟨rfl, r8, rfl, hP⟩
                  have H := H r8 M8 hP
                  show K NM RRM _ _ [vi r8] _
                  refine r_istoren h (q := 1) (L' := [(1, vi r8), (0, vr 1)]) (by decide) rfl (by decide +kernel : decode cX12_readsAll 218 = .ok (.istore_n 1, 1)) ?_
                  refine r_iloadn h (q := 1) 0 rfl (by decide +kernel : decode cX12_readsAll 219 = .ok (.iload_n 1, 1)) ?_
                  obtain ⟨g1, H⟩ := H
                  obtain ⟨H1, H2⟩ := H
                  refine r_if_ne h 225 g1 (by decide) (by decide +kernel : decode cX12_readsAll 220 = .ok (.ifCond .ne 5, 3)) (fun hc => ?_) (fun hc => ?_)
                  · have H := H1 hc
                    refine r_goto h 77 (by decide) (by decide +kernel : decode cX12_readsAll 225 = .ok (.goto (-148), 3)) ?_
                    refine r_drop h [1] rfl ?_
                    exact H
                  · have H := H2 hc
                    refine r_iconst h (v := 0) (by decide +kernel : decode cX12_readsAll 223 = .ok (.iconst 0, 1)) ?_
                    exact r_zret h rfl (by decide) (by decide +kernel : decode cX12_readsAll 224 = .ok (.ireturn, 1)) rfl ⟨rfl, _, rfl, H⟩
                · have H := H2 hc
                  refine r_aloadn h (q := 0) 0 rfl (by decide +kernel : decode cX12_readsAll 205 = .ok (.aload_n 0, 1)) ?_
                  refine r_iconst h (v := 1) (by decide +kernel : decode cX12_readsAll 206 = .ok (.iconst 1, 1)) ?_
                  obtain ⟨P9, hSP9, H⟩ := H
                  refine r_callV h (as := [vi 1]) (S := []) (b := 1) m_Mod_327 hSP9 (by decide) (Nat.le_refl _) rfl at1M rfl (Nat.le_of_ble_eq_true rfl) (by decide +kernel : decode cX12_readsAll 207 = .ok (.invokevirtual 327, 3)) ?_
                  rintro _ _ M9 ⟨rfl, r9, rfl, hP⟩
                  have H := H r9 M9 hP
                  show K NM RRM _ _ [vi r9] _
                  refine r_goto h 218 (by decide) (by decide +kernel : decode cX12_readsAll 210 = .ok (.goto 8, 3)) ?_
                  refine r_istoren h (q := 1) (L' := [(1, vi r9), (0, vr 1)]) (by decide) rfl (by decide +kernel : decode cX12_readsAll 218 = .ok (.istore_n 1, 1)) ?_
                  refine r_iloadn h (q := 1) 0 rfl (by decide +kernel : decode cX12_readsAll 219 = .ok (.iload_n 1, 1)) ?_
                  obtain ⟨g1, H⟩ := H
                  obtain ⟨H1, H2⟩ := H
                  refine r_if_ne h 225 g1 (by decide) (by decide +kernel : decode cX12_readsAll 220 = .ok (.ifCond .ne 5, 3)) (fun hc => ?_) (fun hc => ?_)
                  · have H := H1 hc
                    refine r_goto h 77 (by decide) (by decide +kernel : decode cX12_readsAll 225 = .ok (.goto (-148), 3)) ?_
                    refine r_drop h [1] rfl ?_
                    exact H
                  · have H := H2 hc
                    refine r_iconst h (v := 0) (by decide +kernel : decode cX12_readsAll 223 = .ok (.iconst 0, 1)) ?_
                    exact r_zret h rfl (by decide) (by decide +kernel : decode cX12_readsAll 224 = .ok (.ireturn, 1)) rfl ⟨rfl, _, rfl, H⟩
              · have H := H2 hc
                refine r_aloadn h (q := 0) 0 rfl (by decide +kernel : decode cX12_readsAll 187 = .ok (.aload_n 0, 1)) ?_
                refine r_iconst h (v := 0) (by decide +kernel : decode cX12_readsAll 188 = .ok (.iconst 0, 1)) ?_
                obtain ⟨P10, hSP10, H⟩ := H
                refine r_callV h (as := [vi 0]) (S := []) (b := 1) m_Mod_327 hSP10 (by decide) (Nat.le_refl _) rfl at1M rfl (Nat.le_of_ble_eq_true rfl) (by decide +kernel : decode cX12_readsAll 189 = .ok (.invokevirtual 327, 3)) ?_
                rintro _ _ M10 ⟨rfl, r10, rfl, hP⟩
                have H := H r10 M10 hP
                show K NM RRM _ _ [vi r10] _
                refine r_goto h 218 (by decide) (by decide +kernel : decode cX12_readsAll 192 = .ok (.goto 26, 3)) ?_
                refine r_istoren h (q := 1) (L' := [(1, vi r10), (0, vr 1)]) (by decide) rfl (by decide +kernel : decode cX12_readsAll 218 = .ok (.istore_n 1, 1)) ?_
                refine r_iloadn h (q := 1) 0 rfl (by decide +kernel : decode cX12_readsAll 219 = .ok (.iload_n 1, 1)) ?_
                obtain ⟨g1, H⟩ := H
                obtain ⟨H1, H2⟩ := H
                refine r_if_ne h 225 g1 (by decide) (by decide +kernel : decode cX12_readsAll 220 = .ok (.ifCond .ne 5, 3)) (fun hc => ?_) (fun hc => ?_)
                · have H := H1 hc
                  refine r_goto h 77 (by decide) (by decide +kernel : decode cX12_readsAll 225 = .ok (.goto (-148), 3)) ?_
                  refine r_drop h [1] rfl ?_
                  exact H
                · have H := H2 hc
                  refine r_iconst h (v := 0) (by decide +kernel : decode cX12_readsAll 223 = .ok (.iconst 0, 1)) ?_
                  exact r_zret h rfl (by decide) (by decide +kernel : decode cX12_readsAll 224 = .ok (.ireturn, 1)) rfl ⟨rfl, _, rfl, H⟩
            · have H := H2 hc
              refine r_aloadn h (q := 0) 0 rfl (by decide +kernel : decode cX12_readsAll 170 = .ok (.aload_n 0, 1)) ?_
              obtain ⟨P11, hSP11, H⟩ := H
              refine r_callV h (as := []) (S := []) (b := 1) m_Mod_324 hSP11 (by decide) (Nat.le_refl _) rfl at1M rfl (Nat.le_of_ble_eq_true rfl) (by decide +kernel : decode cX12_readsAll 171 = .ok (.invokevirtual 324, 3)) ?_
              rintro _ _ M11 ⟨rfl, r11, rfl, hP⟩
              have H := H r11 M11 hP
              show K NM RRM _ _ [vi r11] _
              refine r_goto h 218 (by decide) (by decide +kernel : decode cX12_readsAll 174 = .ok (.goto 44, 3)) ?_
              refine r_istoren h (q := 1) (L' := [(1, vi r11), (0, vr 1)]) (by decide) rfl (by decide +kernel : decode cX12_readsAll 218 = .ok (.istore_n 1, 1)) ?_
              refine r_iloadn h (q := 1) 0 rfl (by decide +kernel : decode cX12_readsAll 219 = .ok (.iload_n 1, 1)) ?_
              obtain ⟨g1, H⟩ := H
              obtain ⟨H1, H2⟩ := H
              refine r_if_ne h 225 g1 (by decide) (by decide +kernel : decode cX12_readsAll 220 = .ok (.ifCond .ne 5, 3)) (fun hc => ?_) (fun hc => ?_)
              · have H := H1 hc
                refine r_goto h 77 (by decide) (by decide +kernel : decode cX12_readsAll 225 = .ok (.goto (-148), 3)) ?_
                refine r_drop h [1] rfl ?_
                exact H
              · have H := H2 hc
                refine r_iconst h (v := 0) (by decide +kernel : decode cX12_readsAll 223 = .ok (.iconst 0, 1)) ?_
                exact r_zret h rfl (by decide) (by decide +kernel : decode cX12_readsAll 224 = .ok (.ireturn, 1)) rfl ⟨rfl, _, rfl, H⟩
          · have H := H2 hc
            refine r_aloadn h (q := 0) 0 rfl (by decide +kernel : decode cX12_readsAll 149 = .ok (.aload_n 0, 1)) ?_
            refine r_iconst h (v := 2) (by decide +kernel : decode cX12_readsAll 150 = .ok (.iconst 2, 1)) ?_
            refine r_iconst h (v := 0) (by decide +kernel : decode cX12_readsAll 151 = .ok (.iconst 0, 1)) ?_
            refine r_bipush h (v := 99) (by decide) (by decide +kernel : decode cX12_readsAll 152 = .ok (.bipush 99, 2)) ?_
            obtain ⟨P12, hSP12, H⟩ := H
            refine r_callV h (as := [vi 2, vi 0, vi 99]) (S := []) (b := 1) m_Mod_321 hSP12 (by decide) (Nat.le_refl _) rfl at1M rfl (Nat.le_of_ble_eq_true rfl) (by decide +kernel : decode cX12_readsAll 154 = .ok (.invokevirtual 321, 3)) ?_
            rintro _ _ M12 ⟨rfl, r12, rfl, hP⟩
            have H := H r12 M12 hP
            show K NM RRM _ _ [vi r12] _
            refine r_goto h 218 (by decide) (by decide +kernel : decode cX12_readsAll 157 = .ok (.goto 61, 3)) ?_
            refine r_istoren h (q := 1) (L' := [(1, vi r12), (0, vr 1)]) (by decide) rfl (by decide +kernel : decode cX12_readsAll 218 = .ok (.istore_n 1, 1)) ?_
            refine r_iloadn h (q := 1) 0 rfl (by decide +kernel : decode cX12_readsAll 219 = .ok (.iload_n 1, 1)) ?_
            obtain ⟨g1, H⟩ := H
            obtain ⟨H1, H2⟩ := H
            refine r_if_ne h 225 g1 (by decide) (by decide +kernel : decode cX12_readsAll 220 = .ok (.ifCond .ne 5, 3)) (fun hc => ?_) (fun hc => ?_)
            · have H := H1 hc
              refine r_goto h 77 (by decide) (by decide +kernel : decode cX12_readsAll 225 = .ok (.goto (-148), 3)) ?_
              refine r_drop h [1] rfl ?_
              exact H
            · have H := H2 hc
              refine r_iconst h (v := 0) (by decide +kernel : decode cX12_readsAll 223 = .ok (.iconst 0, 1)) ?_
              exact r_zret h rfl (by decide) (by decide +kernel : decode cX12_readsAll 224 = .ok (.ireturn, 1)) rfl ⟨rfl, _, rfl, H⟩
        · have H := H2 hc
          refine r_aloadn h (q := 0) 0 rfl (by decide +kernel : decode cX12_readsAll 128 = .ok (.aload_n 0, 1)) ?_
          refine r_iconst h (v := 1) (by decide +kernel : decode cX12_readsAll 129 = .ok (.iconst 1, 1)) ?_
          refine r_iconst h (v := 1) (by decide +kernel : decode cX12_readsAll 130 = .ok (.iconst 1, 1)) ?_
          refine r_bipush h (v := 20) (by decide) (by decide +kernel : decode cX12_readsAll 131 = .ok (.bipush 20, 2)) ?_
          obtain ⟨P13, hSP13, H⟩ := H
          refine r_callV h (as := [vi 1, vi 1, vi 20]) (S := []) (b := 1) m_Mod_321 hSP13 (by decide) (Nat.le_refl _) rfl at1M rfl (Nat.le_of_ble_eq_true rfl) (by decide +kernel : decode cX12_readsAll 133 = .ok (.invokevirtual 321, 3)) ?_
          rintro _ _ M13 ⟨rfl, r13, rfl, hP⟩
          have H := H r13 M13 hP
          show K NM RRM _ _ [vi r13] _
          refine r_goto h 218 (by decide) (by decide +kernel : decode cX12_readsAll 136 = .ok (.goto 82, 3)) ?_
          refine r_istoren h (q := 1) (L' := [(1, vi r13), (0, vr 1)]) (by decide) rfl (by decide +kernel : decode cX12_readsAll 218 = .ok (.istore_n 1, 1)) ?_
          refine r_iloadn h (q := 1) 0 rfl (by decide +kernel : decode cX12_readsAll 219 = .ok (.iload_n 1, 1)) ?_
          obtain ⟨g1, H⟩ := H
          obtain ⟨H1, H2⟩ := H
          refine r_if_ne h 225 g1 (by decide) (by decide +kernel : decode cX12_readsAll 220 = .ok (.ifCond .ne 5, 3)) (fun hc => ?_) (fun hc => ?_)
          · have H := H1 hc
            refine r_goto h 77 (by decide) (by decide +kernel : decode cX12_readsAll 225 = .ok (.goto (-148), 3)) ?_
            refine r_drop h [1] rfl ?_
            exact H
          · have H := H2 hc
            refine r_iconst h (v := 0) (by decide +kernel : decode cX12_readsAll 223 = .ok (.iconst 0, 1)) ?_
            exact r_zret h rfl (by decide) (by decide +kernel : decode cX12_readsAll 224 = .ok (.ireturn, 1)) rfl ⟨rfl, _, rfl, H⟩
      · have H := H2 hc
        refine r_aloadn h (q := 0) 0 rfl (by decide +kernel : decode cX12_readsAll 111 = .ok (.aload_n 0, 1)) ?_
        obtain ⟨P14, hSP14, H⟩ := H
        refine r_callV h (as := []) (S := []) (b := 1) m_Mod_318 hSP14 (by decide) (Nat.le_refl _) rfl at1M rfl (Nat.le_of_ble_eq_true rfl) (by decide +kernel : decode cX12_readsAll 112 = .ok (.invokevirtual 318, 3)) ?_
        rintro _ _ M14 ⟨rfl, r14, rfl, hP⟩
        have H := H r14 M14 hP
        show K NM RRM _ _ [vi r14] _
        refine r_goto h 218 (by decide) (by decide +kernel : decode cX12_readsAll 115 = .ok (.goto 103, 3)) ?_
        refine r_istoren h (q := 1) (L' := [(1, vi r14), (0, vr 1)]) (by decide) rfl (by decide +kernel : decode cX12_readsAll 218 = .ok (.istore_n 1, 1)) ?_
        refine r_iloadn h (q := 1) 0 rfl (by decide +kernel : decode cX12_readsAll 219 = .ok (.iload_n 1, 1)) ?_
        obtain ⟨g1, H⟩ := H
        obtain ⟨H1, H2⟩ := H
        refine r_if_ne h 225 g1 (by decide) (by decide +kernel : decode cX12_readsAll 220 = .ok (.ifCond .ne 5, 3)) (fun hc => ?_) (fun hc => ?_)
        · have H := H1 hc
          refine r_goto h 77 (by decide) (by decide +kernel : decode cX12_readsAll 225 = .ok (.goto (-148), 3)) ?_
          refine r_drop h [1] rfl ?_
          exact H
        · have H := H2 hc
          refine r_iconst h (v := 0) (by decide +kernel : decode cX12_readsAll 223 = .ok (.iconst 0, 1)) ?_
          exact r_zret h rfl (by decide) (by decide +kernel : decode cX12_readsAll 224 = .ok (.ireturn, 1)) rfl ⟨rfl, _, rfl, H⟩
    · have H := H2 hc
      refine r_aloadn h (q := 0) 0 rfl (by decide +kernel : decode cX12_readsAll 94 = .ok (.aload_n 0, 1)) ?_
      obtain ⟨P15, hSP15, H⟩ := H
      refine r_callV h (as := []) (S := []) (b := 1) m_Mod_315 hSP15 (by decide) (Nat.le_refl _) rfl at1M rfl (Nat.le_of_ble_eq_true rfl) (by decide +kernel : decode cX12_readsAll 95 = .ok (.invokevirtual 315, 3)) ?_
      rintro _ _ M15 ⟨rfl, r15, rfl, hP⟩
      have H := H r15 M15 hP
      show K NM RRM _ _ [vi r15] _
      refine r_goto h 218 (by decide) (by decide +kernel : decode cX12_readsAll 98 = .ok (.goto 120, 3)) ?_
      refine r_istoren h (q := 1) (L' := [(1, vi r15), (0, vr 1)]) (by decide) rfl (by decide +kernel : decode cX12_readsAll 218 = .ok (.istore_n 1, 1)) ?_
      refine r_iloadn h (q := 1) 0 rfl (by decide +kernel : decode cX12_readsAll 219 = .ok (.iload_n 1, 1)) ?_
      obtain ⟨g1, H⟩ := H
      obtain ⟨H1, H2⟩ := H
      refine r_if_ne h 225 g1 (by decide) (by decide +kernel : decode cX12_readsAll 220 = .ok (.ifCond .ne 5, 3)) (fun hc => ?_) (fun hc => ?_)
      · have H := H1 hc
        refine r_goto h 77 (by decide) (by decide +kernel : decode cX12_readsAll 225 = .ok (.goto (-148), 3)) ?_
        refine r_drop h [1] rfl ?_
        exact H
      · have H := H2 hc
        refine r_iconst h (v := 0) (by decide +kernel : decode cX12_readsAll 223 = .ok (.iconst 0, 1)) ?_
        exact r_zret h rfl (by decide) (by decide +kernel : decode cX12_readsAll 224 = .ok (.ireturn, 1)) rfl ⟨rfl, _, rfl, H⟩
set_option maxHeartbeats 4000000 in
set_option maxRecDepth 100000 in
theorem w_Mod_runs_0 {P : Int → Mm → Prop} {K : Nat → Rr → Nat → List (Nat × AV) → List AV → Mm → Prop} (h : EK shM yX12_runs cX12_runs 5 (some .int) 6 NM NM (QI RRM P) K)  (M : Mm)
    (H : ∀ M1 : Mm, M1 = (upr M 1 (up1 (M 1) 51 0)) → K NM RRM 11 [(0, vr 1), (1, vi 0), (2, vi (-1)), (3, vi 0)] [] M1) :
    K NM RRM 0 [(0, vr 1)] [] M := by
  refine r_iconst h (v := 0) (by decide +kernel : decode cX12_runs 0 = .ok (.iconst 0, 1)) ?_
  refine r_istoren h (q := 1) (L' := [(1, vi 0), (0, vr 1)]) (by decide) rfl (by decide +kernel : decode cX12_runs 1 = .ok (.istore_n 1, 1)) ?_
  refine r_iconst h (v := (-1)) (by decide +kernel : decode cX12_runs 2 = .ok (.iconst (-1), 1)) ?_
  refine r_istoren h (q := 2) (L' := [(2, vi (-1)), (1, vi 0), (0, vr 1)]) (by decide) rfl (by decide +kernel : decode cX12_runs 3 = .ok (.istore_n 2, 1)) ?_
  refine r_aloadn h (q := 0) 2 rfl (by decide +kernel : decode cX12_runs 4 = .ok (.aload_n 0, 1)) ?_
  refine r_iconst h (v := 0) (by decide +kernel : decode cX12_runs 5 = .ok (.iconst 0, 1)) ?_
  refine r_putI h f_Mod_378 at1M rfl rfl (by decide +kernel : decode cX12_runs 6 = .ok (.putfield 378, 3)) ?_
  have H := H _ rfl
  revert H
  generalize (upr M 1 (up1 (M 1) 51 0)) = M1
  intro H
  refine r_iconst h (v := 0) (by decide +kernel : decode cX12_runs 9 = .ok (.iconst 0, 1)) ?_
  refine r_istoren h (q := 3) (L' := [(3, vi 0), (2, vi (-1)), (1, vi 0), (0, vr 1)]) (by decide) rfl (by decide +kernel : decode cX12_runs 10 = .ok (.istore_n 3, 1)) ?_
  refine r_drop h [3, 2, 1, 0] rfl ?_
  exact H
set_option maxHeartbeats 4000000 in
set_option maxRecDepth 100000 in
theorem w_Mod_runs_11 {P : Int → Mm → Prop} {K : Nat → Rr → Nat → List (Nat × AV) → List AV → Mm → Prop} (h : EK shM yX12_runs cX12_runs 5 (some .int) 6 NM NM (QI RRM P) K) (x1 : Int) (x2 : Int) (x3 : Int) (M : Mm)
    (H : (rng x3) ∧ (rng (M 3 0)) ∧ ((M 3 0) ≤ x3 → (∃ P1 : Int → Mm → Prop, S_Mod_rainNow  M P1 ∧ ∀ (r1 : Int) (M1 : Mm), P1 r1 M1 → K NM RRM 81 [(0, vr 1), (1, vi x1), (3, vi r1), (4, vi 0)] [] M1)) ∧ (¬ ((M 3 0) ≤ x3) → ((0 ≤ (5 + x3) ∧ (5 + x3) < 33) ∧ ∃ P2 : Int → Mm → Prop, S_Mod_isGoing (M 34 (5 + x3).toNat) M P2 ∧ ∀ (r2 : Int) (M2 : Mm), P2 r2 M2 → (rng r2) ∧ (r2 ≠ 0 → (∃ P3 : Int → Mm → Prop, S_Mod_goesThrough (M 34 (5 + x3).toNat) x2 M2 P3 ∧ ∀ (r3 : Int) (M3 : Mm), P3 r3 M3 → (0 ≤ (M 34 (5 + x3).toNat) ∧ (M 34 (5 + x3).toNat) < 14) ∧ (rng (M3 5 (M 34 (5 + x3).toNat).toNat)) ∧ ((M3 5 (M 34 (5 + x3).toNat).toNat) = 3 → (K NM RRM 11 [(0, vr 1), (1, vi (x1 + r3)), (2, vi x2), (3, vi (x3 + 1))] [] M3)) ∧ ((M3 5 (M 34 (5 + x3).toNat).toNat) ≠ 3 → (K NM RRM 11 [(0, vr 1), (1, vi (x1 + r3)), (2, vi (M 34 (5 + x3).toNat)), (3, vi (x3 + 1))] [] M3)))) ∧ (r2 = 0 → (K NM RRM 11 [(0, vr 1), (1, vi x1), (2, vi x2), (3, vi (x3 + 1))] [] M2))))) :
    K NM RRM 11 [(0, vr 1), (1, vi x1), (2, vi x2), (3, vi x3)] [] M := by
  refine r_iloadn h (q := 3) 3 rfl (by decide +kernel : decode cX12_runs 11 = .ok (.iload_n 3, 1)) ?_
  refine r_aloadn h (q := 0) 0 rfl (by decide +kernel : decode cX12_runs 12 = .ok (.aload_n 0, 1)) ?_
  refine r_getR h (r := 3) f_Mod_13 at1M rfl (by decide) (by decide +kernel : decode cX12_runs 13 = .ok (.getfield 13, 3)) ?_
  refine r_iconst h (v := 0) (by decide +kernel : decode cX12_runs 16 = .ok (.iconst 0, 1)) ?_
  refine r_iald h 0 rfl atM_3 (by decide) (by decide) (by decide +kernel : decode cX12_runs 17 = .ok (.iaload, 1)) ?_
  obtain ⟨g1, g2, H⟩ := H
  obtain ⟨H1, H2⟩ := H
  refine r_icmp_ge h 73 g1 g2 (by decide) (by decide +kernel : decode cX12_runs 18 = .ok (.if_icmp .ge 55, 3)) (fun hc => ?_) (fun hc => ?_)
  · have H := H1 hc
    refine r_aloadn h (q := 0) 0 rfl (by decide +kernel : decode cX12_runs 73 = .ok (.aload_n 0, 1)) ?_
    obtain ⟨P1, hSP1, H⟩ := H
    refine r_callV h (as := []) (S := []) (b := 1) m_Mod_384 hSP1 (by decide) (Nat.le_refl _) rfl at1M rfl (Nat.le_of_ble_eq_true rfl) (by decide +kernel : decode cX12_runs 74 = .ok (.invokevirtual 384, 3)) ?_
    rintro _ _ M1 ⟨rfl, r1, rfl, hP⟩
    have H := H r1 M1 hP
    show K NM RRM _ _ [vi r1] _
    refine r_istoren h (q := 3) (L' := [(3, vi r1), (0, vr 1), (1, vi x1), (2, vi x2)]) (by decide) rfl (by decide +kernel : decode cX12_runs 77 = .ok (.istore_n 3, 1)) ?_
    refine r_iconst h (v := 0) (by decide +kernel : decode cX12_runs 78 = .ok (.iconst 0, 1)) ?_
    refine r_istore h (L' := [(4, vi 0), (3, vi r1), (0, vr 1), (1, vi x1), (2, vi x2)]) (by decide) rfl (by decide +kernel : decode cX12_runs 79 = .ok (.istore 4, 2)) ?_
    refine r_drop h [2, 3, 1, 0] rfl ?_
    exact H
  · have H := H2 hc
    refine r_aloadn h (q := 0) 0 rfl (by decide +kernel : decode cX12_runs 21 = .ok (.aload_n 0, 1)) ?_
    refine r_getR h (r := 34) f_Mod_108 at1M rfl (by decide) (by decide +kernel : decode cX12_runs 22 = .ok (.getfield 108, 3)) ?_
    refine r_iconst h (v := 5) (by decide +kernel : decode cX12_runs 25 = .ok (.iconst 5, 1)) ?_
    refine r_iloadn h (q := 3) 3 rfl (by decide +kernel : decode cX12_runs 26 = .ok (.iload_n 3, 1)) ?_
    refine r_iadd h (by decide +kernel : decode cX12_runs 27 = .ok (.iadd, 1)) ?_
    obtain ⟨g1, H⟩ := H
    refine r_iald h (5 + x3).toNat rfl atM_34 g1 (by decide) (by decide +kernel : decode cX12_runs 28 = .ok (.iaload, 1)) ?_
    refine r_istore h (L' := [(4, vi (M 34 (5 + x3).toNat)), (0, vr 1), (1, vi x1), (2, vi x2), (3, vi x3)]) (by decide) rfl (by decide +kernel : decode cX12_runs 29 = .ok (.istore 4, 2)) ?_
    refine r_aloadn h (q := 0) 1 rfl (by decide +kernel : decode cX12_runs 31 = .ok (.aload_n 0, 1)) ?_
    refine r_iload h 0 rfl (by decide +kernel : decode cX12_runs 32 = .ok (.iload 4, 2)) ?_
    obtain ⟨P2, hSP2, H⟩ := H
    refine r_callV h (as := [vi (M 34 (5 + x3).toNat)]) (S := []) (b := 1) m_Mod_363 hSP2 (by decide) (Nat.le_refl _) rfl at1M rfl (Nat.le_of_ble_eq_true rfl) (by decide +kernel : decode cX12_runs 34 = .ok (.invokevirtual 363, 3)) ?_
    rintro _ _ M2 ⟨rfl, r2, rfl, hP⟩
    have H := H r2 M2 hP
    show K NM RRM _ _ [vi r2] _
    obtain ⟨g1, H⟩ := H
    obtain ⟨H1, H2⟩ := H
    refine r_if_ne h 43 g1 (by decide) (by decide +kernel : decode cX12_runs 37 = .ok (.ifCond .ne 6, 3)) (fun hc => ?_) (fun hc => ?_)
    · have H := H1 hc
      refine r_iloadn h (q := 1) 2 rfl (by decide +kernel : decode cX12_runs 43 = .ok (.iload_n 1, 1)) ?_
      refine r_aloadn h (q := 0) 1 rfl (by decide +kernel : decode cX12_runs 44 = .ok (.aload_n 0, 1)) ?_
      refine r_iload h 0 rfl (by decide +kernel : decode cX12_runs 45 = .ok (.iload 4, 2)) ?_
      refine r_iloadn h (q := 2) 3 rfl (by decide +kernel : decode cX12_runs 47 = .ok (.iload_n 2, 1)) ?_
      obtain ⟨P3, hSP3, H⟩ := H
      refine r_callV h (as := [vi (M 34 (5 + x3).toNat), vi x2]) (S := [vi x1]) (b := 1) m_Mod_381 hSP3 (by decide) (Nat.le_refl _) rfl at1M rfl (Nat.le_of_ble_eq_true rfl) (by decide +kernel : decode cX12_runs 48 = .ok (.invokevirtual 381, 3)) ?_
      rintro _ _ M3 ⟨rfl, r3, rfl, hP⟩
      have H := H r3 M3 hP
      show K NM RRM _ _ [vi r3, vi x1] _
      refine r_iadd h (by decide +kernel : decode cX12_runs 51 = .ok (.iadd, 1)) ?_
      refine r_istoren h (q := 1) (L' := [(1, vi (x1 + r3)), (4, vi (M 34 (5 + x3).toNat)), (0, vr 1), (2, vi x2), (3, vi x3)]) (by decide) rfl (by decide +kernel : decode cX12_runs 52 = .ok (.istore_n 1, 1)) ?_
      refine r_aloadn h (q := 0) 2 rfl (by decide +kernel : decode cX12_runs 53 = .ok (.aload_n 0, 1)) ?_
      refine r_getR h (r := 5) f_Mod_20 at1M rfl (by decide) (by decide +kernel : decode cX12_runs 54 = .ok (.getfield 20, 3)) ?_
      refine r_iload h 1 rfl (by decide +kernel : decode cX12_runs 57 = .ok (.iload 4, 2)) ?_
      obtain ⟨g1, H⟩ := H
      refine r_iald h (M 34 (5 + x3).toNat).toNat rfl atM_5 g1 (by decide) (by decide +kernel : decode cX12_runs 59 = .ok (.iaload, 1)) ?_
      refine r_iconst h (v := 3) (by decide +kernel : decode cX12_runs 60 = .ok (.iconst 3, 1)) ?_
      obtain ⟨g1, H⟩ := H
      obtain ⟨H1, H2⟩ := H
      refine r_icmp_eq h 67 g1 (by decide) (by decide) (by decide +kernel : decode cX12_runs 61 = .ok (.if_icmp .eq 6, 3)) (fun hc => ?_) (fun hc => ?_)
      · have H := H1 hc
        refine r_iinc h (i := 3) (v := 1) (L' := [(3, vi (x3 + 1)), (1, vi (x1 + r3)), (4, vi (M 34 (5 + x3).toNat)), (0, vr 1), (2, vi x2)]) 4 rfl (by decide) rfl (by decide +kernel : decode cX12_runs 67 = .ok (.iinc 3 1, 3)) ?_
        refine r_goto h 11 (by decide) (by decide +kernel : decode cX12_runs 70 = .ok (.goto (-59), 3)) ?_
        refine r_drop h [3, 1, 4, 0] rfl ?_
        exact H
      · have H := H2 hc
        refine r_iload h 1 rfl (by decide +kernel : decode cX12_runs 64 = .ok (.iload 4, 2)) ?_
        refine r_istoren h (q := 2) (L' := [(2, vi (M 34 (5 + x3).toNat)), (1, vi (x1 + r3)), (4, vi (M 34 (5 + x3).toNat)), (0, vr 1), (3, vi x3)]) (by decide) rfl (by decide +kernel : decode cX12_runs 66 = .ok (.istore_n 2, 1)) ?_
        refine r_iinc h (i := 3) (v := 1) (L' := [(3, vi (x3 + 1)), (2, vi (M 34 (5 + x3).toNat)), (1, vi (x1 + r3)), (4, vi (M 34 (5 + x3).toNat)), (0, vr 1)]) 4 rfl (by decide) rfl (by decide +kernel : decode cX12_runs 67 = .ok (.iinc 3 1, 3)) ?_
        refine r_goto h 11 (by decide) (by decide +kernel : decode cX12_runs 70 = .ok (.goto (-59), 3)) ?_
        refine r_drop h [4, 2, 1, 0] rfl ?_
        exact H
    · have H := H2 hc
      refine r_goto h 67 (by decide) (by decide +kernel : decode cX12_runs 40 = .ok (.goto 27, 3)) ?_
      refine r_iinc h (i := 3) (v := 1) (L' := [(3, vi (x3 + 1)), (4, vi (M 34 (5 + x3).toNat)), (0, vr 1), (1, vi x1), (2, vi x2)]) 4 rfl (by decide) rfl (by decide +kernel : decode cX12_runs 67 = .ok (.iinc 3 1, 3)) ?_
      refine r_goto h 11 (by decide) (by decide +kernel : decode cX12_runs 70 = .ok (.goto (-59), 3)) ?_
      refine r_drop h [2, 3, 4, 0] rfl ?_
      exact H
set_option maxHeartbeats 4000000 in
set_option maxRecDepth 100000 in
theorem w_Mod_runs_81 {P : Int → Mm → Prop} {K : Nat → Rr → Nat → List (Nat × AV) → List AV → Mm → Prop} (h : EK shM yX12_runs cX12_runs 5 (some .int) 6 NM NM (QI RRM P) K) (x1 : Int) (x3 : Int) (x4 : Int) (M : Mm)
    (H : (rng x4) ∧ (rng (M 3 0)) ∧ ((M 3 0) ≤ x4 → (∀ M1 : Mm, M1 = (upr M 34 (up1 (M 34) 0 ((M 34 0) + 1))) → P x1 M1)) ∧ (¬ ((M 3 0) ≤ x4) → ((0 ≤ (19 + x4) ∧ (19 + x4) < 33) ∧ (rng ((M 34 (19 + x4).toNat) + x3)) ∧ (0 ≤ (19 + x4) ∧ (19 + x4) < 33) ∧ ∀ M2 : Mm, M2 = (upr M 34 (up1 (M 34) (19 + x4).toNat (min 99 ((M 34 (19 + x4).toNat) + x3)))) → ∃ P3 : Int → Mm → Prop, S_Mod_isGoing x4 M2 P3 ∧ ∀ (r1 : Int) (M3 : Mm), P3 r1 M3 → (rng r1) ∧ (r1 ≠ 0 → (K NM RRM 81 [(0, vr 1), (1, vi x1), (3, vi x3), (4, vi (x4 + 1))] [] M3)) ∧ (r1 = 0 → ((0 ≤ (12 + x4) ∧ (12 + x4) < 33) ∧ (rng ((M3 34 (12 + x4).toNat) + 1)) ∧ (0 ≤ (12 + x4) ∧ (12 + x4) < 33) ∧ ∀ M4 : Mm, M4 = (upr M3 34 (up1 (M3 34) (12 + x4).toNat (min 20 ((M3 34 (12 + x4).toNat) + 1)))) → K NM RRM 81 [(0, vr 1), (1, vi x1), (3, vi x3), (4, vi (x4 + 1))] [] M4))))) :
    K NM RRM 81 [(0, vr 1), (1, vi x1), (3, vi x3), (4, vi x4)] [] M := by
  refine r_iload h 3 rfl (by decide +kernel : decode cX12_runs 81 = .ok (.iload 4, 2)) ?_
  refine r_aloadn h (q := 0) 0 rfl (by decide +kernel : decode cX12_runs 83 = .ok (.aload_n 0, 1)) ?_
  refine r_getR h (r := 3) f_Mod_13 at1M rfl (by decide) (by decide +kernel : decode cX12_runs 84 = .ok (.getfield 13, 3)) ?_
  refine r_iconst h (v := 0) (by decide +kernel : decode cX12_runs 87 = .ok (.iconst 0, 1)) ?_
  refine r_iald h 0 rfl atM_3 (by decide) (by decide) (by decide +kernel : decode cX12_runs 88 = .ok (.iaload, 1)) ?_
  obtain ⟨g1, g2, H⟩ := H
  obtain ⟨H1, H2⟩ := H
  refine r_icmp_ge h 161 g1 g2 (by decide) (by decide +kernel : decode cX12_runs 89 = .ok (.if_icmp .ge 72, 3)) (fun hc => ?_) (fun hc => ?_)
  · have H := H1 hc
    refine r_aloadn h (q := 0) 0 rfl (by decide +kernel : decode cX12_runs 161 = .ok (.aload_n 0, 1)) ?_
    refine r_getR h (r := 34) f_Mod_108 at1M rfl (by decide) (by decide +kernel : decode cX12_runs 162 = .ok (.getfield 108, 3)) ?_
    refine r_iconst h (v := 0) (by decide +kernel : decode cX12_runs 165 = .ok (.iconst 0, 1)) ?_
    refine r_dup2 h rfl rfl (by decide +kernel : decode cX12_runs 166 = .ok (.dup2, 1)) ?_
    refine r_iald h 0 rfl atM_34 (by decide) (by decide) (by decide +kernel : decode cX12_runs 167 = .ok (.iaload, 1)) ?_
    refine r_iconst h (v := 1) (by decide +kernel : decode cX12_runs 168 = .ok (.iconst 1, 1)) ?_
    refine r_iadd h (by decide +kernel : decode cX12_runs 169 = .ok (.iadd, 1)) ?_
    refine r_iast h 0 rfl atM_34 (by decide) (by decide) (by decide +kernel : decode cX12_runs 170 = .ok (.iastore, 1)) ?_
    have H := H _ rfl
    revert H
    generalize (upr M 34 (up1 (M 34) 0 ((M 34 0) + 1))) = M1
    intro H
    refine r_iloadn h (q := 1) 1 rfl (by decide +kernel : decode cX12_runs 171 = .ok (.iload_n 1, 1)) ?_
    exact r_iret h rfl (by decide +kernel : decode cX12_runs 172 = .ok (.ireturn, 1)) rfl ⟨rfl, _, rfl, H⟩
  · have H := H2 hc
    refine r_aloadn h (q := 0) 0 rfl (by decide +kernel : decode cX12_runs 92 = .ok (.aload_n 0, 1)) ?_
    refine r_getR h (r := 34) f_Mod_108 at1M rfl (by decide) (by decide +kernel : decode cX12_runs 93 = .ok (.getfield 108, 3)) ?_
    refine r_bipush h (v := 19) (by decide) (by decide +kernel : decode cX12_runs 96 = .ok (.bipush 19, 2)) ?_
    refine r_iload h 3 rfl (by decide +kernel : decode cX12_runs 98 = .ok (.iload 4, 2)) ?_
    refine r_iadd h (by decide +kernel : decode cX12_runs 100 = .ok (.iadd, 1)) ?_
    refine r_bipush h (v := 99) (by decide) (by decide +kernel : decode cX12_runs 101 = .ok (.bipush 99, 2)) ?_
    refine r_aloadn h (q := 0) 0 rfl (by decide +kernel : decode cX12_runs 103 = .ok (.aload_n 0, 1)) ?_
    refine r_getR h (r := 34) f_Mod_108 at1M rfl (by decide) (by decide +kernel : decode cX12_runs 104 = .ok (.getfield 108, 3)) ?_
    refine r_bipush h (v := 19) (by decide) (by decide +kernel : decode cX12_runs 107 = .ok (.bipush 19, 2)) ?_
    refine r_iload h 3 rfl (by decide +kernel : decode cX12_runs 109 = .ok (.iload 4, 2)) ?_
    refine r_iadd h (by decide +kernel : decode cX12_runs 111 = .ok (.iadd, 1)) ?_
    obtain ⟨g1, H⟩ := H
    refine r_iald h (19 + x4).toNat rfl atM_34 g1 (by decide) (by decide +kernel : decode cX12_runs 112 = .ok (.iaload, 1)) ?_
    refine r_iloadn h (q := 3) 2 rfl (by decide +kernel : decode cX12_runs 113 = .ok (.iload_n 3, 1)) ?_
    refine r_iadd h (by decide +kernel : decode cX12_runs 114 = .ok (.iadd, 1)) ?_
    obtain ⟨g1, H⟩ := H
    refine r_min h (by decide) g1 kM_min_Mod (by decide) (Nat.le_refl _) (Nat.le_of_ble_eq_true rfl) (by decide +kernel : decode cX12_runs 115 = .ok (.invokestatic 357, 3)) ?_
    rw [min_if]
    have gm1 : rng (min 99 ((M 34 (19 + x4).toNat) + x3)) := min_rng (by decide) g1
    obtain ⟨g1, H⟩ := H
    refine r_iast h (19 + x4).toNat rfl atM_34 g1 (by decide) (by decide +kernel : decode cX12_runs 118 = .ok (.iastore, 1)) ?_
    have H := H _ rfl
    revert H
    generalize (upr M 34 (up1 (M 34) (19 + x4).toNat (min 99 ((M 34 (19 + x4).toNat) + x3)))) = M2
    intro H
    refine r_aloadn h (q := 0) 0 rfl (by decide +kernel : decode cX12_runs 119 = .ok (.aload_n 0, 1)) ?_
    refine r_iload h 3 rfl (by decide +kernel : decode cX12_runs 120 = .ok (.iload 4, 2)) ?_
    obtain ⟨P3, hSP3, H⟩ := H
    refine r_callV h (as := [vi x4]) (S := []) (b := 1) m_Mod_363 hSP3 (by decide) (Nat.le_refl _) rfl at1M rfl (Nat.le_of_ble_eq_true rfl) (by decide +kernel : decode cX12_runs 122 = .ok (.invokevirtual 363, 3)) ?_
    rintro _ _ M3 ⟨rfl, r1, rfl, hP⟩
    have H := H r1 M3 hP
    show K NM RRM _ _ [vi r1] _
    obtain ⟨g1, H⟩ := H
    obtain ⟨H1, H2⟩ := H
    refine r_if_ne h 155 g1 (by decide) (by decide +kernel : decode cX12_runs 125 = .ok (.ifCond .ne 30, 3)) (fun hc => ?_) (fun hc => ?_)
    · have H := H1 hc
      refine r_iinc h (i := 4) (v := 1) (L' := [(4, vi (x4 + 1)), (0, vr 1), (1, vi x1), (3, vi x3)]) 3 rfl (by decide) rfl (by decide +kernel : decode cX12_runs 155 = .ok (.iinc 4 1, 3)) ?_
      refine r_goto h 81 (by decide) (by decide +kernel : decode cX12_runs 158 = .ok (.goto (-77), 3)) ?_
      refine r_drop h [1, 2, 3, 0] rfl ?_
      exact H
    · have H := H2 hc
      refine r_aloadn h (q := 0) 0 rfl (by decide +kernel : decode cX12_runs 128 = .ok (.aload_n 0, 1)) ?_
      refine r_getR h (r := 34) f_Mod_108 at1M rfl (by decide) (by decide +kernel : decode cX12_runs 129 = .ok (.getfield 108, 3)) ?_
      refine r_bipush h (v := 12) (by decide) (by decide +kernel : decode cX12_runs 132 = .ok (.bipush 12, 2)) ?_
      refine r_iload h 3 rfl (by decide +kernel : decode cX12_runs 134 = .ok (.iload 4, 2)) ?_
      refine r_iadd h (by decide +kernel : decode cX12_runs 136 = .ok (.iadd, 1)) ?_
      refine r_bipush h (v := 20) (by decide) (by decide +kernel : decode cX12_runs 137 = .ok (.bipush 20, 2)) ?_
      refine r_aloadn h (q := 0) 0 rfl (by decide +kernel : decode cX12_runs 139 = .ok (.aload_n 0, 1)) ?_
      refine r_getR h (r := 34) f_Mod_108 at1M rfl (by decide) (by decide +kernel : decode cX12_runs 140 = .ok (.getfield 108, 3)) ?_
      refine r_bipush h (v := 12) (by decide) (by decide +kernel : decode cX12_runs 143 = .ok (.bipush 12, 2)) ?_
      refine r_iload h 3 rfl (by decide +kernel : decode cX12_runs 145 = .ok (.iload 4, 2)) ?_
      refine r_iadd h (by decide +kernel : decode cX12_runs 147 = .ok (.iadd, 1)) ?_
      obtain ⟨g1, H⟩ := H
      refine r_iald h (12 + x4).toNat rfl atM_34 g1 (by decide) (by decide +kernel : decode cX12_runs 148 = .ok (.iaload, 1)) ?_
      refine r_iconst h (v := 1) (by decide +kernel : decode cX12_runs 149 = .ok (.iconst 1, 1)) ?_
      refine r_iadd h (by decide +kernel : decode cX12_runs 150 = .ok (.iadd, 1)) ?_
      obtain ⟨g1, H⟩ := H
      refine r_min h (by decide) g1 kM_min_Mod (by decide) (Nat.le_refl _) (Nat.le_of_ble_eq_true rfl) (by decide +kernel : decode cX12_runs 151 = .ok (.invokestatic 357, 3)) ?_
      rw [min_if]
      have gm2 : rng (min 20 ((M3 34 (12 + x4).toNat) + 1)) := min_rng (by decide) g1
      obtain ⟨g1, H⟩ := H
      refine r_iast h (12 + x4).toNat rfl atM_34 g1 (by decide) (by decide +kernel : decode cX12_runs 154 = .ok (.iastore, 1)) ?_
      have H := H _ rfl
      revert H
      generalize (upr M3 34 (up1 (M3 34) (12 + x4).toNat (min 20 ((M3 34 (12 + x4).toNat) + 1)))) = M4
      intro H
      refine r_iinc h (i := 4) (v := 1) (L' := [(4, vi (x4 + 1)), (0, vr 1), (1, vi x1), (3, vi x3)]) 3 rfl (by decide) rfl (by decide +kernel : decode cX12_runs 155 = .ok (.iinc 4 1, 3)) ?_
      refine r_goto h 81 (by decide) (by decide +kernel : decode cX12_runs 158 = .ok (.goto (-77), 3)) ?_
      refine r_drop h [1, 2, 3, 0] rfl ?_
      exact H
set_option maxHeartbeats 4000000 in
set_option maxRecDepth 100000 in
theorem w_Mod_sets_0 {P : Int → Mm → Prop} {K : Nat → Rr → Nat → List (Nat × AV) → List AV → Mm → Prop} (h : EK shM yX12_sets cX12_sets 7 (some .int) 6 NM NM (QI RRM P) K) (x1 : Int) (M : Mm)
    (H : ∀ M1 : Mm, M1 = (upr M 1 (up1 (M 1) 0 0)) → ∃ P2 : Int → Mm → Prop, S_Mod_within x1 0 2 M1 P2 ∧ ∀ (r1 : Int) (M2 : Mm), P2 r1 M2 → (rng r1) ∧ (r1 ≠ 0 → (∃ P3 : Int → Mm → Prop, S_Mod_going  M2 P3 ∧ ∀ (r2 : Int) (M3 : Mm), P3 r2 M3 → K NM RRM 32 [(0, vr 1), (1, vi x1), (2, vi r2), (3, vi 0), (4, vi r2), (5, vi 0), (6, vi 0)] [] M3)) ∧ (r1 = 0 → (P (-1) M2))) :
    K NM RRM 0 [(0, vr 1), (1, vi x1)] [] M := by
  refine r_aloadn h (q := 0) 0 rfl (by decide +kernel : decode cX12_sets 0 = .ok (.aload_n 0, 1)) ?_
  refine r_iconst h (v := 0) (by decide +kernel : decode cX12_sets 1 = .ok (.iconst 0, 1)) ?_
  refine r_putI h f_Mod_147 at1M rfl rfl (by decide +kernel : decode cX12_sets 2 = .ok (.putfield 147, 3)) ?_
  have H := H _ rfl
  revert H
  generalize (upr M 1 (up1 (M 1) 0 0)) = M1
  intro H
  refine r_iloadn h (q := 1) 1 rfl (by decide +kernel : decode cX12_sets 5 = .ok (.iload_n 1, 1)) ?_
  refine r_iconst h (v := 0) (by decide +kernel : decode cX12_sets 6 = .ok (.iconst 0, 1)) ?_
  refine r_iconst h (v := 2) (by decide +kernel : decode cX12_sets 7 = .ok (.iconst 2, 1)) ?_
  obtain ⟨P2, hSP2, H⟩ := H
  refine r_callS h (as := [vi x1, vi 0, vi 2]) (S := []) m_Mod_275 hSP2 (by decide) (Nat.le_refl _) rfl rfl (Nat.le_of_ble_eq_true rfl) (by decide +kernel : decode cX12_sets 8 = .ok (.invokestatic 275, 3)) ?_
  rintro _ _ M2 ⟨rfl, r1, rfl, hP⟩
  have H := H r1 M2 hP
  show K NM RRM _ _ [vi r1] _
  obtain ⟨g1, H⟩ := H
  obtain ⟨H1, H2⟩ := H
  refine r_if_ne h 16 g1 (by decide) (by decide +kernel : decode cX12_sets 11 = .ok (.ifCond .ne 5, 3)) (fun hc => ?_) (fun hc => ?_)
  · have H := H1 hc
    refine r_aloadn h (q := 0) 0 rfl (by decide +kernel : decode cX12_sets 16 = .ok (.aload_n 0, 1)) ?_
    obtain ⟨P3, hSP3, H⟩ := H
    refine r_callV h (as := []) (S := []) (b := 1) m_Mod_426 hSP3 (by decide) (Nat.le_refl _) rfl at1M rfl (Nat.le_of_ble_eq_true rfl) (by decide +kernel : decode cX12_sets 17 = .ok (.invokevirtual 426, 3)) ?_
    rintro _ _ M3 ⟨rfl, r2, rfl, hP⟩
    have H := H r2 M3 hP
    show K NM RRM _ _ [vi r2] _
    refine r_istoren h (q := 2) (L' := [(2, vi r2), (0, vr 1), (1, vi x1)]) (by decide) rfl (by decide +kernel : decode cX12_sets 20 = .ok (.istore_n 2, 1)) ?_
    refine r_iconst h (v := 0) (by decide +kernel : decode cX12_sets 21 = .ok (.iconst 0, 1)) ?_
    refine r_istoren h (q := 3) (L' := [(3, vi 0), (2, vi r2), (0, vr 1), (1, vi x1)]) (by decide) rfl (by decide +kernel : decode cX12_sets 22 = .ok (.istore_n 3, 1)) ?_
    refine r_iloadn h (q := 2) 1 rfl (by decide +kernel : decode cX12_sets 23 = .ok (.iload_n 2, 1)) ?_
    refine r_istore h (L' := [(4, vi r2), (3, vi 0), (2, vi r2), (0, vr 1), (1, vi x1)]) (by decide) rfl (by decide +kernel : decode cX12_sets 24 = .ok (.istore 4, 2)) ?_
    refine r_iconst h (v := 0) (by decide +kernel : decode cX12_sets 26 = .ok (.iconst 0, 1)) ?_
    refine r_istore h (L' := [(5, vi 0), (4, vi r2), (3, vi 0), (2, vi r2), (0, vr 1), (1, vi x1)]) (by decide) rfl (by decide +kernel : decode cX12_sets 27 = .ok (.istore 5, 2)) ?_
    refine r_iconst h (v := 0) (by decide +kernel : decode cX12_sets 29 = .ok (.iconst 0, 1)) ?_
    refine r_istore h (L' := [(6, vi 0), (5, vi 0), (4, vi r2), (3, vi 0), (2, vi r2), (0, vr 1), (1, vi x1)]) (by decide) rfl (by decide +kernel : decode cX12_sets 30 = .ok (.istore 6, 2)) ?_
    refine r_drop h [5, 6, 4, 3, 2, 1, 0] rfl ?_
    exact H
  · have H := H2 hc
    refine r_iconst h (v := (-1)) (by decide +kernel : decode cX12_sets 14 = .ok (.iconst (-1), 1)) ?_
    exact r_iret h rfl (by decide +kernel : decode cX12_sets 15 = .ok (.ireturn, 1)) rfl ⟨rfl, _, rfl, H⟩
set_option maxHeartbeats 4000000 in
set_option maxRecDepth 100000 in
theorem w_Mod_sets_32 {P : Int → Mm → Prop} {K : Nat → Rr → Nat → List (Nat × AV) → List AV → Mm → Prop} (h : EK shM yX12_sets cX12_sets 7 (some .int) 6 NM NM (QI RRM P) K) (x1 : Int) (x2 : Int) (x3 : Int) (x4 : Int) (x5 : Int) (x6 : Int) (M : Mm)
    (H : (rng x6) ∧ (rng x2) ∧ (x2 < x6 → ((rng x3) ∧ (x3 = 0 → ((rng x1) ∧ (x1 ≠ 0 → (P (-1) M)) ∧ (x1 = 0 → (P x3 M)))) ∧ (x3 ≠ 0 → ((rng x1) ∧ (x1 ≠ 0 → ((rng x1) ∧ (x1 ≠ 1 → (P x5 M)) ∧ (x1 = 1 → (P x4 M)))) ∧ (x1 = 0 → ((rng x1) ∧ (x1 ≠ 0 → (P (-1) M)) ∧ (x1 = 0 → (P x3 M)))))))) ∧ (¬ (x2 < x6) → (((andI x6 (xorI x2 (-1))) ≠ 0 → (K NM RRM 32 [(0, vr 1), (1, vi x1), (2, vi x2), (3, vi x3), (4, vi x4), (5, vi x5), (6, vi (x6 + 1))] [] M)) ∧ ((andI x6 (xorI x2 (-1))) = 0 → (∃ P1 : Int → Mm → Prop, S_Mod_isAsHeard x6 M P1 ∧ ∀ (r1 : Int) (M1 : Mm), P1 r1 M1 → (rng r1) ∧ (r1 ≠ 0 → (K NM RRM 32 [(0, vr 1), (1, vi x1), (2, vi x2), (3, vi (x3 + 1)), (4, vi (andI x4 x6)), (5, vi (orI x5 x6)), (6, vi (x6 + 1))] [] M1)) ∧ (r1 = 0 → (K NM RRM 32 [(0, vr 1), (1, vi x1), (2, vi x2), (3, vi x3), (4, vi x4), (5, vi x5), (6, vi (x6 + 1))] [] M1))))))) :
    K NM RRM 32 [(0, vr 1), (1, vi x1), (2, vi x2), (3, vi x3), (4, vi x4), (5, vi x5), (6, vi x6)] [] M := by
  refine r_iload h 6 rfl (by decide +kernel : decode cX12_sets 32 = .ok (.iload 6, 2)) ?_
  refine r_iloadn h (q := 2) 2 rfl (by decide +kernel : decode cX12_sets 34 = .ok (.iload_n 2, 1)) ?_
  obtain ⟨g1, g2, H⟩ := H
  obtain ⟨H1, H2⟩ := H
  refine r_icmp_gt h 82 g1 g2 (by decide) (by decide +kernel : decode cX12_sets 35 = .ok (.if_icmp .gt 47, 3)) (fun hc => ?_) (fun hc => ?_)
  · have H := H1 hc
    refine r_iloadn h (q := 3) 3 rfl (by decide +kernel : decode cX12_sets 82 = .ok (.iload_n 3, 1)) ?_
    obtain ⟨g1, H⟩ := H
    obtain ⟨H1, H2⟩ := H
    refine r_if_eq h 90 g1 (by decide) (by decide +kernel : decode cX12_sets 83 = .ok (.ifCond .eq 7, 3)) (fun hc => ?_) (fun hc => ?_)
    · have H := H1 hc
      refine r_iloadn h (q := 1) 1 rfl (by decide +kernel : decode cX12_sets 90 = .ok (.iload_n 1, 1)) ?_
      obtain ⟨g1, H⟩ := H
      obtain ⟨H1, H2⟩ := H
      refine r_if_ne h 98 g1 (by decide) (by decide +kernel : decode cX12_sets 91 = .ok (.ifCond .ne 7, 3)) (fun hc => ?_) (fun hc => ?_)
      · have H := H1 hc
        refine r_iconst h (v := (-1)) (by decide +kernel : decode cX12_sets 98 = .ok (.iconst (-1), 1)) ?_
        exact r_iret h rfl (by decide +kernel : decode cX12_sets 99 = .ok (.ireturn, 1)) rfl ⟨rfl, _, rfl, H⟩
      · have H := H2 hc
        refine r_iloadn h (q := 3) 3 rfl (by decide +kernel : decode cX12_sets 94 = .ok (.iload_n 3, 1)) ?_
        refine r_goto h 99 (by decide) (by decide +kernel : decode cX12_sets 95 = .ok (.goto 4, 3)) ?_
        exact r_iret h rfl (by decide +kernel : decode cX12_sets 99 = .ok (.ireturn, 1)) rfl ⟨rfl, _, rfl, H⟩
    · have H := H2 hc
      refine r_iloadn h (q := 1) 1 rfl (by decide +kernel : decode cX12_sets 86 = .ok (.iload_n 1, 1)) ?_
      obtain ⟨g1, H⟩ := H
      obtain ⟨H1, H2⟩ := H
      refine r_if_ne h 100 g1 (by decide) (by decide +kernel : decode cX12_sets 87 = .ok (.ifCond .ne 13, 3)) (fun hc => ?_) (fun hc => ?_)
      · have H := H1 hc
        refine r_iloadn h (q := 1) 1 rfl (by decide +kernel : decode cX12_sets 100 = .ok (.iload_n 1, 1)) ?_
        refine r_iconst h (v := 1) (by decide +kernel : decode cX12_sets 101 = .ok (.iconst 1, 1)) ?_
        obtain ⟨g1, H⟩ := H
        obtain ⟨H1, H2⟩ := H
        refine r_icmp_ne h 110 g1 (by decide) (by decide) (by decide +kernel : decode cX12_sets 102 = .ok (.if_icmp .ne 8, 3)) (fun hc => ?_) (fun hc => ?_)
        · have H := H1 hc
          refine r_iload h 5 rfl (by decide +kernel : decode cX12_sets 110 = .ok (.iload 5, 2)) ?_
          exact r_iret h rfl (by decide +kernel : decode cX12_sets 112 = .ok (.ireturn, 1)) rfl ⟨rfl, _, rfl, H⟩
        · have H := H2 hc
          refine r_iload h 4 rfl (by decide +kernel : decode cX12_sets 105 = .ok (.iload 4, 2)) ?_
          refine r_goto h 112 (by decide) (by decide +kernel : decode cX12_sets 107 = .ok (.goto 5, 3)) ?_
          exact r_iret h rfl (by decide +kernel : decode cX12_sets 112 = .ok (.ireturn, 1)) rfl ⟨rfl, _, rfl, H⟩
      · have H := H2 hc
        refine r_iloadn h (q := 1) 1 rfl (by decide +kernel : decode cX12_sets 90 = .ok (.iload_n 1, 1)) ?_
        obtain ⟨g1, H⟩ := H
        obtain ⟨H1, H2⟩ := H
        refine r_if_ne h 98 g1 (by decide) (by decide +kernel : decode cX12_sets 91 = .ok (.ifCond .ne 7, 3)) (fun hc => ?_) (fun hc => ?_)
        · have H := H1 hc
          refine r_iconst h (v := (-1)) (by decide +kernel : decode cX12_sets 98 = .ok (.iconst (-1), 1)) ?_
          exact r_iret h rfl (by decide +kernel : decode cX12_sets 99 = .ok (.ireturn, 1)) rfl ⟨rfl, _, rfl, H⟩
        · have H := H2 hc
          refine r_iloadn h (q := 3) 3 rfl (by decide +kernel : decode cX12_sets 94 = .ok (.iload_n 3, 1)) ?_
          refine r_goto h 99 (by decide) (by decide +kernel : decode cX12_sets 95 = .ok (.goto 4, 3)) ?_
          exact r_iret h rfl (by decide +kernel : decode cX12_sets 99 = .ok (.ireturn, 1)) rfl ⟨rfl, _, rfl, H⟩
  · have H := H2 hc
    refine r_iload h 6 rfl (by decide +kernel : decode cX12_sets 38 = .ok (.iload 6, 2)) ?_
    refine r_iloadn h (q := 2) 2 rfl (by decide +kernel : decode cX12_sets 40 = .ok (.iload_n 2, 1)) ?_
    refine r_iconst h (v := (-1)) (by decide +kernel : decode cX12_sets 41 = .ok (.iconst (-1), 1)) ?_
    refine r_ixor h (by decide +kernel : decode cX12_sets 42 = .ok (.ixor, 1)) ?_
    refine r_iand h (by decide +kernel : decode cX12_sets 43 = .ok (.iand, 1)) ?_
    obtain ⟨H1, H2⟩ := H
    refine r_if_ne h 76 (rng_toInt _) (by decide) (by decide +kernel : decode cX12_sets 44 = .ok (.ifCond .ne 32, 3)) (fun hc => ?_) (fun hc => ?_)
    · have H := H1 hc
      refine r_iinc h (i := 6) (v := 1) (L' := [(6, vi (x6 + 1)), (0, vr 1), (1, vi x1), (2, vi x2), (3, vi x3), (4, vi x4), (5, vi x5)]) 6 rfl (by decide) rfl (by decide +kernel : decode cX12_sets 76 = .ok (.iinc 6 1, 3)) ?_
      refine r_goto h 32 (by decide) (by decide +kernel : decode cX12_sets 79 = .ok (.goto (-47), 3)) ?_
      refine r_drop h [1, 2, 3, 4, 5, 6, 0] rfl ?_
      exact H
    · have H := H2 hc
      refine r_aloadn h (q := 0) 0 rfl (by decide +kernel : decode cX12_sets 47 = .ok (.aload_n 0, 1)) ?_
      refine r_iload h 6 rfl (by decide +kernel : decode cX12_sets 48 = .ok (.iload 6, 2)) ?_
      obtain ⟨P1, hSP1, H⟩ := H
      refine r_callV h (as := [vi x6]) (S := []) (b := 1) m_Mod_441 hSP1 (by decide) (Nat.le_refl _) rfl at1M rfl (Nat.le_of_ble_eq_true rfl) (by decide +kernel : decode cX12_sets 50 = .ok (.invokevirtual 441, 3)) ?_
      rintro _ _ M1 ⟨rfl, r1, rfl, hP⟩
      have H := H r1 M1 hP
      show K NM RRM _ _ [vi r1] _
      obtain ⟨g1, H⟩ := H
      obtain ⟨H1, H2⟩ := H
      refine r_if_ne h 59 g1 (by decide) (by decide +kernel : decode cX12_sets 53 = .ok (.ifCond .ne 6, 3)) (fun hc => ?_) (fun hc => ?_)
      · have H := H1 hc
        refine r_iinc h (i := 3) (v := 1) (L' := [(3, vi (x3 + 1)), (0, vr 1), (1, vi x1), (2, vi x2), (4, vi x4), (5, vi x5), (6, vi x6)]) 3 rfl (by decide) rfl (by decide +kernel : decode cX12_sets 59 = .ok (.iinc 3 1, 3)) ?_
        refine r_iload h 4 rfl (by decide +kernel : decode cX12_sets 62 = .ok (.iload 4, 2)) ?_
        refine r_iload h 6 rfl (by decide +kernel : decode cX12_sets 64 = .ok (.iload 6, 2)) ?_
        refine r_iand h (by decide +kernel : decode cX12_sets 66 = .ok (.iand, 1)) ?_
        refine r_istore h (L' := [(4, vi (andI x4 x6)), (3, vi (x3 + 1)), (0, vr 1), (1, vi x1), (2, vi x2), (5, vi x5), (6, vi x6)]) (by decide) rfl (by decide +kernel : decode cX12_sets 67 = .ok (.istore 4, 2)) ?_
        refine r_iload h 5 rfl (by decide +kernel : decode cX12_sets 69 = .ok (.iload 5, 2)) ?_
        refine r_iload h 6 rfl (by decide +kernel : decode cX12_sets 71 = .ok (.iload 6, 2)) ?_
        refine r_ior h (by decide +kernel : decode cX12_sets 73 = .ok (.ior, 1)) ?_
        refine r_istore h (L' := [(5, vi (orI x5 x6)), (4, vi (andI x4 x6)), (3, vi (x3 + 1)), (0, vr 1), (1, vi x1), (2, vi x2), (6, vi x6)]) (by decide) rfl (by decide +kernel : decode cX12_sets 74 = .ok (.istore 5, 2)) ?_
        refine r_iinc h (i := 6) (v := 1) (L' := [(6, vi (x6 + 1)), (5, vi (orI x5 x6)), (4, vi (andI x4 x6)), (3, vi (x3 + 1)), (0, vr 1), (1, vi x1), (2, vi x2)]) 6 rfl (by decide) rfl (by decide +kernel : decode cX12_sets 76 = .ok (.iinc 6 1, 3)) ?_
        refine r_goto h 32 (by decide) (by decide +kernel : decode cX12_sets 79 = .ok (.goto (-47), 3)) ?_
        refine r_drop h [4, 5, 6, 3, 2, 1, 0] rfl ?_
        exact H
      · have H := H2 hc
        refine r_goto h 76 (by decide) (by decide +kernel : decode cX12_sets 56 = .ok (.goto 20, 3)) ?_
        refine r_iinc h (i := 6) (v := 1) (L' := [(6, vi (x6 + 1)), (0, vr 1), (1, vi x1), (2, vi x2), (3, vi x3), (4, vi x4), (5, vi x5)]) 6 rfl (by decide) rfl (by decide +kernel : decode cX12_sets 76 = .ok (.iinc 6 1, 3)) ?_
        refine r_goto h 32 (by decide) (by decide +kernel : decode cX12_sets 79 = .ok (.goto (-47), 3)) ?_
        refine r_drop h [1, 2, 3, 4, 5, 6, 0] rfl ?_
        exact H
set_option maxHeartbeats 4000000 in
set_option maxRecDepth 100000 in
theorem w_Mod_town_0 {P : Int → Mm → Prop} {K : Nat → Rr → Nat → List (Nat × AV) → List AV → Mm → Prop} (h : EK shM yX12_town cX12_town 2 (some .int) 7 NM NM (QI RRM P) K)  (M : Mm)
    (H : ∀ M1 : Mm, M1 = (upr M 1 (up1 (M 1) 0 0)) → ∃ P2 : Int → Mm → Prop, S_Mod_readsAll  M1 P2 ∧ ∀ (r1 : Int) (M2 : Mm), P2 r1 M2 → (rng r1) ∧ (r1 ≠ 0 → (∃ P3 : Mm → Prop, S_Mod_lays  M2 P3 ∧ ∀ M3 : Mm, P3 M3 → ∃ P4 : Mm → Prop, S_Mod_fresh  M3 P4 ∧ ∀ M4 : Mm, P4 M4 → ∀ M5 : Mm, M5 = (upr M4 26 (up1 (M4 26) 0 0)) → ∀ M6 : Mm, M6 = (upr M5 30 (up1 (M5 30) 0 (-1))) → ∀ M7 : Mm, M7 = (upr M6 31 (up1 (M6 31) 0 0)) → ∀ M8 : Mm, M8 = (upr M7 1 (up1 (M7 1) 50 0)) → K NM RRM 53 [(0, vr 1), (1, vi 0)] [] M8)) ∧ (r1 = 0 → (P (M2 1 9) M2))) :
    K NM RRM 0 [(0, vr 1)] [] M := by
  refine r_aloadn h (q := 0) 0 rfl (by decide +kernel : decode cX12_town 0 = .ok (.aload_n 0, 1)) ?_
  refine r_iconst h (v := 0) (by decide +kernel : decode cX12_town 1 = .ok (.iconst 0, 1)) ?_
  refine r_putI h f_Mod_147 at1M rfl rfl (by decide +kernel : decode cX12_town 2 = .ok (.putfield 147, 3)) ?_
  have H := H _ rfl
  revert H
  generalize (upr M 1 (up1 (M 1) 0 0)) = M1
  intro H
  refine r_aloadn h (q := 0) 0 rfl (by decide +kernel : decode cX12_town 5 = .ok (.aload_n 0, 1)) ?_
  obtain ⟨P2, hSP2, H⟩ := H
  refine r_callV h (as := []) (S := []) (b := 1) m_Mod_334 hSP2 (by decide) (Nat.le_refl _) rfl at1M rfl (Nat.le_of_ble_eq_true rfl) (by decide +kernel : decode cX12_town 6 = .ok (.invokevirtual 334, 3)) ?_
  rintro _ _ M2 ⟨rfl, r1, rfl, hP⟩
  have H := H r1 M2 hP
  show K NM RRM _ _ [vi r1] _
  obtain ⟨g1, H⟩ := H
  obtain ⟨H1, H2⟩ := H
  refine r_if_ne h 17 g1 (by decide) (by decide +kernel : decode cX12_town 9 = .ok (.ifCond .ne 8, 3)) (fun hc => ?_) (fun hc => ?_)
  · have H := H1 hc
    refine r_aloadn h (q := 0) 0 rfl (by decide +kernel : decode cX12_town 17 = .ok (.aload_n 0, 1)) ?_
    obtain ⟨P3, hSP3, H⟩ := H
    refine r_callV h (as := []) (S := []) (b := 1) m_Mod_337 hSP3 (by decide) (Nat.le_refl _) rfl at1M rfl (Nat.le_of_ble_eq_true rfl) (by decide +kernel : decode cX12_town 18 = .ok (.invokevirtual 337, 3)) ?_
    rintro _ _ M3 ⟨rfl, rfl, hP⟩
    have H := H M3 hP
    show K NM RRM _ _ [] _
    refine r_aloadn h (q := 0) 0 rfl (by decide +kernel : decode cX12_town 21 = .ok (.aload_n 0, 1)) ?_
    obtain ⟨P4, hSP4, H⟩ := H
    refine r_callV h (as := []) (S := []) (b := 1) m_Mod_144 hSP4 (by decide) (Nat.le_refl _) rfl at1M rfl (Nat.le_of_ble_eq_true rfl) (by decide +kernel : decode cX12_town 22 = .ok (.invokevirtual 144, 3)) ?_
    rintro _ _ M4 ⟨rfl, rfl, hP⟩
    have H := H M4 hP
    show K NM RRM _ _ [] _
    refine r_aloadn h (q := 0) 0 rfl (by decide +kernel : decode cX12_town 25 = .ok (.aload_n 0, 1)) ?_
    refine r_getR h (r := 26) f_Mod_84 at1M rfl (by decide) (by decide +kernel : decode cX12_town 26 = .ok (.getfield 84, 3)) ?_
    refine r_iconst h (v := 0) (by decide +kernel : decode cX12_town 29 = .ok (.iconst 0, 1)) ?_
    refine r_iconst h (v := 0) (by decide +kernel : decode cX12_town 30 = .ok (.iconst 0, 1)) ?_
    refine r_iast h 0 rfl atM_26 (by decide) (by decide) (by decide +kernel : decode cX12_town 31 = .ok (.iastore, 1)) ?_
    have H := H _ rfl
    revert H
    generalize (upr M4 26 (up1 (M4 26) 0 0)) = M5
    intro H
    refine r_aloadn h (q := 0) 0 rfl (by decide +kernel : decode cX12_town 32 = .ok (.aload_n 0, 1)) ?_
    refine r_getR h (r := 30) f_Mod_96 at1M rfl (by decide) (by decide +kernel : decode cX12_town 33 = .ok (.getfield 96, 3)) ?_
    refine r_iconst h (v := 0) (by decide +kernel : decode cX12_town 36 = .ok (.iconst 0, 1)) ?_
    refine r_iconst h (v := (-1)) (by decide +kernel : decode cX12_town 37 = .ok (.iconst (-1), 1)) ?_
    refine r_iast h 0 rfl atM_30 (by decide) (by decide) (by decide +kernel : decode cX12_town 38 = .ok (.iastore, 1)) ?_
    have H := H _ rfl
    revert H
    generalize (upr M5 30 (up1 (M5 30) 0 (-1))) = M6
    intro H
    refine r_aloadn h (q := 0) 0 rfl (by decide +kernel : decode cX12_town 39 = .ok (.aload_n 0, 1)) ?_
    refine r_getR h (r := 31) f_Mod_99 at1M rfl (by decide) (by decide +kernel : decode cX12_town 40 = .ok (.getfield 99, 3)) ?_
    refine r_iconst h (v := 0) (by decide +kernel : decode cX12_town 43 = .ok (.iconst 0, 1)) ?_
    refine r_iconst h (v := 0) (by decide +kernel : decode cX12_town 44 = .ok (.iconst 0, 1)) ?_
    refine r_iast h 0 rfl atM_31 (by decide) (by decide) (by decide +kernel : decode cX12_town 45 = .ok (.iastore, 1)) ?_
    have H := H _ rfl
    revert H
    generalize (upr M6 31 (up1 (M6 31) 0 0)) = M7
    intro H
    refine r_aloadn h (q := 0) 0 rfl (by decide +kernel : decode cX12_town 46 = .ok (.aload_n 0, 1)) ?_
    refine r_iconst h (v := 0) (by decide +kernel : decode cX12_town 47 = .ok (.iconst 0, 1)) ?_
    refine r_putI h f_Mod_340 at1M rfl rfl (by decide +kernel : decode cX12_town 48 = .ok (.putfield 340, 3)) ?_
    have H := H _ rfl
    revert H
    generalize (upr M7 1 (up1 (M7 1) 50 0)) = M8
    intro H
    refine r_iconst h (v := 0) (by decide +kernel : decode cX12_town 51 = .ok (.iconst 0, 1)) ?_
    refine r_istoren h (q := 1) (L' := [(1, vi 0), (0, vr 1)]) (by decide) rfl (by decide +kernel : decode cX12_town 52 = .ok (.istore_n 1, 1)) ?_
    refine r_drop h [1, 0] rfl ?_
    exact H
  · have H := H2 hc
    refine r_aloadn h (q := 0) 0 rfl (by decide +kernel : decode cX12_town 12 = .ok (.aload_n 0, 1)) ?_
    refine r_getI h f_Mod_183 at1M (by decide +kernel : decode cX12_town 13 = .ok (.getfield 183, 3)) ?_
    exact r_iret h rfl (by decide +kernel : decode cX12_town 16 = .ok (.ireturn, 1)) rfl ⟨rfl, _, rfl, H⟩
set_option maxHeartbeats 4000000 in
set_option maxRecDepth 100000 in
theorem w_Mod_town_53 {P : Int → Mm → Prop} {K : Nat → Rr → Nat → List (Nat × AV) → List AV → Mm → Prop} (h : EK shM yX12_town cX12_town 2 (some .int) 7 NM NM (QI RRM P) K) (x1 : Int) (M : Mm)
    (H : (rng x1) ∧ (4 ≤ x1 → (P 0 M)) ∧ (¬ (4 ≤ x1) → ((0 ≤ x1 ∧ x1 < 4) ∧ ∀ M1 : Mm, M1 = (upr M 38 (up1 (M 38) x1.toNat 0)) → K NM RRM 53 [(0, vr 1), (1, vi (x1 + 1))] [] M1))) :
    K NM RRM 53 [(0, vr 1), (1, vi x1)] [] M := by
  refine r_iloadn h (q := 1) 1 rfl (by decide +kernel : decode cX12_town 53 = .ok (.iload_n 1, 1)) ?_
  refine r_iconst h (v := 4) (by decide +kernel : decode cX12_town 54 = .ok (.iconst 4, 1)) ?_
  obtain ⟨g1, H⟩ := H
  obtain ⟨H1, H2⟩ := H
  refine r_icmp_ge h 71 g1 (by decide) (by decide) (by decide +kernel : decode cX12_town 55 = .ok (.if_icmp .ge 16, 3)) (fun hc => ?_) (fun hc => ?_)
  · have H := H1 hc
    refine r_iconst h (v := 0) (by decide +kernel : decode cX12_town 71 = .ok (.iconst 0, 1)) ?_
    exact r_iret h rfl (by decide +kernel : decode cX12_town 72 = .ok (.ireturn, 1)) rfl ⟨rfl, _, rfl, H⟩
  · have H := H2 hc
    refine r_aloadn h (q := 0) 0 rfl (by decide +kernel : decode cX12_town 58 = .ok (.aload_n 0, 1)) ?_
    refine r_getR h (r := 38) f_Mod_120 at1M rfl (by decide) (by decide +kernel : decode cX12_town 59 = .ok (.getfield 120, 3)) ?_
    refine r_iloadn h (q := 1) 1 rfl (by decide +kernel : decode cX12_town 62 = .ok (.iload_n 1, 1)) ?_
    refine r_iconst h (v := 0) (by decide +kernel : decode cX12_town 63 = .ok (.iconst 0, 1)) ?_
    obtain ⟨g1, H⟩ := H
    refine r_zast h x1.toNat rfl atM_38 g1 (by decide) (by decide) (by decide +kernel : decode cX12_town 64 = .ok (.bastore, 1)) ?_
    have H := H _ rfl
    revert H
    generalize (upr M 38 (up1 (M 38) x1.toNat 0)) = M1
    intro H
    refine r_iinc h (i := 1) (v := 1) (L' := [(1, vi (x1 + 1)), (0, vr 1)]) 1 rfl (by decide) rfl (by decide +kernel : decode cX12_town 65 = .ok (.iinc 1 1, 3)) ?_
    refine r_goto h 53 (by decide) (by decide +kernel : decode cX12_town 68 = .ok (.goto (-15), 3)) ?_
    refine r_drop h [1, 0] rfl ?_
    exact H
set_option maxHeartbeats 4000000 in
set_option maxRecDepth 100000 in
theorem w_Mod_run_0 {P : Int → Mm → Prop} {K : Nat → Rr → Nat → List (Nat × AV) → List AV → Mm → Prop} (h : EK shM yX12_run cX12_run 1 (some .int) 7 NM NM (QI RRM P) K)  (M : Mm)
    (H : ∀ M1 : Mm, M1 = (upr M 1 (up1 (M 1) 0 0)) → ∃ P2 : Mm → Prop, S_Mod_keeps  M1 P2 ∧ ∀ M2 : Mm, P2 M2 → ∃ P3 : Int → Mm → Prop, S_Mod_runs  M2 P3 ∧ ∀ (r2 : Int) (M3 : Mm), P3 r2 M3 → P r2 M3) :
    K NM RRM 0 [(0, vr 1)] [] M := by
  refine r_aloadn h (q := 0) 0 rfl (by decide +kernel : decode cX12_run 0 = .ok (.aload_n 0, 1)) ?_
  refine r_iconst h (v := 0) (by decide +kernel : decode cX12_run 1 = .ok (.iconst 0, 1)) ?_
  refine r_putI h f_Mod_147 at1M rfl rfl (by decide +kernel : decode cX12_run 2 = .ok (.putfield 147, 3)) ?_
  have H := H _ rfl
  revert H
  generalize (upr M 1 (up1 (M 1) 0 0)) = M1
  intro H
  refine r_aloadn h (q := 0) 0 rfl (by decide +kernel : decode cX12_run 5 = .ok (.aload_n 0, 1)) ?_
  obtain ⟨P2, hSP2, H⟩ := H
  refine r_callV h (as := []) (S := []) (b := 1) m_Mod_397 hSP2 (by decide) (Nat.le_refl _) rfl at1M rfl (Nat.le_of_ble_eq_true rfl) (by decide +kernel : decode cX12_run 6 = .ok (.invokevirtual 397, 3)) ?_
  rintro _ _ M2 ⟨rfl, rfl, hP⟩
  have H := H M2 hP
  show K NM RRM _ _ [] _
  refine r_aloadn h (q := 0) 0 rfl (by decide +kernel : decode cX12_run 9 = .ok (.aload_n 0, 1)) ?_
  obtain ⟨P3, hSP3, H⟩ := H
  refine r_callV h (as := []) (S := []) (b := 1) m_Mod_403 hSP3 (by decide) (Nat.le_refl _) rfl at1M rfl (Nat.le_of_ble_eq_true rfl) (by decide +kernel : decode cX12_run 10 = .ok (.invokevirtual 403, 3)) ?_
  rintro _ _ M3 ⟨rfl, r2, rfl, hP⟩
  have H := H r2 M3 hP
  show K NM RRM _ _ [vi r2] _
  exact r_iret h rfl (by decide +kernel : decode cX12_run 13 = .ok (.ireturn, 1)) rfl ⟨rfl, _, rfl, H⟩
theorem W_Mod_run  (M : Mm) {P : Int → Mm → Prop} (H : ∀ M1 : Mm, M1 = (upr M 1 (up1 (M 1) 0 0)) → ∃ P2 : Mm → Prop, S_Mod_keeps  M1 P2 ∧ ∀ M2 : Mm, P2 M2 → ∃ P3 : Int → Mm → Prop, S_Mod_runs  M2 P3 ∧ ∀ (r2 : Int) (M3 : Mm), P3 r2 M3 → P r2 M3) : S_Mod_run  M P := e_Mod_run  M (fun _ h => w_Mod_run_0 h  M H)
set_option maxHeartbeats 4000000 in
set_option maxRecDepth 100000 in
theorem w_Mod_goes_0 {P : Int → Mm → Prop} {K : Nat → Rr → Nat → List (Nat × AV) → List AV → Mm → Prop} (h : EK shM yX12_goes cX12_goes 3 (some .boolean) 7 NM NM (QI RRM P) K) (x1 : Int) (M : Mm)
    (H : (0 ≤ x1 ∧ x1 < 240) ∧ (rng (M 27 x1.toNat)) ∧ ((M 27 x1.toNat) ≠ 0 → ((rng (M 27 x1.toNat)) ∧ ((M 27 x1.toNat) ≠ 1 → ((rng (M 27 x1.toNat)) ∧ ((M 27 x1.toNat) ≠ 2 → ((0 ≤ x1 ∧ x1 < 240) ∧ (rng (M 34 2)) ∧ (rng (M 29 x1.toNat)) ∧ ((M 29 x1.toNat) ≤ (M 34 2) → ((0 ≤ x1 ∧ x1 < 240) ∧ ∃ P1 : Mm → Prop, S_Mod_sells (M 29 x1.toNat) M P1 ∧ ∀ M1 : Mm, P1 M1 → P 1 M1)) ∧ (¬ ((M 29 x1.toNat) ≤ (M 34 2)) → (P 0 M)))) ∧ ((M 27 x1.toNat) = 2 → (∃ P2 : Int → Mm → Prop, S_Mod_runs  M P2 ∧ ∀ (r2 : Int) (M2 : Mm), P2 r2 M2 → P 1 M2)))) ∧ ((M 27 x1.toNat) = 1 → ((0 ≤ x1 ∧ x1 < 240) ∧ ∀ M3 : Mm, M3 = (upr M 34 (up1 (M 34) 4 (xorI (M 34 4) (shlI 1 (M 28 x1.toNat))))) → P 1 M3)))) ∧ ((M 27 x1.toNat) = 0 → ((0 ≤ x1 ∧ x1 < 240) ∧ ∃ P4 : Int → Mm → Prop, S_Mod_isHouse (M 29 x1.toNat) M P4 ∧ ∀ (r3 : Int) (M4 : Mm), P4 r3 M4 → (rng r3) ∧ (r3 ≠ 0 → ((0 ≤ x1 ∧ x1 < 240) ∧ (0 ≤ x1 ∧ x1 < 240) ∧ ∃ P5 : Mm → Prop, S_Mod_laysAt (M4 28 x1.toNat) (M4 29 x1.toNat) M4 P5 ∧ ∀ M5 : Mm, P5 M5 → P 1 M5)) ∧ (r3 = 0 → (P 0 M4))))) :
    K NM RRM 0 [(0, vr 1), (1, vi x1)] [] M := by
  refine r_aloadn h (q := 0) 0 rfl (by decide +kernel : decode cX12_goes 0 = .ok (.aload_n 0, 1)) ?_
  refine r_getR h (r := 27) f_Mod_87 at1M rfl (by decide) (by decide +kernel : decode cX12_goes 1 = .ok (.getfield 87, 3)) ?_
  refine r_iloadn h (q := 1) 1 rfl (by decide +kernel : decode cX12_goes 4 = .ok (.iload_n 1, 1)) ?_
  obtain ⟨g1, H⟩ := H
  refine r_iald h x1.toNat rfl atM_27 g1 (by decide) (by decide +kernel : decode cX12_goes 5 = .ok (.iaload, 1)) ?_
  refine r_istoren h (q := 2) (L' := [(2, vi (M 27 x1.toNat)), (0, vr 1), (1, vi x1)]) (by decide) rfl (by decide +kernel : decode cX12_goes 6 = .ok (.istore_n 2, 1)) ?_
  refine r_iloadn h (q := 2) 0 rfl (by decide +kernel : decode cX12_goes 7 = .ok (.iload_n 2, 1)) ?_
  obtain ⟨g1, H⟩ := H
  obtain ⟨H1, H2⟩ := H
  refine r_if_ne h 45 g1 (by decide) (by decide +kernel : decode cX12_goes 8 = .ok (.ifCond .ne 37, 3)) (fun hc => ?_) (fun hc => ?_)
  · have H := H1 hc
    refine r_iloadn h (q := 2) 0 rfl (by decide +kernel : decode cX12_goes 45 = .ok (.iload_n 2, 1)) ?_
    refine r_iconst h (v := 1) (by decide +kernel : decode cX12_goes 46 = .ok (.iconst 1, 1)) ?_
    obtain ⟨g1, H⟩ := H
    obtain ⟨H1, H2⟩ := H
    refine r_icmp_ne h 70 g1 (by decide) (by decide) (by decide +kernel : decode cX12_goes 47 = .ok (.if_icmp .ne 23, 3)) (fun hc => ?_) (fun hc => ?_)
    · have H := H1 hc
      refine r_iloadn h (q := 2) 0 rfl (by decide +kernel : decode cX12_goes 70 = .ok (.iload_n 2, 1)) ?_
      refine r_iconst h (v := 2) (by decide +kernel : decode cX12_goes 71 = .ok (.iconst 2, 1)) ?_
      obtain ⟨g1, H⟩ := H
      obtain ⟨H1, H2⟩ := H
      refine r_icmp_ne h 83 g1 (by decide) (by decide) (by decide +kernel : decode cX12_goes 72 = .ok (.if_icmp .ne 11, 3)) (fun hc => ?_) (fun hc => ?_)
      · have H := H1 hc
        refine r_aloadn h (q := 0) 1 rfl (by decide +kernel : decode cX12_goes 83 = .ok (.aload_n 0, 1)) ?_
        refine r_getR h (r := 34) f_Mod_108 at1M rfl (by decide) (by decide +kernel : decode cX12_goes 84 = .ok (.getfield 108, 3)) ?_
        refine r_iconst h (v := 2) (by decide +kernel : decode cX12_goes 87 = .ok (.iconst 2, 1)) ?_
        refine r_iald h 2 rfl atM_34 (by decide) (by decide) (by decide +kernel : decode cX12_goes 88 = .ok (.iaload, 1)) ?_
        refine r_aloadn h (q := 0) 1 rfl (by decide +kernel : decode cX12_goes 89 = .ok (.aload_n 0, 1)) ?_
        refine r_getR h (r := 29) f_Mod_93 at1M rfl (by decide) (by decide +kernel : decode cX12_goes 90 = .ok (.getfield 93, 3)) ?_
        refine r_iloadn h (q := 1) 2 rfl (by decide +kernel : decode cX12_goes 93 = .ok (.iload_n 1, 1)) ?_
        obtain ⟨g1, H⟩ := H
        refine r_iald h x1.toNat rfl atM_29 g1 (by decide) (by decide +kernel : decode cX12_goes 94 = .ok (.iaload, 1)) ?_
        obtain ⟨g1, g2, H⟩ := H
        obtain ⟨H1, H2⟩ := H
        refine r_icmp_ge h 100 g1 g2 (by decide) (by decide +kernel : decode cX12_goes 95 = .ok (.if_icmp .ge 5, 3)) (fun hc => ?_) (fun hc => ?_)
        · have H := H1 hc
          refine r_aloadn h (q := 0) 1 rfl (by decide +kernel : decode cX12_goes 100 = .ok (.aload_n 0, 1)) ?_
          refine r_aloadn h (q := 0) 1 rfl (by decide +kernel : decode cX12_goes 101 = .ok (.aload_n 0, 1)) ?_
          refine r_getR h (r := 29) f_Mod_93 at1M rfl (by decide) (by decide +kernel : decode cX12_goes 102 = .ok (.getfield 93, 3)) ?_
          refine r_iloadn h (q := 1) 2 rfl (by decide +kernel : decode cX12_goes 105 = .ok (.iload_n 1, 1)) ?_
          obtain ⟨g1, H⟩ := H
          refine r_iald h x1.toNat rfl atM_29 g1 (by decide) (by decide +kernel : decode cX12_goes 106 = .ok (.iaload, 1)) ?_
          obtain ⟨P1, hSP1, H⟩ := H
          refine r_callV h (as := [vi (M 29 x1.toNat)]) (S := []) (b := 1) m_Mod_406 hSP1 (by decide) (Nat.le_refl _) rfl at1M rfl (Nat.le_of_ble_eq_true rfl) (by decide +kernel : decode cX12_goes 107 = .ok (.invokevirtual 406, 3)) ?_
          rintro _ _ M1 ⟨rfl, rfl, hP⟩
          have H := H M1 hP
          show K NM RRM _ _ [] _
          refine r_iconst h (v := 1) (by decide +kernel : decode cX12_goes 110 = .ok (.iconst 1, 1)) ?_
          exact r_zret h rfl (by decide) (by decide +kernel : decode cX12_goes 111 = .ok (.ireturn, 1)) rfl ⟨rfl, _, rfl, H⟩
        · have H := H2 hc
          refine r_iconst h (v := 0) (by decide +kernel : decode cX12_goes 98 = .ok (.iconst 0, 1)) ?_
          exact r_zret h rfl (by decide) (by decide +kernel : decode cX12_goes 99 = .ok (.ireturn, 1)) rfl ⟨rfl, _, rfl, H⟩
      · have H := H2 hc
        refine r_aloadn h (q := 0) 1 rfl (by decide +kernel : decode cX12_goes 75 = .ok (.aload_n 0, 1)) ?_
        obtain ⟨P2, hSP2, H⟩ := H
        refine r_callV h (as := []) (S := []) (b := 1) m_Mod_403 hSP2 (by decide) (Nat.le_refl _) rfl at1M rfl (Nat.le_of_ble_eq_true rfl) (by decide +kernel : decode cX12_goes 76 = .ok (.invokevirtual 403, 3)) ?_
        rintro _ _ M2 ⟨rfl, r2, rfl, hP⟩
        have H := H r2 M2 hP
        show K NM RRM _ _ [vi r2] _
        refine r_pop h rfl (by decide +kernel : decode cX12_goes 79 = .ok (.pop, 1)) ?_
        refine r_goto h 110 (by decide) (by decide +kernel : decode cX12_goes 80 = .ok (.goto 30, 3)) ?_
        refine r_iconst h (v := 1) (by decide +kernel : decode cX12_goes 110 = .ok (.iconst 1, 1)) ?_
        exact r_zret h rfl (by decide) (by decide +kernel : decode cX12_goes 111 = .ok (.ireturn, 1)) rfl ⟨rfl, _, rfl, H⟩
    · have H := H2 hc
      refine r_aloadn h (q := 0) 1 rfl (by decide +kernel : decode cX12_goes 50 = .ok (.aload_n 0, 1)) ?_
      refine r_getR h (r := 34) f_Mod_108 at1M rfl (by decide) (by decide +kernel : decode cX12_goes 51 = .ok (.getfield 108, 3)) ?_
      refine r_iconst h (v := 4) (by decide +kernel : decode cX12_goes 54 = .ok (.iconst 4, 1)) ?_
      refine r_dup2 h rfl rfl (by decide +kernel : decode cX12_goes 55 = .ok (.dup2, 1)) ?_
      refine r_iald h 4 rfl atM_34 (by decide) (by decide) (by decide +kernel : decode cX12_goes 56 = .ok (.iaload, 1)) ?_
      refine r_iconst h (v := 1) (by decide +kernel : decode cX12_goes 57 = .ok (.iconst 1, 1)) ?_
      refine r_aloadn h (q := 0) 1 rfl (by decide +kernel : decode cX12_goes 58 = .ok (.aload_n 0, 1)) ?_
      refine r_getR h (r := 28) f_Mod_90 at1M rfl (by decide) (by decide +kernel : decode cX12_goes 59 = .ok (.getfield 90, 3)) ?_
      refine r_iloadn h (q := 1) 2 rfl (by decide +kernel : decode cX12_goes 62 = .ok (.iload_n 1, 1)) ?_
      obtain ⟨g1, H⟩ := H
      refine r_iald h x1.toNat rfl atM_28 g1 (by decide) (by decide +kernel : decode cX12_goes 63 = .ok (.iaload, 1)) ?_
      refine r_ishl h (by decide +kernel : decode cX12_goes 64 = .ok (.ishl, 1)) ?_
      refine r_ixor h (by decide +kernel : decode cX12_goes 65 = .ok (.ixor, 1)) ?_
      refine r_iast h 4 rfl atM_34 (by decide) (by decide) (by decide +kernel : decode cX12_goes 66 = .ok (.iastore, 1)) ?_
      have H := H _ rfl
      revert H
      generalize (upr M 34 (up1 (M 34) 4 (xorI (M 34 4) (shlI 1 (M 28 x1.toNat))))) = M3
      intro H
      refine r_goto h 110 (by decide) (by decide +kernel : decode cX12_goes 67 = .ok (.goto 43, 3)) ?_
      refine r_iconst h (v := 1) (by decide +kernel : decode cX12_goes 110 = .ok (.iconst 1, 1)) ?_
      exact r_zret h rfl (by decide) (by decide +kernel : decode cX12_goes 111 = .ok (.ireturn, 1)) rfl ⟨rfl, _, rfl, H⟩
  · have H := H2 hc
    refine r_aloadn h (q := 0) 1 rfl (by decide +kernel : decode cX12_goes 11 = .ok (.aload_n 0, 1)) ?_
    refine r_aloadn h (q := 0) 1 rfl (by decide +kernel : decode cX12_goes 12 = .ok (.aload_n 0, 1)) ?_
    refine r_getR h (r := 29) f_Mod_93 at1M rfl (by decide) (by decide +kernel : decode cX12_goes 13 = .ok (.getfield 93, 3)) ?_
    refine r_iloadn h (q := 1) 2 rfl (by decide +kernel : decode cX12_goes 16 = .ok (.iload_n 1, 1)) ?_
    obtain ⟨g1, H⟩ := H
    refine r_iald h x1.toNat rfl atM_29 g1 (by decide) (by decide +kernel : decode cX12_goes 17 = .ok (.iaload, 1)) ?_
    obtain ⟨P4, hSP4, H⟩ := H
    refine r_callV h (as := [vi (M 29 x1.toNat)]) (S := []) (b := 1) m_Mod_390 hSP4 (by decide) (Nat.le_refl _) rfl at1M rfl (Nat.le_of_ble_eq_true rfl) (by decide +kernel : decode cX12_goes 18 = .ok (.invokevirtual 390, 3)) ?_
    rintro _ _ M4 ⟨rfl, r3, rfl, hP⟩
    have H := H r3 M4 hP
    show K NM RRM _ _ [vi r3] _
    obtain ⟨g1, H⟩ := H
    obtain ⟨H1, H2⟩ := H
    refine r_if_ne h 26 g1 (by decide) (by decide +kernel : decode cX12_goes 21 = .ok (.ifCond .ne 5, 3)) (fun hc => ?_) (fun hc => ?_)
    · have H := H1 hc
      refine r_aloadn h (q := 0) 1 rfl (by decide +kernel : decode cX12_goes 26 = .ok (.aload_n 0, 1)) ?_
      refine r_aloadn h (q := 0) 1 rfl (by decide +kernel : decode cX12_goes 27 = .ok (.aload_n 0, 1)) ?_
      refine r_getR h (r := 28) f_Mod_90 at1M rfl (by decide) (by decide +kernel : decode cX12_goes 28 = .ok (.getfield 90, 3)) ?_
      refine r_iloadn h (q := 1) 2 rfl (by decide +kernel : decode cX12_goes 31 = .ok (.iload_n 1, 1)) ?_
      obtain ⟨g1, H⟩ := H
      refine r_iald h x1.toNat rfl atM_28 g1 (by decide) (by decide +kernel : decode cX12_goes 32 = .ok (.iaload, 1)) ?_
      refine r_aloadn h (q := 0) 1 rfl (by decide +kernel : decode cX12_goes 33 = .ok (.aload_n 0, 1)) ?_
      refine r_getR h (r := 29) f_Mod_93 at1M rfl (by decide) (by decide +kernel : decode cX12_goes 34 = .ok (.getfield 93, 3)) ?_
      refine r_iloadn h (q := 1) 2 rfl (by decide +kernel : decode cX12_goes 37 = .ok (.iload_n 1, 1)) ?_
      obtain ⟨g1, H⟩ := H
      refine r_iald h x1.toNat rfl atM_29 g1 (by decide) (by decide +kernel : decode cX12_goes 38 = .ok (.iaload, 1)) ?_
      obtain ⟨P5, hSP5, H⟩ := H
      refine r_callV h (as := [vi (M4 28 x1.toNat), vi (M4 29 x1.toNat)]) (S := []) (b := 1) m_Mod_400 hSP5 (by decide) (Nat.le_refl _) rfl at1M rfl (Nat.le_of_ble_eq_true rfl) (by decide +kernel : decode cX12_goes 39 = .ok (.invokevirtual 400, 3)) ?_
      rintro _ _ M5 ⟨rfl, rfl, hP⟩
      have H := H M5 hP
      show K NM RRM _ _ [] _
      refine r_goto h 110 (by decide) (by decide +kernel : decode cX12_goes 42 = .ok (.goto 68, 3)) ?_
      refine r_iconst h (v := 1) (by decide +kernel : decode cX12_goes 110 = .ok (.iconst 1, 1)) ?_
      exact r_zret h rfl (by decide) (by decide +kernel : decode cX12_goes 111 = .ok (.ireturn, 1)) rfl ⟨rfl, _, rfl, H⟩
    · have H := H2 hc
      refine r_iconst h (v := 0) (by decide +kernel : decode cX12_goes 24 = .ok (.iconst 0, 1)) ?_
      exact r_zret h rfl (by decide) (by decide +kernel : decode cX12_goes 25 = .ok (.ireturn, 1)) rfl ⟨rfl, _, rfl, H⟩
theorem W_Mod_goes (x1 : Int) (M : Mm) {P : Int → Mm → Prop} (H : (0 ≤ x1 ∧ x1 < 240) ∧ (rng (M 27 x1.toNat)) ∧ ((M 27 x1.toNat) ≠ 0 → ((rng (M 27 x1.toNat)) ∧ ((M 27 x1.toNat) ≠ 1 → ((rng (M 27 x1.toNat)) ∧ ((M 27 x1.toNat) ≠ 2 → ((0 ≤ x1 ∧ x1 < 240) ∧ (rng (M 34 2)) ∧ (rng (M 29 x1.toNat)) ∧ ((M 29 x1.toNat) ≤ (M 34 2) → ((0 ≤ x1 ∧ x1 < 240) ∧ ∃ P1 : Mm → Prop, S_Mod_sells (M 29 x1.toNat) M P1 ∧ ∀ M1 : Mm, P1 M1 → P 1 M1)) ∧ (¬ ((M 29 x1.toNat) ≤ (M 34 2)) → (P 0 M)))) ∧ ((M 27 x1.toNat) = 2 → (∃ P2 : Int → Mm → Prop, S_Mod_runs  M P2 ∧ ∀ (r2 : Int) (M2 : Mm), P2 r2 M2 → P 1 M2)))) ∧ ((M 27 x1.toNat) = 1 → ((0 ≤ x1 ∧ x1 < 240) ∧ ∀ M3 : Mm, M3 = (upr M 34 (up1 (M 34) 4 (xorI (M 34 4) (shlI 1 (M 28 x1.toNat))))) → P 1 M3)))) ∧ ((M 27 x1.toNat) = 0 → ((0 ≤ x1 ∧ x1 < 240) ∧ ∃ P4 : Int → Mm → Prop, S_Mod_isHouse (M 29 x1.toNat) M P4 ∧ ∀ (r3 : Int) (M4 : Mm), P4 r3 M4 → (rng r3) ∧ (r3 ≠ 0 → ((0 ≤ x1 ∧ x1 < 240) ∧ (0 ≤ x1 ∧ x1 < 240) ∧ ∃ P5 : Mm → Prop, S_Mod_laysAt (M4 28 x1.toNat) (M4 29 x1.toNat) M4 P5 ∧ ∀ M5 : Mm, P5 M5 → P 1 M5)) ∧ (r3 = 0 → (P 0 M4))))) : S_Mod_goes x1 M P := e_Mod_goes x1 M (fun _ h => w_Mod_goes_0 h x1 M H)
set_option maxHeartbeats 4000000 in
set_option maxRecDepth 100000 in
theorem w_Mod_till_0 {P : Int → Mm → Prop} {K : Nat → Rr → Nat → List (Nat × AV) → List AV → Mm → Prop} (h : EK shM yX12_till cX12_till 3 (some .int) 7 NM NM (QI RRM P) K) (x1 : Int) (M : Mm)
    (H : ∀ M1 : Mm, M1 = (upr M 1 (up1 (M 1) 0 0)) → ∃ P2 : Int → Mm → Prop, S_Mod_within x1 1 693 M1 P2 ∧ ∀ (r1 : Int) (M2 : Mm), P2 r1 M2 → (rng r1) ∧ (r1 ≠ 0 → (∃ P3 : Mm → Prop, S_Mod_copies 34 33 0 35 33 0 M2 P3 ∧ ∀ M3 : Mm, P3 M3 → K NM RRM 33 [(0, vr 1), (1, vi x1), (2, vi 0)] [] M3)) ∧ (r1 = 0 → (P (-1) M2))) :
    K NM RRM 0 [(0, vr 1), (1, vi x1)] [] M := by
  refine r_aloadn h (q := 0) 0 rfl (by decide +kernel : decode cX12_till 0 = .ok (.aload_n 0, 1)) ?_
  refine r_iconst h (v := 0) (by decide +kernel : decode cX12_till 1 = .ok (.iconst 0, 1)) ?_
  refine r_putI h f_Mod_147 at1M rfl rfl (by decide +kernel : decode cX12_till 2 = .ok (.putfield 147, 3)) ?_
  have H := H _ rfl
  revert H
  generalize (upr M 1 (up1 (M 1) 0 0)) = M1
  intro H
  refine r_iloadn h (q := 1) 1 rfl (by decide +kernel : decode cX12_till 5 = .ok (.iload_n 1, 1)) ?_
  refine r_iconst h (v := 1) (by decide +kernel : decode cX12_till 6 = .ok (.iconst 1, 1)) ?_
  refine r_sipush h (v := 693) (by decide) (by decide +kernel : decode cX12_till 7 = .ok (.sipush 693, 3)) ?_
  obtain ⟨P2, hSP2, H⟩ := H
  refine r_callS h (as := [vi x1, vi 1, vi 693]) (S := []) m_Mod_275 hSP2 (by decide) (Nat.le_refl _) rfl rfl (Nat.le_of_ble_eq_true rfl) (by decide +kernel : decode cX12_till 10 = .ok (.invokestatic 275, 3)) ?_
  rintro _ _ M2 ⟨rfl, r1, rfl, hP⟩
  have H := H r1 M2 hP
  show K NM RRM _ _ [vi r1] _
  obtain ⟨g1, H⟩ := H
  obtain ⟨H1, H2⟩ := H
  refine r_if_ne h 18 g1 (by decide) (by decide +kernel : decode cX12_till 13 = .ok (.ifCond .ne 5, 3)) (fun hc => ?_) (fun hc => ?_)
  · have H := H1 hc
    refine r_aloadn h (q := 0) 0 rfl (by decide +kernel : decode cX12_till 18 = .ok (.aload_n 0, 1)) ?_
    refine r_getR h (r := 34) f_Mod_108 at1M rfl (by decide) (by decide +kernel : decode cX12_till 19 = .ok (.getfield 108, 3)) ?_
    refine r_iconst h (v := 0) (by decide +kernel : decode cX12_till 22 = .ok (.iconst 0, 1)) ?_
    refine r_aloadn h (q := 0) 0 rfl (by decide +kernel : decode cX12_till 23 = .ok (.aload_n 0, 1)) ?_
    refine r_getR h (r := 35) f_Mod_111 at1M rfl (by decide) (by decide +kernel : decode cX12_till 24 = .ok (.getfield 111, 3)) ?_
    refine r_iconst h (v := 0) (by decide +kernel : decode cX12_till 27 = .ok (.iconst 0, 1)) ?_
    obtain ⟨P3, hSP3, H⟩ := H
    refine r_callS h (as := [vr 34, vi 0, vr 35, vi 0]) (S := []) m_Mod_393 hSP3 (by decide) (Nat.le_refl _) rfl rfl (Nat.le_of_ble_eq_true rfl) (by decide +kernel : decode cX12_till 28 = .ok (.invokestatic 393, 3)) ?_
    rintro _ _ M3 ⟨rfl, rfl, hP⟩
    have H := H M3 hP
    show K NM RRM _ _ [] _
    refine r_iconst h (v := 0) (by decide +kernel : decode cX12_till 31 = .ok (.iconst 0, 1)) ?_
    refine r_istoren h (q := 2) (L' := [(2, vi 0), (0, vr 1), (1, vi x1)]) (by decide) rfl (by decide +kernel : decode cX12_till 32 = .ok (.istore_n 2, 1)) ?_
    refine r_drop h [1, 2, 0] rfl ?_
    exact H
  · have H := H2 hc
    refine r_iconst h (v := (-1)) (by decide +kernel : decode cX12_till 16 = .ok (.iconst (-1), 1)) ?_
    exact r_iret h rfl (by decide +kernel : decode cX12_till 17 = .ok (.ireturn, 1)) rfl ⟨rfl, _, rfl, H⟩
set_option maxHeartbeats 4000000 in
set_option maxRecDepth 100000 in
theorem w_Mod_till_33 {P : Int → Mm → Prop} {K : Nat → Rr → Nat → List (Nat × AV) → List AV → Mm → Prop} (h : EK shM yX12_till cX12_till 3 (some .int) 7 NM NM (QI RRM P) K) (x1 : Int) (x2 : Int) (M : Mm)
    (H : (rng x2) ∧ (100 ≤ x2 → (K NM RRM 60 [(0, vr 1), (2, vi x2)] [] M)) ∧ (¬ (100 ≤ x2) → (∃ P1 : Int → Mm → Prop, S_Mod_together 19 M P1 ∧ ∀ (r1 : Int) (M1 : Mm), P1 r1 M1 → (rng r1) ∧ (rng x1) ∧ (x1 ≤ r1 → (K NM RRM 60 [(0, vr 1), (2, vi x2)] [] M1)) ∧ (¬ (x1 ≤ r1) → (∃ P2 : Int → Mm → Prop, S_Mod_runs  M1 P2 ∧ ∀ (r2 : Int) (M2 : Mm), P2 r2 M2 → K NM RRM 33 [(0, vr 1), (1, vi x1), (2, vi (x2 + 1))] [] M2))))) :
    K NM RRM 33 [(0, vr 1), (1, vi x1), (2, vi x2)] [] M := by
  refine r_iloadn h (q := 2) 2 rfl (by decide +kernel : decode cX12_till 33 = .ok (.iload_n 2, 1)) ?_
  refine r_bipush h (v := 100) (by decide) (by decide +kernel : decode cX12_till 34 = .ok (.bipush 100, 2)) ?_
  obtain ⟨g1, H⟩ := H
  obtain ⟨H1, H2⟩ := H
  refine r_icmp_ge h 60 g1 (by decide) (by decide) (by decide +kernel : decode cX12_till 36 = .ok (.if_icmp .ge 24, 3)) (fun hc => ?_) (fun hc => ?_)
  · have H := H1 hc
    refine r_drop h [0, 2] rfl ?_
    exact H
  · have H := H2 hc
    refine r_aloadn h (q := 0) 0 rfl (by decide +kernel : decode cX12_till 39 = .ok (.aload_n 0, 1)) ?_
    refine r_bipush h (v := 19) (by decide) (by decide +kernel : decode cX12_till 40 = .ok (.bipush 19, 2)) ?_
    obtain ⟨P1, hSP1, H⟩ := H
    refine r_callV h (as := [vi 19]) (S := []) (b := 1) m_Mod_435 hSP1 (by decide) (Nat.le_refl _) rfl at1M rfl (Nat.le_of_ble_eq_true rfl) (by decide +kernel : decode cX12_till 42 = .ok (.invokevirtual 435, 3)) ?_
    rintro _ _ M1 ⟨rfl, r1, rfl, hP⟩
    have H := H r1 M1 hP
    show K NM RRM _ _ [vi r1] _
    refine r_iloadn h (q := 1) 1 rfl (by decide +kernel : decode cX12_till 45 = .ok (.iload_n 1, 1)) ?_
    obtain ⟨g1, g2, H⟩ := H
    obtain ⟨H1, H2⟩ := H
    refine r_icmp_ge h 60 g1 g2 (by decide) (by decide +kernel : decode cX12_till 46 = .ok (.if_icmp .ge 14, 3)) (fun hc => ?_) (fun hc => ?_)
    · have H := H1 hc
      refine r_drop h [0, 2] rfl ?_
      exact H
    · have H := H2 hc
      refine r_aloadn h (q := 0) 0 rfl (by decide +kernel : decode cX12_till 49 = .ok (.aload_n 0, 1)) ?_
      obtain ⟨P2, hSP2, H⟩ := H
      refine r_callV h (as := []) (S := []) (b := 1) m_Mod_403 hSP2 (by decide) (Nat.le_refl _) rfl at1M rfl (Nat.le_of_ble_eq_true rfl) (by decide +kernel : decode cX12_till 50 = .ok (.invokevirtual 403, 3)) ?_
      rintro _ _ M2 ⟨rfl, r2, rfl, hP⟩
      have H := H r2 M2 hP
      show K NM RRM _ _ [vi r2] _
      refine r_pop h rfl (by decide +kernel : decode cX12_till 53 = .ok (.pop, 1)) ?_
      refine r_iinc h (i := 2) (v := 1) (L' := [(2, vi (x2 + 1)), (0, vr 1), (1, vi x1)]) 2 rfl (by decide) rfl (by decide +kernel : decode cX12_till 54 = .ok (.iinc 2 1, 3)) ?_
      refine r_goto h 33 (by decide) (by decide +kernel : decode cX12_till 57 = .ok (.goto (-24), 3)) ?_
      refine r_drop h [1, 2, 0] rfl ?_
      exact H
set_option maxHeartbeats 4000000 in
set_option maxRecDepth 100000 in
theorem w_Mod_till_60 {P : Int → Mm → Prop} {K : Nat → Rr → Nat → List (Nat × AV) → List AV → Mm → Prop} (h : EK shM yX12_till cX12_till 3 (some .int) 7 NM NM (QI RRM P) K) (x2 : Int) (M : Mm)
    (H : ∃ P1 : Mm → Prop, S_Mod_copies 35 33 0 34 33 0 M P1 ∧ ∀ M1 : Mm, P1 M1 → (rng x2) ∧ (x2 ≠ 100 → (P x2 M1)) ∧ (x2 = 100 → (P (-1) M1))) :
    K NM RRM 60 [(0, vr 1), (2, vi x2)] [] M := by
  refine r_aloadn h (q := 0) 0 rfl (by decide +kernel : decode cX12_till 60 = .ok (.aload_n 0, 1)) ?_
  refine r_getR h (r := 35) f_Mod_111 at1M rfl (by decide) (by decide +kernel : decode cX12_till 61 = .ok (.getfield 111, 3)) ?_
  refine r_iconst h (v := 0) (by decide +kernel : decode cX12_till 64 = .ok (.iconst 0, 1)) ?_
  refine r_aloadn h (q := 0) 0 rfl (by decide +kernel : decode cX12_till 65 = .ok (.aload_n 0, 1)) ?_
  refine r_getR h (r := 34) f_Mod_108 at1M rfl (by decide) (by decide +kernel : decode cX12_till 66 = .ok (.getfield 108, 3)) ?_
  refine r_iconst h (v := 0) (by decide +kernel : decode cX12_till 69 = .ok (.iconst 0, 1)) ?_
  obtain ⟨P1, hSP1, H⟩ := H
  refine r_callS h (as := [vr 35, vi 0, vr 34, vi 0]) (S := []) m_Mod_393 hSP1 (by decide) (Nat.le_refl _) rfl rfl (Nat.le_of_ble_eq_true rfl) (by decide +kernel : decode cX12_till 70 = .ok (.invokestatic 393, 3)) ?_
  rintro _ _ M1 ⟨rfl, rfl, hP⟩
  have H := H M1 hP
  show K NM RRM _ _ [] _
  refine r_iloadn h (q := 2) 1 rfl (by decide +kernel : decode cX12_till 73 = .ok (.iload_n 2, 1)) ?_
  refine r_bipush h (v := 100) (by decide) (by decide +kernel : decode cX12_till 74 = .ok (.bipush 100, 2)) ?_
  obtain ⟨g1, H⟩ := H
  obtain ⟨H1, H2⟩ := H
  refine r_icmp_ne h 83 g1 (by decide) (by decide) (by decide +kernel : decode cX12_till 76 = .ok (.if_icmp .ne 7, 3)) (fun hc => ?_) (fun hc => ?_)
  · have H := H1 hc
    refine r_iloadn h (q := 2) 1 rfl (by decide +kernel : decode cX12_till 83 = .ok (.iload_n 2, 1)) ?_
    exact r_iret h rfl (by decide +kernel : decode cX12_till 84 = .ok (.ireturn, 1)) rfl ⟨rfl, _, rfl, H⟩
  · have H := H2 hc
    refine r_iconst h (v := (-1)) (by decide +kernel : decode cX12_till 79 = .ok (.iconst (-1), 1)) ?_
    refine r_goto h 84 (by decide) (by decide +kernel : decode cX12_till 80 = .ok (.goto 4, 3)) ?_
    exact r_iret h rfl (by decide +kernel : decode cX12_till 84 = .ok (.ireturn, 1)) rfl ⟨rfl, _, rfl, H⟩
set_option maxHeartbeats 4000000 in
set_option maxRecDepth 100000 in
theorem w_Mod_dry_0 {P : Int → Mm → Prop} {K : Nat → Rr → Nat → List (Nat × AV) → List AV → Mm → Prop} (h : EK shM yX12_dry cX12_dry 3 (some .int) 7 NM NM (QI RRM P) K) (x1 : Int) (M : Mm)
    (H : ∀ M1 : Mm, M1 = (upr M 1 (up1 (M 1) 0 0)) → ∃ P2 : Int → Mm → Prop, S_Mod_within x1 0 99 M1 P2 ∧ ∀ (r1 : Int) (M2 : Mm), P2 r1 M2 → (rng r1) ∧ (r1 ≠ 0 → (∃ P3 : Mm → Prop, S_Mod_copies 34 33 0 35 33 0 M2 P3 ∧ ∀ M3 : Mm, P3 M3 → K NM RRM 32 [(0, vr 1), (1, vi x1), (2, vi 0)] [] M3)) ∧ (r1 = 0 → (P (-1) M2))) :
    K NM RRM 0 [(0, vr 1), (1, vi x1)] [] M := by
  refine r_aloadn h (q := 0) 0 rfl (by decide +kernel : decode cX12_dry 0 = .ok (.aload_n 0, 1)) ?_
  refine r_iconst h (v := 0) (by decide +kernel : decode cX12_dry 1 = .ok (.iconst 0, 1)) ?_
  refine r_putI h f_Mod_147 at1M rfl rfl (by decide +kernel : decode cX12_dry 2 = .ok (.putfield 147, 3)) ?_
  have H := H _ rfl
  revert H
  generalize (upr M 1 (up1 (M 1) 0 0)) = M1
  intro H
  refine r_iloadn h (q := 1) 1 rfl (by decide +kernel : decode cX12_dry 5 = .ok (.iload_n 1, 1)) ?_
  refine r_iconst h (v := 0) (by decide +kernel : decode cX12_dry 6 = .ok (.iconst 0, 1)) ?_
  refine r_bipush h (v := 99) (by decide) (by decide +kernel : decode cX12_dry 7 = .ok (.bipush 99, 2)) ?_
  obtain ⟨P2, hSP2, H⟩ := H
  refine r_callS h (as := [vi x1, vi 0, vi 99]) (S := []) m_Mod_275 hSP2 (by decide) (Nat.le_refl _) rfl rfl (Nat.le_of_ble_eq_true rfl) (by decide +kernel : decode cX12_dry 9 = .ok (.invokestatic 275, 3)) ?_
  rintro _ _ M2 ⟨rfl, r1, rfl, hP⟩
  have H := H r1 M2 hP
  show K NM RRM _ _ [vi r1] _
  obtain ⟨g1, H⟩ := H
  obtain ⟨H1, H2⟩ := H
  refine r_if_ne h 17 g1 (by decide) (by decide +kernel : decode cX12_dry 12 = .ok (.ifCond .ne 5, 3)) (fun hc => ?_) (fun hc => ?_)
  · have H := H1 hc
    refine r_aloadn h (q := 0) 0 rfl (by decide +kernel : decode cX12_dry 17 = .ok (.aload_n 0, 1)) ?_
    refine r_getR h (r := 34) f_Mod_108 at1M rfl (by decide) (by decide +kernel : decode cX12_dry 18 = .ok (.getfield 108, 3)) ?_
    refine r_iconst h (v := 0) (by decide +kernel : decode cX12_dry 21 = .ok (.iconst 0, 1)) ?_
    refine r_aloadn h (q := 0) 0 rfl (by decide +kernel : decode cX12_dry 22 = .ok (.aload_n 0, 1)) ?_
    refine r_getR h (r := 35) f_Mod_111 at1M rfl (by decide) (by decide +kernel : decode cX12_dry 23 = .ok (.getfield 111, 3)) ?_
    refine r_iconst h (v := 0) (by decide +kernel : decode cX12_dry 26 = .ok (.iconst 0, 1)) ?_
    obtain ⟨P3, hSP3, H⟩ := H
    refine r_callS h (as := [vr 34, vi 0, vr 35, vi 0]) (S := []) m_Mod_393 hSP3 (by decide) (Nat.le_refl _) rfl rfl (Nat.le_of_ble_eq_true rfl) (by decide +kernel : decode cX12_dry 27 = .ok (.invokestatic 393, 3)) ?_
    rintro _ _ M3 ⟨rfl, rfl, hP⟩
    have H := H M3 hP
    show K NM RRM _ _ [] _
    refine r_iconst h (v := 0) (by decide +kernel : decode cX12_dry 30 = .ok (.iconst 0, 1)) ?_
    refine r_istoren h (q := 2) (L' := [(2, vi 0), (0, vr 1), (1, vi x1)]) (by decide) rfl (by decide +kernel : decode cX12_dry 31 = .ok (.istore_n 2, 1)) ?_
    refine r_drop h [1, 2, 0] rfl ?_
    exact H
  · have H := H2 hc
    refine r_iconst h (v := (-1)) (by decide +kernel : decode cX12_dry 15 = .ok (.iconst (-1), 1)) ?_
    exact r_iret h rfl (by decide +kernel : decode cX12_dry 16 = .ok (.ireturn, 1)) rfl ⟨rfl, _, rfl, H⟩
set_option maxHeartbeats 4000000 in
set_option maxRecDepth 100000 in
theorem w_Mod_dry_32 {P : Int → Mm → Prop} {K : Nat → Rr → Nat → List (Nat × AV) → List AV → Mm → Prop} (h : EK shM yX12_dry cX12_dry 3 (some .int) 7 NM NM (QI RRM P) K) (x1 : Int) (x2 : Int) (M : Mm)
    (H : (rng x2) ∧ (100 ≤ x2 → (K NM RRM 57 [(0, vr 1), (2, vi x2)] [] M)) ∧ (¬ (100 ≤ x2) → (∃ P1 : Int → Mm → Prop, S_Mod_isSomeDry x1 M P1 ∧ ∀ (r1 : Int) (M1 : Mm), P1 r1 M1 → (rng r1) ∧ (r1 ≠ 0 → (K NM RRM 57 [(0, vr 1), (2, vi x2)] [] M1)) ∧ (r1 = 0 → (∃ P2 : Int → Mm → Prop, S_Mod_runs  M1 P2 ∧ ∀ (r2 : Int) (M2 : Mm), P2 r2 M2 → K NM RRM 32 [(0, vr 1), (1, vi x1), (2, vi (x2 + 1))] [] M2))))) :
    K NM RRM 32 [(0, vr 1), (1, vi x1), (2, vi x2)] [] M := by
  refine r_iloadn h (q := 2) 2 rfl (by decide +kernel : decode cX12_dry 32 = .ok (.iload_n 2, 1)) ?_
  refine r_bipush h (v := 100) (by decide) (by decide +kernel : decode cX12_dry 33 = .ok (.bipush 100, 2)) ?_
  obtain ⟨g1, H⟩ := H
  obtain ⟨H1, H2⟩ := H
  refine r_icmp_ge h 57 g1 (by decide) (by decide) (by decide +kernel : decode cX12_dry 35 = .ok (.if_icmp .ge 22, 3)) (fun hc => ?_) (fun hc => ?_)
  · have H := H1 hc
    refine r_drop h [0, 2] rfl ?_
    exact H
  · have H := H2 hc
    refine r_aloadn h (q := 0) 0 rfl (by decide +kernel : decode cX12_dry 38 = .ok (.aload_n 0, 1)) ?_
    refine r_iloadn h (q := 1) 1 rfl (by decide +kernel : decode cX12_dry 39 = .ok (.iload_n 1, 1)) ?_
    obtain ⟨P1, hSP1, H⟩ := H
    refine r_callV h (as := [vi x1]) (S := []) (b := 1) m_Mod_438 hSP1 (by decide) (Nat.le_refl _) rfl at1M rfl (Nat.le_of_ble_eq_true rfl) (by decide +kernel : decode cX12_dry 40 = .ok (.invokevirtual 438, 3)) ?_
    rintro _ _ M1 ⟨rfl, r1, rfl, hP⟩
    have H := H r1 M1 hP
    show K NM RRM _ _ [vi r1] _
    obtain ⟨g1, H⟩ := H
    obtain ⟨H1, H2⟩ := H
    refine r_if_ne h 57 g1 (by decide) (by decide +kernel : decode cX12_dry 43 = .ok (.ifCond .ne 14, 3)) (fun hc => ?_) (fun hc => ?_)
    · have H := H1 hc
      refine r_drop h [0, 2] rfl ?_
      exact H
    · have H := H2 hc
      refine r_aloadn h (q := 0) 0 rfl (by decide +kernel : decode cX12_dry 46 = .ok (.aload_n 0, 1)) ?_
      obtain ⟨P2, hSP2, H⟩ := H
      refine r_callV h (as := []) (S := []) (b := 1) m_Mod_403 hSP2 (by decide) (Nat.le_refl _) rfl at1M rfl (Nat.le_of_ble_eq_true rfl) (by decide +kernel : decode cX12_dry 47 = .ok (.invokevirtual 403, 3)) ?_
      rintro _ _ M2 ⟨rfl, r2, rfl, hP⟩
      have H := H r2 M2 hP
      show K NM RRM _ _ [vi r2] _
      refine r_pop h rfl (by decide +kernel : decode cX12_dry 50 = .ok (.pop, 1)) ?_
      refine r_iinc h (i := 2) (v := 1) (L' := [(2, vi (x2 + 1)), (0, vr 1), (1, vi x1)]) 2 rfl (by decide) rfl (by decide +kernel : decode cX12_dry 51 = .ok (.iinc 2 1, 3)) ?_
      refine r_goto h 32 (by decide) (by decide +kernel : decode cX12_dry 54 = .ok (.goto (-22), 3)) ?_
      refine r_drop h [1, 2, 0] rfl ?_
      exact H
set_option maxHeartbeats 4000000 in
set_option maxRecDepth 100000 in
theorem w_Mod_dry_57 {P : Int → Mm → Prop} {K : Nat → Rr → Nat → List (Nat × AV) → List AV → Mm → Prop} (h : EK shM yX12_dry cX12_dry 3 (some .int) 7 NM NM (QI RRM P) K) (x2 : Int) (M : Mm)
    (H : ∃ P1 : Mm → Prop, S_Mod_copies 35 33 0 34 33 0 M P1 ∧ ∀ M1 : Mm, P1 M1 → (rng x2) ∧ (x2 ≠ 100 → (P x2 M1)) ∧ (x2 = 100 → (P (-1) M1))) :
    K NM RRM 57 [(0, vr 1), (2, vi x2)] [] M := by
  refine r_aloadn h (q := 0) 0 rfl (by decide +kernel : decode cX12_dry 57 = .ok (.aload_n 0, 1)) ?_
  refine r_getR h (r := 35) f_Mod_111 at1M rfl (by decide) (by decide +kernel : decode cX12_dry 58 = .ok (.getfield 111, 3)) ?_
  refine r_iconst h (v := 0) (by decide +kernel : decode cX12_dry 61 = .ok (.iconst 0, 1)) ?_
  refine r_aloadn h (q := 0) 0 rfl (by decide +kernel : decode cX12_dry 62 = .ok (.aload_n 0, 1)) ?_
  refine r_getR h (r := 34) f_Mod_108 at1M rfl (by decide) (by decide +kernel : decode cX12_dry 63 = .ok (.getfield 108, 3)) ?_
  refine r_iconst h (v := 0) (by decide +kernel : decode cX12_dry 66 = .ok (.iconst 0, 1)) ?_
  obtain ⟨P1, hSP1, H⟩ := H
  refine r_callS h (as := [vr 35, vi 0, vr 34, vi 0]) (S := []) m_Mod_393 hSP1 (by decide) (Nat.le_refl _) rfl rfl (Nat.le_of_ble_eq_true rfl) (by decide +kernel : decode cX12_dry 67 = .ok (.invokestatic 393, 3)) ?_
  rintro _ _ M1 ⟨rfl, rfl, hP⟩
  have H := H M1 hP
  show K NM RRM _ _ [] _
  refine r_iloadn h (q := 2) 1 rfl (by decide +kernel : decode cX12_dry 70 = .ok (.iload_n 2, 1)) ?_
  refine r_bipush h (v := 100) (by decide) (by decide +kernel : decode cX12_dry 71 = .ok (.bipush 100, 2)) ?_
  obtain ⟨g1, H⟩ := H
  obtain ⟨H1, H2⟩ := H
  refine r_icmp_ne h 80 g1 (by decide) (by decide) (by decide +kernel : decode cX12_dry 73 = .ok (.if_icmp .ne 7, 3)) (fun hc => ?_) (fun hc => ?_)
  · have H := H1 hc
    refine r_iloadn h (q := 2) 1 rfl (by decide +kernel : decode cX12_dry 80 = .ok (.iload_n 2, 1)) ?_
    exact r_iret h rfl (by decide +kernel : decode cX12_dry 81 = .ok (.ireturn, 1)) rfl ⟨rfl, _, rfl, H⟩
  · have H := H2 hc
    refine r_iconst h (v := (-1)) (by decide +kernel : decode cX12_dry 76 = .ok (.iconst (-1), 1)) ?_
    refine r_goto h 81 (by decide) (by decide +kernel : decode cX12_dry 77 = .ok (.goto 4, 3)) ?_
    exact r_iret h rfl (by decide +kernel : decode cX12_dry 81 = .ok (.ireturn, 1)) rfl ⟨rfl, _, rfl, H⟩
set_option maxHeartbeats 4000000 in
set_option maxRecDepth 100000 in
theorem w_Mod_look_0 {P : Int → Mm → Prop} {K : Nat → Rr → Nat → List (Nat × AV) → List AV → Mm → Prop} (h : EK shM yX12_look cX12_look 8 (some .int) 7 NM NM (QI RRM P) K)  (M : Mm)
    (H : ∀ M1 : Mm, M1 = (upr M 1 (up1 (M 1) 0 0)) → ∃ P2 : Int → Mm → Prop, S_Mod_going  M1 P2 ∧ ∀ (r1 : Int) (M2 : Mm), P2 r1 M2 → ∃ P3 : Int → Mm → Prop, S_Mod_sets 0 M2 P3 ∧ ∀ (r2 : Int) (M3 : Mm), P3 r2 M3 → K NM RRM 24 [(0, vr 1), (1, vi r1), (2, vi r2), (3, vi r2), (4, vi (-1)), (5, vi 0)] [] M3) :
    K NM RRM 0 [(0, vr 1)] [] M := by
  refine r_aloadn h (q := 0) 0 rfl (by decide +kernel : decode cX12_look 0 = .ok (.aload_n 0, 1)) ?_
  refine r_iconst h (v := 0) (by decide +kernel : decode cX12_look 1 = .ok (.iconst 0, 1)) ?_
  refine r_putI h f_Mod_147 at1M rfl rfl (by decide +kernel : decode cX12_look 2 = .ok (.putfield 147, 3)) ?_
  have H := H _ rfl
  revert H
  generalize (upr M 1 (up1 (M 1) 0 0)) = M1
  intro H
  refine r_aloadn h (q := 0) 0 rfl (by decide +kernel : decode cX12_look 5 = .ok (.aload_n 0, 1)) ?_
  obtain ⟨P2, hSP2, H⟩ := H
  refine r_callV h (as := []) (S := []) (b := 1) m_Mod_426 hSP2 (by decide) (Nat.le_refl _) rfl at1M rfl (Nat.le_of_ble_eq_true rfl) (by decide +kernel : decode cX12_look 6 = .ok (.invokevirtual 426, 3)) ?_
  rintro _ _ M2 ⟨rfl, r1, rfl, hP⟩
  have H := H r1 M2 hP
  show K NM RRM _ _ [vi r1] _
  refine r_istoren h (q := 1) (L' := [(1, vi r1), (0, vr 1)]) (by decide) rfl (by decide +kernel : decode cX12_look 9 = .ok (.istore_n 1, 1)) ?_
  refine r_aloadn h (q := 0) 1 rfl (by decide +kernel : decode cX12_look 10 = .ok (.aload_n 0, 1)) ?_
  refine r_iconst h (v := 0) (by decide +kernel : decode cX12_look 11 = .ok (.iconst 0, 1)) ?_
  obtain ⟨P3, hSP3, H⟩ := H
  refine r_callV h (as := [vi 0]) (S := []) (b := 1) m_Mod_444 hSP3 (by decide) (Nat.le_refl _) rfl at1M rfl (Nat.le_of_ble_eq_true rfl) (by decide +kernel : decode cX12_look 12 = .ok (.invokevirtual 444, 3)) ?_
  rintro _ _ M3 ⟨rfl, r2, rfl, hP⟩
  have H := H r2 M3 hP
  show K NM RRM _ _ [vi r2] _
  refine r_istoren h (q := 2) (L' := [(2, vi r2), (1, vi r1), (0, vr 1)]) (by decide) rfl (by decide +kernel : decode cX12_look 15 = .ok (.istore_n 2, 1)) ?_
  refine r_iloadn h (q := 2) 0 rfl (by decide +kernel : decode cX12_look 16 = .ok (.iload_n 2, 1)) ?_
  refine r_istoren h (q := 3) (L' := [(3, vi r2), (2, vi r2), (1, vi r1), (0, vr 1)]) (by decide) rfl (by decide +kernel : decode cX12_look 17 = .ok (.istore_n 3, 1)) ?_
  refine r_iconst h (v := (-1)) (by decide +kernel : decode cX12_look 18 = .ok (.iconst (-1), 1)) ?_
  refine r_istore h (L' := [(4, vi (-1)), (3, vi r2), (2, vi r2), (1, vi r1), (0, vr 1)]) (by decide) rfl (by decide +kernel : decode cX12_look 19 = .ok (.istore 4, 2)) ?_
  refine r_iconst h (v := 0) (by decide +kernel : decode cX12_look 21 = .ok (.iconst 0, 1)) ?_
  refine r_istore h (L' := [(5, vi 0), (4, vi (-1)), (3, vi r2), (2, vi r2), (1, vi r1), (0, vr 1)]) (by decide) rfl (by decide +kernel : decode cX12_look 22 = .ok (.istore 5, 2)) ?_
  refine r_drop h [5, 4, 3, 2, 1, 0] rfl ?_
  exact H
set_option maxHeartbeats 4000000 in
set_option maxRecDepth 100000 in
theorem w_Mod_look_24 {P : Int → Mm → Prop} {K : Nat → Rr → Nat → List (Nat × AV) → List AV → Mm → Prop} (h : EK shM yX12_look cX12_look 8 (some .int) 7 NM NM (QI RRM P) K) (x1 : Int) (x2 : Int) (x3 : Int) (x4 : Int) (x5 : Int) (M : Mm)
    (H : (rng x5) ∧ (rng (M 3 0)) ∧ ((M 3 0) ≤ x5 → (P x4 M)) ∧ (¬ ((M 3 0) ≤ x5) → (K NM RRM 41 [(0, vr 1), (1, vi x1), (2, vi x2), (3, vi x3), (4, vi x4), (5, vi x5), (6, vi 0), (7, vi 0)] [] M))) :
    K NM RRM 24 [(0, vr 1), (1, vi x1), (2, vi x2), (3, vi x3), (4, vi x4), (5, vi x5)] [] M := by
  refine r_iload h 5 rfl (by decide +kernel : decode cX12_look 24 = .ok (.iload 5, 2)) ?_
  refine r_aloadn h (q := 0) 0 rfl (by decide +kernel : decode cX12_look 26 = .ok (.aload_n 0, 1)) ?_
  refine r_getR h (r := 3) f_Mod_13 at1M rfl (by decide) (by decide +kernel : decode cX12_look 27 = .ok (.getfield 13, 3)) ?_
  refine r_iconst h (v := 0) (by decide +kernel : decode cX12_look 30 = .ok (.iconst 0, 1)) ?_
  refine r_iald h 0 rfl atM_3 (by decide) (by decide) (by decide +kernel : decode cX12_look 31 = .ok (.iaload, 1)) ?_
  obtain ⟨g1, g2, H⟩ := H
  obtain ⟨H1, H2⟩ := H
  refine r_icmp_ge h 125 g1 g2 (by decide) (by decide +kernel : decode cX12_look 32 = .ok (.if_icmp .ge 93, 3)) (fun hc => ?_) (fun hc => ?_)
  · have H := H1 hc
    refine r_iload h 4 rfl (by decide +kernel : decode cX12_look 125 = .ok (.iload 4, 2)) ?_
    exact r_iret h rfl (by decide +kernel : decode cX12_look 127 = .ok (.ireturn, 1)) rfl ⟨rfl, _, rfl, H⟩
  · have H := H2 hc
    refine r_iconst h (v := 0) (by decide +kernel : decode cX12_look 35 = .ok (.iconst 0, 1)) ?_
    refine r_istore h (L' := [(6, vi 0), (0, vr 1), (1, vi x1), (2, vi x2), (3, vi x3), (4, vi x4), (5, vi x5)]) (by decide) rfl (by decide +kernel : decode cX12_look 36 = .ok (.istore 6, 2)) ?_
    refine r_iconst h (v := 0) (by decide +kernel : decode cX12_look 38 = .ok (.iconst 0, 1)) ?_
    refine r_istore h (L' := [(7, vi 0), (6, vi 0), (0, vr 1), (1, vi x1), (2, vi x2), (3, vi x3), (4, vi x4), (5, vi x5)]) (by decide) rfl (by decide +kernel : decode cX12_look 39 = .ok (.istore 7, 2)) ?_
    refine r_drop h [2, 3, 4, 5, 6, 7, 1, 0] rfl ?_
    exact H
set_option maxHeartbeats 4000000 in
set_option maxRecDepth 100000 in
theorem w_Mod_look_41 {P : Int → Mm → Prop} {K : Nat → Rr → Nat → List (Nat × AV) → List AV → Mm → Prop} (h : EK shM yX12_look cX12_look 8 (some .int) 7 NM NM (QI RRM P) K) (x1 : Int) (x2 : Int) (x3 : Int) (x4 : Int) (x5 : Int) (x6 : Int) (x7 : Int) (M : Mm)
    (H : (rng x7) ∧ (rng x1) ∧ (x1 < x7 → ((rng x6) ∧ (rng (x2 - x6)) ∧ (rng x3) ∧ ((max x6 (x2 - x6)) < x3 → (K NM RRM 24 [(0, vr 1), (1, vi x1), (2, vi x2), (3, vi (max x6 (x2 - x6))), (4, vi x5), (5, vi (x5 + 1))] [] M)) ∧ (¬ ((max x6 (x2 - x6)) < x3) → (K NM RRM 24 [(0, vr 1), (1, vi x1), (2, vi x2), (3, vi x3), (4, vi x4), (5, vi (x5 + 1))] [] M)))) ∧ (¬ (x1 < x7) → (((andI x7 (xorI x1 (-1))) ≠ 0 → (K NM RRM 41 [(0, vr 1), (1, vi x1), (2, vi x2), (3, vi x3), (4, vi x4), (5, vi x5), (6, vi (x6 + 0)), (7, vi (x7 + 1))] [] M)) ∧ ((andI x7 (xorI x1 (-1))) = 0 → (((andI (shrI x7 x5) 1) ≠ 1 → (K NM RRM 41 [(0, vr 1), (1, vi x1), (2, vi x2), (3, vi x3), (4, vi x4), (5, vi x5), (6, vi (x6 + 0)), (7, vi (x7 + 1))] [] M)) ∧ ((andI (shrI x7 x5) 1) = 1 → (∃ P1 : Int → Mm → Prop, S_Mod_isAsHeard x7 M P1 ∧ ∀ (r1 : Int) (M1 : Mm), P1 r1 M1 → (rng r1) ∧ (r1 = 0 → (K NM RRM 41 [(0, vr 1), (1, vi x1), (2, vi x2), (3, vi x3), (4, vi x4), (5, vi x5), (6, vi (x6 + 0)), (7, vi (x7 + 1))] [] M1)) ∧ (r1 ≠ 0 → (K NM RRM 41 [(0, vr 1), (1, vi x1), (2, vi x2), (3, vi x3), (4, vi x4), (5, vi x5), (6, vi (x6 + 1)), (7, vi (x7 + 1))] [] M1))))))))) :
    K NM RRM 41 [(0, vr 1), (1, vi x1), (2, vi x2), (3, vi x3), (4, vi x4), (5, vi x5), (6, vi x6), (7, vi x7)] [] M := by
  refine r_iload h 7 rfl (by decide +kernel : decode cX12_look 41 = .ok (.iload 7, 2)) ?_
  refine r_iloadn h (q := 1) 1 rfl (by decide +kernel : decode cX12_look 43 = .ok (.iload_n 1, 1)) ?_
  obtain ⟨g1, g2, H⟩ := H
  obtain ⟨H1, H2⟩ := H
  refine r_icmp_gt h 92 g1 g2 (by decide) (by decide +kernel : decode cX12_look 44 = .ok (.if_icmp .gt 48, 3)) (fun hc => ?_) (fun hc => ?_)
  · have H := H1 hc
    refine r_iload h 6 rfl (by decide +kernel : decode cX12_look 92 = .ok (.iload 6, 2)) ?_
    refine r_iloadn h (q := 2) 2 rfl (by decide +kernel : decode cX12_look 94 = .ok (.iload_n 2, 1)) ?_
    refine r_iload h 6 rfl (by decide +kernel : decode cX12_look 95 = .ok (.iload 6, 2)) ?_
    refine r_isub h (by decide +kernel : decode cX12_look 97 = .ok (.isub, 1)) ?_
    obtain ⟨g1, g2, H⟩ := H
    refine r_max h g1 g2 kM_max_Mod (by decide) (Nat.le_refl _) (Nat.le_of_ble_eq_true rfl) (by decide +kernel : decode cX12_look 98 = .ok (.invokestatic 447, 3)) ?_
    rw [max_if]
    have gm1 : rng (max x6 (x2 - x6)) := max_rng g1 g2
    refine r_istore h (L' := [(6, vi (max x6 (x2 - x6))), (0, vr 1), (1, vi x1), (2, vi x2), (3, vi x3), (4, vi x4), (5, vi x5), (7, vi x7)]) (by decide) rfl (by decide +kernel : decode cX12_look 101 = .ok (.istore 6, 2)) ?_
    refine r_iload h 0 rfl (by decide +kernel : decode cX12_look 103 = .ok (.iload 6, 2)) ?_
    refine r_iloadn h (q := 3) 4 rfl (by decide +kernel : decode cX12_look 105 = .ok (.iload_n 3, 1)) ?_
    obtain ⟨g1, H⟩ := H
    obtain ⟨H1, H2⟩ := H
    refine r_icmp_lt h 112 gm1 g1 (by decide) (by decide +kernel : decode cX12_look 106 = .ok (.if_icmp .lt 6, 3)) (fun hc => ?_) (fun hc => ?_)
    · have H := H1 hc
      refine r_iload h 0 rfl (by decide +kernel : decode cX12_look 112 = .ok (.iload 6, 2)) ?_
      refine r_istoren h (q := 3) (L' := [(3, vi (max x6 (x2 - x6))), (6, vi (max x6 (x2 - x6))), (0, vr 1), (1, vi x1), (2, vi x2), (4, vi x4), (5, vi x5), (7, vi x7)]) (by decide) rfl (by decide +kernel : decode cX12_look 114 = .ok (.istore_n 3, 1)) ?_
      refine r_iload h 6 rfl (by decide +kernel : decode cX12_look 115 = .ok (.iload 5, 2)) ?_
      refine r_istore h (L' := [(4, vi x5), (3, vi (max x6 (x2 - x6))), (6, vi (max x6 (x2 - x6))), (0, vr 1), (1, vi x1), (2, vi x2), (5, vi x5), (7, vi x7)]) (by decide) rfl (by decide +kernel : decode cX12_look 117 = .ok (.istore 4, 2)) ?_
      refine r_iinc h (i := 5) (v := 1) (L' := [(5, vi (x5 + 1)), (4, vi x5), (3, vi (max x6 (x2 - x6))), (6, vi (max x6 (x2 - x6))), (0, vr 1), (1, vi x1), (2, vi x2), (7, vi x7)]) 6 rfl (by decide) rfl (by decide +kernel : decode cX12_look 119 = .ok (.iinc 5 1, 3)) ?_
      refine r_goto h 24 (by decide) (by decide +kernel : decode cX12_look 122 = .ok (.goto (-98), 3)) ?_
      refine r_drop h [4, 5, 6, 2, 1, 0] rfl ?_
      exact H
    · have H := H2 hc
      refine r_goto h 119 (by decide) (by decide +kernel : decode cX12_look 109 = .ok (.goto 10, 3)) ?_
      refine r_iinc h (i := 5) (v := 1) (L' := [(5, vi (x5 + 1)), (6, vi (max x6 (x2 - x6))), (0, vr 1), (1, vi x1), (2, vi x2), (3, vi x3), (4, vi x4), (7, vi x7)]) 6 rfl (by decide) rfl (by decide +kernel : decode cX12_look 119 = .ok (.iinc 5 1, 3)) ?_
      refine r_goto h 24 (by decide) (by decide +kernel : decode cX12_look 122 = .ok (.goto (-98), 3)) ?_
      refine r_drop h [2, 3, 4, 5, 6, 0] rfl ?_
      exact H
  · have H := H2 hc
    refine r_iload h 6 rfl (by decide +kernel : decode cX12_look 47 = .ok (.iload 6, 2)) ?_
    refine r_iload h 7 rfl (by decide +kernel : decode cX12_look 49 = .ok (.iload 7, 2)) ?_
    refine r_iloadn h (q := 1) 1 rfl (by decide +kernel : decode cX12_look 51 = .ok (.iload_n 1, 1)) ?_
    refine r_iconst h (v := (-1)) (by decide +kernel : decode cX12_look 52 = .ok (.iconst (-1), 1)) ?_
    refine r_ixor h (by decide +kernel : decode cX12_look 53 = .ok (.ixor, 1)) ?_
    refine r_iand h (by decide +kernel : decode cX12_look 54 = .ok (.iand, 1)) ?_
    obtain ⟨H1, H2⟩ := H
    refine r_if_ne h 82 (rng_toInt _) (by decide) (by decide +kernel : decode cX12_look 55 = .ok (.ifCond .ne 27, 3)) (fun hc => ?_) (fun hc => ?_)
    · have H := H1 hc
      refine r_iconst h (v := 0) (by decide +kernel : decode cX12_look 82 = .ok (.iconst 0, 1)) ?_
      refine r_iadd h (by decide +kernel : decode cX12_look 83 = .ok (.iadd, 1)) ?_
      refine r_istore h (L' := [(6, vi (x6 + 0)), (0, vr 1), (1, vi x1), (2, vi x2), (3, vi x3), (4, vi x4), (5, vi x5), (7, vi x7)]) (by decide) rfl (by decide +kernel : decode cX12_look 84 = .ok (.istore 6, 2)) ?_
      refine r_iinc h (i := 7) (v := 1) (L' := [(7, vi (x7 + 1)), (6, vi (x6 + 0)), (0, vr 1), (1, vi x1), (2, vi x2), (3, vi x3), (4, vi x4), (5, vi x5)]) 7 rfl (by decide) rfl (by decide +kernel : decode cX12_look 86 = .ok (.iinc 7 1, 3)) ?_
      refine r_goto h 41 (by decide) (by decide +kernel : decode cX12_look 89 = .ok (.goto (-48), 3)) ?_
      refine r_drop h [2, 3, 4, 5, 6, 7, 1, 0] rfl ?_
      exact H
    · have H := H2 hc
      refine r_iload h 7 rfl (by decide +kernel : decode cX12_look 58 = .ok (.iload 7, 2)) ?_
      refine r_iload h 5 rfl (by decide +kernel : decode cX12_look 60 = .ok (.iload 5, 2)) ?_
      refine r_ishr h (by decide +kernel : decode cX12_look 62 = .ok (.ishr, 1)) ?_
      refine r_iconst h (v := 1) (by decide +kernel : decode cX12_look 63 = .ok (.iconst 1, 1)) ?_
      refine r_iand h (by decide +kernel : decode cX12_look 64 = .ok (.iand, 1)) ?_
      refine r_iconst h (v := 1) (by decide +kernel : decode cX12_look 65 = .ok (.iconst 1, 1)) ?_
      obtain ⟨H1, H2⟩ := H
      refine r_icmp_ne h 82 (rng_toInt _) (by decide) (by decide) (by decide +kernel : decode cX12_look 66 = .ok (.if_icmp .ne 16, 3)) (fun hc => ?_) (fun hc => ?_)
      · have H := H1 hc
        refine r_iconst h (v := 0) (by decide +kernel : decode cX12_look 82 = .ok (.iconst 0, 1)) ?_
        refine r_iadd h (by decide +kernel : decode cX12_look 83 = .ok (.iadd, 1)) ?_
        refine r_istore h (L' := [(6, vi (x6 + 0)), (0, vr 1), (1, vi x1), (2, vi x2), (3, vi x3), (4, vi x4), (5, vi x5), (7, vi x7)]) (by decide) rfl (by decide +kernel : decode cX12_look 84 = .ok (.istore 6, 2)) ?_
        refine r_iinc h (i := 7) (v := 1) (L' := [(7, vi (x7 + 1)), (6, vi (x6 + 0)), (0, vr 1), (1, vi x1), (2, vi x2), (3, vi x3), (4, vi x4), (5, vi x5)]) 7 rfl (by decide) rfl (by decide +kernel : decode cX12_look 86 = .ok (.iinc 7 1, 3)) ?_
        refine r_goto h 41 (by decide) (by decide +kernel : decode cX12_look 89 = .ok (.goto (-48), 3)) ?_
        refine r_drop h [2, 3, 4, 5, 6, 7, 1, 0] rfl ?_
        exact H
      · have H := H2 hc
        refine r_aloadn h (q := 0) 0 rfl (by decide +kernel : decode cX12_look 69 = .ok (.aload_n 0, 1)) ?_
        refine r_iload h 7 rfl (by decide +kernel : decode cX12_look 70 = .ok (.iload 7, 2)) ?_
        obtain ⟨P1, hSP1, H⟩ := H
        refine r_callV h (as := [vi x7]) (S := [vi x6]) (b := 1) m_Mod_441 hSP1 (by decide) (Nat.le_refl _) rfl at1M rfl (Nat.le_of_ble_eq_true rfl) (by decide +kernel : decode cX12_look 72 = .ok (.invokevirtual 441, 3)) ?_
        rintro _ _ M1 ⟨rfl, r1, rfl, hP⟩
        have H := H r1 M1 hP
        show K NM RRM _ _ [vi r1, vi x6] _
        obtain ⟨g1, H⟩ := H
        obtain ⟨H1, H2⟩ := H
        refine r_if_eq h 82 g1 (by decide) (by decide +kernel : decode cX12_look 75 = .ok (.ifCond .eq 7, 3)) (fun hc => ?_) (fun hc => ?_)
        · have H := H1 hc
          refine r_iconst h (v := 0) (by decide +kernel : decode cX12_look 82 = .ok (.iconst 0, 1)) ?_
          refine r_iadd h (by decide +kernel : decode cX12_look 83 = .ok (.iadd, 1)) ?_
          refine r_istore h (L' := [(6, vi (x6 + 0)), (0, vr 1), (1, vi x1), (2, vi x2), (3, vi x3), (4, vi x4), (5, vi x5), (7, vi x7)]) (by decide) rfl (by decide +kernel : decode cX12_look 84 = .ok (.istore 6, 2)) ?_
          refine r_iinc h (i := 7) (v := 1) (L' := [(7, vi (x7 + 1)), (6, vi (x6 + 0)), (0, vr 1), (1, vi x1), (2, vi x2), (3, vi x3), (4, vi x4), (5, vi x5)]) 7 rfl (by decide) rfl (by decide +kernel : decode cX12_look 86 = .ok (.iinc 7 1, 3)) ?_
          refine r_goto h 41 (by decide) (by decide +kernel : decode cX12_look 89 = .ok (.goto (-48), 3)) ?_
          refine r_drop h [2, 3, 4, 5, 6, 7, 1, 0] rfl ?_
          exact H
        · have H := H2 hc
          refine r_iconst h (v := 1) (by decide +kernel : decode cX12_look 78 = .ok (.iconst 1, 1)) ?_
          refine r_goto h 83 (by decide) (by decide +kernel : decode cX12_look 79 = .ok (.goto 4, 3)) ?_
          refine r_iadd h (by decide +kernel : decode cX12_look 83 = .ok (.iadd, 1)) ?_
          refine r_istore h (L' := [(6, vi (x6 + 1)), (0, vr 1), (1, vi x1), (2, vi x2), (3, vi x3), (4, vi x4), (5, vi x5), (7, vi x7)]) (by decide) rfl (by decide +kernel : decode cX12_look 84 = .ok (.istore 6, 2)) ?_
          refine r_iinc h (i := 7) (v := 1) (L' := [(7, vi (x7 + 1)), (6, vi (x6 + 1)), (0, vr 1), (1, vi x1), (2, vi x2), (3, vi x3), (4, vi x4), (5, vi x5)]) 7 rfl (by decide) rfl (by decide +kernel : decode cX12_look 86 = .ok (.iinc 7 1, 3)) ?_
          refine r_goto h 41 (by decide) (by decide +kernel : decode cX12_look 89 = .ok (.goto (-48), 3)) ?_
          refine r_drop h [2, 3, 4, 5, 6, 7, 1, 0] rfl ?_
          exact H
set_option maxHeartbeats 4000000 in
set_option maxRecDepth 100000 in
theorem w_Mod_decades_0 {P : Int → Mm → Prop} {K : Nat → Rr → Nat → List (Nat × AV) → List AV → Mm → Prop} (h : EK shM yX12_decades cX12_decades 7 (some .int) 7 NM NM (QI RRM P) K) (x1 : Int) (x2 : Int) (x3 : Int) (M : Mm)
    (H : ∀ M1 : Mm, M1 = (upr M 1 (up1 (M 1) 0 0)) → ∃ P2 : Int → Mm → Prop, S_Mod_within x1 0 9999 M1 P2 ∧ ∀ (r1 : Int) (M2 : Mm), P2 r1 M2 → (rng r1) ∧ (r1 = 0 → (P (-1) M2)) ∧ (r1 ≠ 0 → (∃ P3 : Int → Mm → Prop, S_Mod_within x2 1 99 M2 P3 ∧ ∀ (r2 : Int) (M3 : Mm), P3 r2 M3 → (rng r2) ∧ (r2 = 0 → (P (-1) M3)) ∧ (r2 ≠ 0 → (∃ P4 : Int → Mm → Prop, S_Mod_within x3 0 2 M3 P4 ∧ ∀ (r3 : Int) (M4 : Mm), P4 r3 M4 → (rng r3) ∧ (r3 ≠ 0 → ((rng x1) ∧ ∀ M5 : Mm, M5 = (upr M4 1 (up1 (M4 1) 61 x1)) → ∃ P6 : Mm → Prop, S_Mod_copies 34 33 0 35 33 0 M5 P6 ∧ ∀ M6 : Mm, P6 M6 → K NM RRM 65 [(0, vr 1), (2, vi x2), (3, vi x3), (4, vi 0), (5, vi 0), (6, vi 0)] [] M6)) ∧ (r3 = 0 → (P (-1) M4))))))) :
    K NM RRM 0 [(0, vr 1), (1, vi x1), (2, vi x2), (3, vi x3)] [] M := by
  refine r_aloadn h (q := 0) 0 rfl (by decide +kernel : decode cX12_decades 0 = .ok (.aload_n 0, 1)) ?_
  refine r_iconst h (v := 0) (by decide +kernel : decode cX12_decades 1 = .ok (.iconst 0, 1)) ?_
  refine r_putI h f_Mod_147 at1M rfl rfl (by decide +kernel : decode cX12_decades 2 = .ok (.putfield 147, 3)) ?_
  have H := H _ rfl
  revert H
  generalize (upr M 1 (up1 (M 1) 0 0)) = M1
  intro H
  refine r_iloadn h (q := 1) 1 rfl (by decide +kernel : decode cX12_decades 5 = .ok (.iload_n 1, 1)) ?_
  refine r_iconst h (v := 0) (by decide +kernel : decode cX12_decades 6 = .ok (.iconst 0, 1)) ?_
  refine r_sipush h (v := 9999) (by decide) (by decide +kernel : decode cX12_decades 7 = .ok (.sipush 9999, 3)) ?_
  obtain ⟨P2, hSP2, H⟩ := H
  refine r_callS h (as := [vi x1, vi 0, vi 9999]) (S := []) m_Mod_275 hSP2 (by decide) (Nat.le_refl _) rfl rfl (Nat.le_of_ble_eq_true rfl) (by decide +kernel : decode cX12_decades 10 = .ok (.invokestatic 275, 3)) ?_
  rintro _ _ M2 ⟨rfl, r1, rfl, hP⟩
  have H := H r1 M2 hP
  show K NM RRM _ _ [vi r1] _
  obtain ⟨g1, H⟩ := H
  obtain ⟨H1, H2⟩ := H
  refine r_if_eq h 35 g1 (by decide) (by decide +kernel : decode cX12_decades 13 = .ok (.ifCond .eq 22, 3)) (fun hc => ?_) (fun hc => ?_)
  · have H := H1 hc
    refine r_iconst h (v := (-1)) (by decide +kernel : decode cX12_decades 35 = .ok (.iconst (-1), 1)) ?_
    exact r_iret h rfl (by decide +kernel : decode cX12_decades 36 = .ok (.ireturn, 1)) rfl ⟨rfl, _, rfl, H⟩
  · have H := H2 hc
    refine r_iloadn h (q := 2) 2 rfl (by decide +kernel : decode cX12_decades 16 = .ok (.iload_n 2, 1)) ?_
    refine r_iconst h (v := 1) (by decide +kernel : decode cX12_decades 17 = .ok (.iconst 1, 1)) ?_
    refine r_bipush h (v := 99) (by decide) (by decide +kernel : decode cX12_decades 18 = .ok (.bipush 99, 2)) ?_
    obtain ⟨P3, hSP3, H⟩ := H
    refine r_callS h (as := [vi x2, vi 1, vi 99]) (S := []) m_Mod_275 hSP3 (by decide) (Nat.le_refl _) rfl rfl (Nat.le_of_ble_eq_true rfl) (by decide +kernel : decode cX12_decades 20 = .ok (.invokestatic 275, 3)) ?_
    rintro _ _ M3 ⟨rfl, r2, rfl, hP⟩
    have H := H r2 M3 hP
    show K NM RRM _ _ [vi r2] _
    obtain ⟨g1, H⟩ := H
    obtain ⟨H1, H2⟩ := H
    refine r_if_eq h 35 g1 (by decide) (by decide +kernel : decode cX12_decades 23 = .ok (.ifCond .eq 12, 3)) (fun hc => ?_) (fun hc => ?_)
    · have H := H1 hc
      refine r_iconst h (v := (-1)) (by decide +kernel : decode cX12_decades 35 = .ok (.iconst (-1), 1)) ?_
      exact r_iret h rfl (by decide +kernel : decode cX12_decades 36 = .ok (.ireturn, 1)) rfl ⟨rfl, _, rfl, H⟩
    · have H := H2 hc
      refine r_iloadn h (q := 3) 3 rfl (by decide +kernel : decode cX12_decades 26 = .ok (.iload_n 3, 1)) ?_
      refine r_iconst h (v := 0) (by decide +kernel : decode cX12_decades 27 = .ok (.iconst 0, 1)) ?_
      refine r_iconst h (v := 2) (by decide +kernel : decode cX12_decades 28 = .ok (.iconst 2, 1)) ?_
      obtain ⟨P4, hSP4, H⟩ := H
      refine r_callS h (as := [vi x3, vi 0, vi 2]) (S := []) m_Mod_275 hSP4 (by decide) (Nat.le_refl _) rfl rfl (Nat.le_of_ble_eq_true rfl) (by decide +kernel : decode cX12_decades 29 = .ok (.invokestatic 275, 3)) ?_
      rintro _ _ M4 ⟨rfl, r3, rfl, hP⟩
      have H := H r3 M4 hP
      show K NM RRM _ _ [vi r3] _
      obtain ⟨g1, H⟩ := H
      obtain ⟨H1, H2⟩ := H
      refine r_if_ne h 37 g1 (by decide) (by decide +kernel : decode cX12_decades 32 = .ok (.ifCond .ne 5, 3)) (fun hc => ?_) (fun hc => ?_)
      · have H := H1 hc
        refine r_aloadn h (q := 0) 0 rfl (by decide +kernel : decode cX12_decades 37 = .ok (.aload_n 0, 1)) ?_
        refine r_iloadn h (q := 1) 1 rfl (by decide +kernel : decode cX12_decades 38 = .ok (.iload_n 1, 1)) ?_
        obtain ⟨g1, H⟩ := H
        refine r_i2l h g1 (by decide +kernel : decode cX12_decades 39 = .ok (.i2l, 1)) ?_
        refine r_putL h f_Mod_478 at1M rfl rfl (by decide +kernel : decode cX12_decades 40 = .ok (.putfield 478, 3)) ?_
        have H := H _ rfl
        revert H
        generalize (upr M4 1 (up1 (M4 1) 61 x1)) = M5
        intro H
        refine r_aloadn h (q := 0) 0 rfl (by decide +kernel : decode cX12_decades 43 = .ok (.aload_n 0, 1)) ?_
        refine r_getR h (r := 34) f_Mod_108 at1M rfl (by decide) (by decide +kernel : decode cX12_decades 44 = .ok (.getfield 108, 3)) ?_
        refine r_iconst h (v := 0) (by decide +kernel : decode cX12_decades 47 = .ok (.iconst 0, 1)) ?_
        refine r_aloadn h (q := 0) 0 rfl (by decide +kernel : decode cX12_decades 48 = .ok (.aload_n 0, 1)) ?_
        refine r_getR h (r := 35) f_Mod_111 at1M rfl (by decide) (by decide +kernel : decode cX12_decades 49 = .ok (.getfield 111, 3)) ?_
        refine r_iconst h (v := 0) (by decide +kernel : decode cX12_decades 52 = .ok (.iconst 0, 1)) ?_
        obtain ⟨P6, hSP6, H⟩ := H
        refine r_callS h (as := [vr 34, vi 0, vr 35, vi 0]) (S := []) m_Mod_393 hSP6 (by decide) (Nat.le_refl _) rfl rfl (Nat.le_of_ble_eq_true rfl) (by decide +kernel : decode cX12_decades 53 = .ok (.invokestatic 393, 3)) ?_
        rintro _ _ M6 ⟨rfl, rfl, hP⟩
        have H := H M6 hP
        show K NM RRM _ _ [] _
        refine r_iconst h (v := 0) (by decide +kernel : decode cX12_decades 56 = .ok (.iconst 0, 1)) ?_
        refine r_istore h (L' := [(4, vi 0), (0, vr 1), (1, vi x1), (2, vi x2), (3, vi x3)]) (by decide) rfl (by decide +kernel : decode cX12_decades 57 = .ok (.istore 4, 2)) ?_
        refine r_iconst h (v := 0) (by decide +kernel : decode cX12_decades 59 = .ok (.iconst 0, 1)) ?_
        refine r_istore h (L' := [(5, vi 0), (4, vi 0), (0, vr 1), (1, vi x1), (2, vi x2), (3, vi x3)]) (by decide) rfl (by decide +kernel : decode cX12_decades 60 = .ok (.istore 5, 2)) ?_
        refine r_iconst h (v := 0) (by decide +kernel : decode cX12_decades 62 = .ok (.iconst 0, 1)) ?_
        refine r_istore h (L' := [(6, vi 0), (5, vi 0), (4, vi 0), (0, vr 1), (1, vi x1), (2, vi x2), (3, vi x3)]) (by decide) rfl (by decide +kernel : decode cX12_decades 63 = .ok (.istore 6, 2)) ?_
        refine r_drop h [3, 5, 6, 2, 1, 0] rfl ?_
        exact H
      · have H := H2 hc
        refine r_iconst h (v := (-1)) (by decide +kernel : decode cX12_decades 35 = .ok (.iconst (-1), 1)) ?_
        exact r_iret h rfl (by decide +kernel : decode cX12_decades 36 = .ok (.ireturn, 1)) rfl ⟨rfl, _, rfl, H⟩
set_option maxHeartbeats 4000000 in
set_option maxRecDepth 100000 in
theorem w_Mod_decades_65 {P : Int → Mm → Prop} {K : Nat → Rr → Nat → List (Nat × AV) → List AV → Mm → Prop} (h : EK shM yX12_decades cX12_decades 7 (some .int) 7 NM NM (QI RRM P) K) (x2 : Int) (x3 : Int) (x4 : Int) (x5 : Int) (x6 : Int) (M : Mm)
    (H : (rng x6) ∧ (rng x2) ∧ (x2 ≤ x6 → (∃ P1 : Mm → Prop, S_Mod_copies 35 33 0 34 33 0 M P1 ∧ ∀ M1 : Mm, P1 M1 → (rng x3) ∧ (x3 ≠ 0 → ((rng x3) ∧ (x3 ≠ 1 → (P ((M 34 3) - (M1 34 3)) M1)) ∧ (x3 = 1 → (P x5 M1)))) ∧ (x3 = 0 → (P x4 M1)))) ∧ (¬ (x2 ≤ x6) → (∃ P2 : Mm → Prop, S_Mod_livesAhead  M P2 ∧ ∀ M2 : Mm, P2 M2 → ∃ P3 : Int → Mm → Prop, S_Mod_runs  M2 P3 ∧ ∀ (r3 : Int) (M3 : Mm), P3 r3 M3 → (rng (M3 34 2)) ∧ ((M3 34 2) ≤ 8 → (K NM RRM 65 [(0, vr 1), (2, vi x2), (3, vi x3), (4, vi (x4 + r3)), (5, vi (x5 + (M3 1 51))), (6, vi (x6 + 1))] [] M3)) ∧ (¬ ((M3 34 2) ≤ 8) → (∃ P4 : Mm → Prop, S_Mod_sells 9 M3 P4 ∧ ∀ M4 : Mm, P4 M4 → K NM RRM 65 [(0, vr 1), (2, vi x2), (3, vi x3), (4, vi (x4 + r3)), (5, vi (x5 + (M3 1 51))), (6, vi (x6 + 1))] [] M4))))) :
    K NM RRM 65 [(0, vr 1), (2, vi x2), (3, vi x3), (4, vi x4), (5, vi x5), (6, vi x6)] [] M := by
  refine r_iload h 5 rfl (by decide +kernel : decode cX12_decades 65 = .ok (.iload 6, 2)) ?_
  refine r_iloadn h (q := 2) 1 rfl (by decide +kernel : decode cX12_decades 67 = .ok (.iload_n 2, 1)) ?_
  obtain ⟨g1, g2, H⟩ := H
  obtain ⟨H1, H2⟩ := H
  refine r_icmp_ge h 116 g1 g2 (by decide) (by decide +kernel : decode cX12_decades 68 = .ok (.if_icmp .ge 48, 3)) (fun hc => ?_) (fun hc => ?_)
  · have H := H1 hc
    refine r_aloadn h (q := 0) 0 rfl (by decide +kernel : decode cX12_decades 116 = .ok (.aload_n 0, 1)) ?_
    refine r_getR h (r := 34) f_Mod_108 at1M rfl (by decide) (by decide +kernel : decode cX12_decades 117 = .ok (.getfield 108, 3)) ?_
    refine r_iconst h (v := 3) (by decide +kernel : decode cX12_decades 120 = .ok (.iconst 3, 1)) ?_
    refine r_iald h 3 rfl atM_34 (by decide) (by decide) (by decide +kernel : decode cX12_decades 121 = .ok (.iaload, 1)) ?_
    refine r_istore h (L' := [(6, vi (M 34 3)), (0, vr 1), (2, vi x2), (3, vi x3), (4, vi x4), (5, vi x5)]) (by decide) rfl (by decide +kernel : decode cX12_decades 122 = .ok (.istore 6, 2)) ?_
    refine r_aloadn h (q := 0) 1 rfl (by decide +kernel : decode cX12_decades 124 = .ok (.aload_n 0, 1)) ?_
    refine r_getR h (r := 35) f_Mod_111 at1M rfl (by decide) (by decide +kernel : decode cX12_decades 125 = .ok (.getfield 111, 3)) ?_
    refine r_iconst h (v := 0) (by decide +kernel : decode cX12_decades 128 = .ok (.iconst 0, 1)) ?_
    refine r_aloadn h (q := 0) 1 rfl (by decide +kernel : decode cX12_decades 129 = .ok (.aload_n 0, 1)) ?_
    refine r_getR h (r := 34) f_Mod_108 at1M rfl (by decide) (by decide +kernel : decode cX12_decades 130 = .ok (.getfield 108, 3)) ?_
    refine r_iconst h (v := 0) (by decide +kernel : decode cX12_decades 133 = .ok (.iconst 0, 1)) ?_
    obtain ⟨P1, hSP1, H⟩ := H
    refine r_callS h (as := [vr 35, vi 0, vr 34, vi 0]) (S := []) m_Mod_393 hSP1 (by decide) (Nat.le_refl _) rfl rfl (Nat.le_of_ble_eq_true rfl) (by decide +kernel : decode cX12_decades 134 = .ok (.invokestatic 393, 3)) ?_
    rintro _ _ M1 ⟨rfl, rfl, hP⟩
    have H := H M1 hP
    show K NM RRM _ _ [] _
    refine r_iloadn h (q := 3) 3 rfl (by decide +kernel : decode cX12_decades 137 = .ok (.iload_n 3, 1)) ?_
    obtain ⟨g1, H⟩ := H
    obtain ⟨H1, H2⟩ := H
    refine r_if_ne h 146 g1 (by decide) (by decide +kernel : decode cX12_decades 138 = .ok (.ifCond .ne 8, 3)) (fun hc => ?_) (fun hc => ?_)
    · have H := H1 hc
      refine r_iloadn h (q := 3) 3 rfl (by decide +kernel : decode cX12_decades 146 = .ok (.iload_n 3, 1)) ?_
      refine r_iconst h (v := 1) (by decide +kernel : decode cX12_decades 147 = .ok (.iconst 1, 1)) ?_
      obtain ⟨g1, H⟩ := H
      obtain ⟨H1, H2⟩ := H
      refine r_icmp_ne h 156 g1 (by decide) (by decide) (by decide +kernel : decode cX12_decades 148 = .ok (.if_icmp .ne 8, 3)) (fun hc => ?_) (fun hc => ?_)
      · have H := H1 hc
        refine r_iload h 0 rfl (by decide +kernel : decode cX12_decades 156 = .ok (.iload 6, 2)) ?_
        refine r_aloadn h (q := 0) 1 rfl (by decide +kernel : decode cX12_decades 158 = .ok (.aload_n 0, 1)) ?_
        refine r_getR h (r := 34) f_Mod_108 at1M rfl (by decide) (by decide +kernel : decode cX12_decades 159 = .ok (.getfield 108, 3)) ?_
        refine r_iconst h (v := 3) (by decide +kernel : decode cX12_decades 162 = .ok (.iconst 3, 1)) ?_
        refine r_iald h 3 rfl atM_34 (by decide) (by decide) (by decide +kernel : decode cX12_decades 163 = .ok (.iaload, 1)) ?_
        refine r_isub h (by decide +kernel : decode cX12_decades 164 = .ok (.isub, 1)) ?_
        exact r_iret h rfl (by decide +kernel : decode cX12_decades 165 = .ok (.ireturn, 1)) rfl ⟨rfl, _, rfl, H⟩
      · have H := H2 hc
        refine r_iload h 5 rfl (by decide +kernel : decode cX12_decades 151 = .ok (.iload 5, 2)) ?_
        refine r_goto h 165 (by decide) (by decide +kernel : decode cX12_decades 153 = .ok (.goto 12, 3)) ?_
        exact r_iret h rfl (by decide +kernel : decode cX12_decades 165 = .ok (.ireturn, 1)) rfl ⟨rfl, _, rfl, H⟩
    · have H := H2 hc
      refine r_iload h 4 rfl (by decide +kernel : decode cX12_decades 141 = .ok (.iload 4, 2)) ?_
      refine r_goto h 165 (by decide) (by decide +kernel : decode cX12_decades 143 = .ok (.goto 22, 3)) ?_
      exact r_iret h rfl (by decide +kernel : decode cX12_decades 165 = .ok (.ireturn, 1)) rfl ⟨rfl, _, rfl, H⟩
  · have H := H2 hc
    refine r_aloadn h (q := 0) 0 rfl (by decide +kernel : decode cX12_decades 71 = .ok (.aload_n 0, 1)) ?_
    obtain ⟨P2, hSP2, H⟩ := H
    refine r_callV h (as := []) (S := []) (b := 1) m_Mod_492 hSP2 (by decide) (Nat.le_refl _) rfl at1M rfl (Nat.le_of_ble_eq_true rfl) (by decide +kernel : decode cX12_decades 72 = .ok (.invokevirtual 492, 3)) ?_
    rintro _ _ M2 ⟨rfl, rfl, hP⟩
    have H := H M2 hP
    show K NM RRM _ _ [] _
    refine r_iload h 3 rfl (by decide +kernel : decode cX12_decades 75 = .ok (.iload 4, 2)) ?_
    refine r_aloadn h (q := 0) 0 rfl (by decide +kernel : decode cX12_decades 77 = .ok (.aload_n 0, 1)) ?_
    obtain ⟨P3, hSP3, H⟩ := H
    refine r_callV h (as := []) (S := [vi x4]) (b := 1) m_Mod_403 hSP3 (by decide) (Nat.le_refl _) rfl at1M rfl (Nat.le_of_ble_eq_true rfl) (by decide +kernel : decode cX12_decades 78 = .ok (.invokevirtual 403, 3)) ?_
    rintro _ _ M3 ⟨rfl, r3, rfl, hP⟩
    have H := H r3 M3 hP
    show K NM RRM _ _ [vi r3, vi x4] _
    refine r_iadd h (by decide +kernel : decode cX12_decades 81 = .ok (.iadd, 1)) ?_
    refine r_istore h (L' := [(4, vi (x4 + r3)), (0, vr 1), (2, vi x2), (3, vi x3), (5, vi x5), (6, vi x6)]) (by decide) rfl (by decide +kernel : decode cX12_decades 82 = .ok (.istore 4, 2)) ?_
    refine r_iload h 4 rfl (by decide +kernel : decode cX12_decades 84 = .ok (.iload 5, 2)) ?_
    refine r_aloadn h (q := 0) 1 rfl (by decide +kernel : decode cX12_decades 86 = .ok (.aload_n 0, 1)) ?_
    refine r_getI h f_Mod_378 at1M (by decide +kernel : decode cX12_decades 87 = .ok (.getfield 378, 3)) ?_
    refine r_iadd h (by decide +kernel : decode cX12_decades 90 = .ok (.iadd, 1)) ?_
    refine r_istore h (L' := [(5, vi (x5 + (M3 1 51))), (4, vi (x4 + r3)), (0, vr 1), (2, vi x2), (3, vi x3), (6, vi x6)]) (by decide) rfl (by decide +kernel : decode cX12_decades 91 = .ok (.istore 5, 2)) ?_
    refine r_aloadn h (q := 0) 2 rfl (by decide +kernel : decode cX12_decades 93 = .ok (.aload_n 0, 1)) ?_
    refine r_getR h (r := 34) f_Mod_108 at1M rfl (by decide) (by decide +kernel : decode cX12_decades 94 = .ok (.getfield 108, 3)) ?_
    refine r_iconst h (v := 2) (by decide +kernel : decode cX12_decades 97 = .ok (.iconst 2, 1)) ?_
    refine r_iald h 2 rfl atM_34 (by decide) (by decide) (by decide +kernel : decode cX12_decades 98 = .ok (.iaload, 1)) ?_
    refine r_bipush h (v := 8) (by decide) (by decide +kernel : decode cX12_decades 99 = .ok (.bipush 8, 2)) ?_
    obtain ⟨g1, H⟩ := H
    obtain ⟨H1, H2⟩ := H
    refine r_icmp_le h 110 g1 (by decide) (by decide) (by decide +kernel : decode cX12_decades 101 = .ok (.if_icmp .le 9, 3)) (fun hc => ?_) (fun hc => ?_)
    · have H := H1 hc
      refine r_iinc h (i := 6) (v := 1) (L' := [(6, vi (x6 + 1)), (5, vi (x5 + (M3 1 51))), (4, vi (x4 + r3)), (0, vr 1), (2, vi x2), (3, vi x3)]) 5 rfl (by decide) rfl (by decide +kernel : decode cX12_decades 110 = .ok (.iinc 6 1, 3)) ?_
      refine r_goto h 65 (by decide) (by decide +kernel : decode cX12_decades 113 = .ok (.goto (-48), 3)) ?_
      refine r_drop h [3, 4, 5, 2, 1, 0] rfl ?_
      exact H
    · have H := H2 hc
      refine r_aloadn h (q := 0) 2 rfl (by decide +kernel : decode cX12_decades 104 = .ok (.aload_n 0, 1)) ?_
      refine r_bipush h (v := 9) (by decide) (by decide +kernel : decode cX12_decades 105 = .ok (.bipush 9, 2)) ?_
      obtain ⟨P4, hSP4, H⟩ := H
      refine r_callV h (as := [vi 9]) (S := []) (b := 1) m_Mod_406 hSP4 (by decide) (Nat.le_refl _) rfl at1M rfl (Nat.le_of_ble_eq_true rfl) (by decide +kernel : decode cX12_decades 107 = .ok (.invokevirtual 406, 3)) ?_
      rintro _ _ M4 ⟨rfl, rfl, hP⟩
      have H := H M4 hP
      show K NM RRM _ _ [] _
      refine r_iinc h (i := 6) (v := 1) (L' := [(6, vi (x6 + 1)), (5, vi (x5 + (M3 1 51))), (4, vi (x4 + r3)), (0, vr 1), (2, vi x2), (3, vi x3)]) 5 rfl (by decide) rfl (by decide +kernel : decode cX12_decades 110 = .ok (.iinc 6 1, 3)) ?_
      refine r_goto h 65 (by decide) (by decide +kernel : decode cX12_decades 113 = .ok (.goto (-48), 3)) ?_
      refine r_drop h [3, 4, 5, 2, 1, 0] rfl ?_
      exact H
set_option maxHeartbeats 4000000 in
set_option maxRecDepth 100000 in
theorem w_Mod_judged_0 {P : Int → Mm → Prop} {K : Nat → Rr → Nat → List (Nat × AV) → List AV → Mm → Prop} (h : EK shM yX12_judged cX12_judged 5 (some .int) 8 NM NM (QI RRM P) K) (x1 : Int) (M : Mm)
    (H : ∀ M1 : Mm, M1 = (upr M 1 (up1 (M 1) 0 0)) → ∃ P2 : Int → Mm → Prop, S_Mod_within x1 0 2 M1 P2 ∧ ∀ (r1 : Int) (M2 : Mm), P2 r1 M2 → (rng r1) ∧ (r1 ≠ 0 → (∃ P3 : Mm → Prop, S_Mod_copies 34 33 0 35 33 0 M2 P3 ∧ ∀ M3 : Mm, P3 M3 → ∃ P4 : Mm → Prop, S_Mod_fresh  M3 P4 ∧ ∀ M4 : Mm, P4 M4 → K NM RRM 41 [(0, vr 1), (1, vi x1), (2, vi (-1)), (3, vi (-1)), (4, vi 0)] [] M4)) ∧ (r1 = 0 → (P (-2) M2))) :
    K NM RRM 0 [(0, vr 1), (1, vi x1)] [] M := by
  refine r_aloadn h (q := 0) 0 rfl (by decide +kernel : decode cX12_judged 0 = .ok (.aload_n 0, 1)) ?_
  refine r_iconst h (v := 0) (by decide +kernel : decode cX12_judged 1 = .ok (.iconst 0, 1)) ?_
  refine r_putI h f_Mod_147 at1M rfl rfl (by decide +kernel : decode cX12_judged 2 = .ok (.putfield 147, 3)) ?_
  have H := H _ rfl
  revert H
  generalize (upr M 1 (up1 (M 1) 0 0)) = M1
  intro H
  refine r_iloadn h (q := 1) 1 rfl (by decide +kernel : decode cX12_judged 5 = .ok (.iload_n 1, 1)) ?_
  refine r_iconst h (v := 0) (by decide +kernel : decode cX12_judged 6 = .ok (.iconst 0, 1)) ?_
  refine r_iconst h (v := 2) (by decide +kernel : decode cX12_judged 7 = .ok (.iconst 2, 1)) ?_
  obtain ⟨P2, hSP2, H⟩ := H
  refine r_callS h (as := [vi x1, vi 0, vi 2]) (S := []) m_Mod_275 hSP2 (by decide) (Nat.le_refl _) rfl rfl (Nat.le_of_ble_eq_true rfl) (by decide +kernel : decode cX12_judged 8 = .ok (.invokestatic 275, 3)) ?_
  rintro _ _ M2 ⟨rfl, r1, rfl, hP⟩
  have H := H r1 M2 hP
  show K NM RRM _ _ [vi r1] _
  obtain ⟨g1, H⟩ := H
  obtain ⟨H1, H2⟩ := H
  refine r_if_ne h 17 g1 (by decide) (by decide +kernel : decode cX12_judged 11 = .ok (.ifCond .ne 6, 3)) (fun hc => ?_) (fun hc => ?_)
  · have H := H1 hc
    refine r_aloadn h (q := 0) 0 rfl (by decide +kernel : decode cX12_judged 17 = .ok (.aload_n 0, 1)) ?_
    refine r_getR h (r := 34) f_Mod_108 at1M rfl (by decide) (by decide +kernel : decode cX12_judged 18 = .ok (.getfield 108, 3)) ?_
    refine r_iconst h (v := 0) (by decide +kernel : decode cX12_judged 21 = .ok (.iconst 0, 1)) ?_
    refine r_aloadn h (q := 0) 0 rfl (by decide +kernel : decode cX12_judged 22 = .ok (.aload_n 0, 1)) ?_
    refine r_getR h (r := 35) f_Mod_111 at1M rfl (by decide) (by decide +kernel : decode cX12_judged 23 = .ok (.getfield 111, 3)) ?_
    refine r_iconst h (v := 0) (by decide +kernel : decode cX12_judged 26 = .ok (.iconst 0, 1)) ?_
    obtain ⟨P3, hSP3, H⟩ := H
    refine r_callS h (as := [vr 34, vi 0, vr 35, vi 0]) (S := []) m_Mod_393 hSP3 (by decide) (Nat.le_refl _) rfl rfl (Nat.le_of_ble_eq_true rfl) (by decide +kernel : decode cX12_judged 27 = .ok (.invokestatic 393, 3)) ?_
    rintro _ _ M3 ⟨rfl, rfl, hP⟩
    have H := H M3 hP
    show K NM RRM _ _ [] _
    refine r_aloadn h (q := 0) 0 rfl (by decide +kernel : decode cX12_judged 30 = .ok (.aload_n 0, 1)) ?_
    obtain ⟨P4, hSP4, H⟩ := H
    refine r_callV h (as := []) (S := []) (b := 1) m_Mod_144 hSP4 (by decide) (Nat.le_refl _) rfl at1M rfl (Nat.le_of_ble_eq_true rfl) (by decide +kernel : decode cX12_judged 31 = .ok (.invokevirtual 144, 3)) ?_
    rintro _ _ M4 ⟨rfl, rfl, hP⟩
    have H := H M4 hP
    show K NM RRM _ _ [] _
    refine r_iconst h (v := (-1)) (by decide +kernel : decode cX12_judged 34 = .ok (.iconst (-1), 1)) ?_
    refine r_istoren h (q := 2) (L' := [(2, vi (-1)), (0, vr 1), (1, vi x1)]) (by decide) rfl (by decide +kernel : decode cX12_judged 35 = .ok (.istore_n 2, 1)) ?_
    refine r_iconst h (v := (-1)) (by decide +kernel : decode cX12_judged 36 = .ok (.iconst (-1), 1)) ?_
    refine r_istoren h (q := 3) (L' := [(3, vi (-1)), (2, vi (-1)), (0, vr 1), (1, vi x1)]) (by decide) rfl (by decide +kernel : decode cX12_judged 37 = .ok (.istore_n 3, 1)) ?_
    refine r_iconst h (v := 0) (by decide +kernel : decode cX12_judged 38 = .ok (.iconst 0, 1)) ?_
    refine r_istore h (L' := [(4, vi 0), (3, vi (-1)), (2, vi (-1)), (0, vr 1), (1, vi x1)]) (by decide) rfl (by decide +kernel : decode cX12_judged 39 = .ok (.istore 4, 2)) ?_
    refine r_drop h [3, 4, 2, 1, 0] rfl ?_
    exact H
  · have H := H2 hc
    refine r_bipush h (v := (-2)) (by decide) (by decide +kernel : decode cX12_judged 14 = .ok (.bipush (-2), 2)) ?_
    exact r_iret h rfl (by decide +kernel : decode cX12_judged 16 = .ok (.ireturn, 1)) rfl ⟨rfl, _, rfl, H⟩
set_option maxHeartbeats 4000000 in
set_option maxRecDepth 100000 in
theorem w_Mod_judged_41 {P : Int → Mm → Prop} {K : Nat → Rr → Nat → List (Nat × AV) → List AV → Mm → Prop} (h : EK shM yX12_judged cX12_judged 5 (some .int) 8 NM NM (QI RRM P) K) (x1 : Int) (x2 : Int) (x3 : Int) (x4 : Int) (M : Mm)
    (H : (rng x4) ∧ (rng (M 26 0)) ∧ ((M 26 0) ≤ x4 → (∃ P1 : Mm → Prop, S_Mod_copies 35 33 0 34 33 0 M P1 ∧ ∀ M1 : Mm, P1 M1 → (rng x1) ∧ (x1 ≠ 0 → ((rng x1) ∧ (x1 ≠ 1 → (P (M 34 3) M1)) ∧ (x1 = 1 → (P x3 M1)))) ∧ (x1 = 0 → (P x2 M1)))) ∧ (¬ ((M 26 0) ≤ x4) → ((0 ≤ x4 ∧ x4 < 240) ∧ (rng (M 27 x4.toNat)) ∧ ((M 27 x4.toNat) ≠ 2 → (K NM RRM 77 [(0, vr 1), (1, vi x1), (2, vi x2), (3, vi x3), (4, vi x4)] [] M)) ∧ ((M 27 x4.toNat) = 2 → ((rng x3) ∧ (0 ≤ x3 → (K NM RRM 77 [(0, vr 1), (1, vi x1), (2, vi x2), (3, vi x3), (4, vi x4)] [] M)) ∧ (¬ (0 ≤ x3) → (∃ P2 : Int → Mm → Prop, S_Mod_shunnedNow  M P2 ∧ ∀ (r2 : Int) (M2 : Mm), P2 r2 M2 → (rng r2) ∧ (r2 ≤ 0 → (K NM RRM 77 [(0, vr 1), (1, vi x1), (2, vi x2), (3, vi x3), (4, vi x4)] [] M2)) ∧ (¬ (r2 ≤ 0) → (K NM RRM 77 [(0, vr 1), (1, vi x1), (2, vi x2), (3, vi x4), (4, vi x4)] [] M2))))))))) :
    K NM RRM 41 [(0, vr 1), (1, vi x1), (2, vi x2), (3, vi x3), (4, vi x4)] [] M := by
  refine r_iload h 4 rfl (by decide +kernel : decode cX12_judged 41 = .ok (.iload 4, 2)) ?_
  refine r_aloadn h (q := 0) 0 rfl (by decide +kernel : decode cX12_judged 43 = .ok (.aload_n 0, 1)) ?_
  refine r_getR h (r := 26) f_Mod_84 at1M rfl (by decide) (by decide +kernel : decode cX12_judged 44 = .ok (.getfield 84, 3)) ?_
  refine r_iconst h (v := 0) (by decide +kernel : decode cX12_judged 47 = .ok (.iconst 0, 1)) ?_
  refine r_iald h 0 rfl atM_26 (by decide) (by decide) (by decide +kernel : decode cX12_judged 48 = .ok (.iaload, 1)) ?_
  obtain ⟨g1, g2, H⟩ := H
  obtain ⟨H1, H2⟩ := H
  refine r_icmp_ge h 99 g1 g2 (by decide) (by decide +kernel : decode cX12_judged 49 = .ok (.if_icmp .ge 50, 3)) (fun hc => ?_) (fun hc => ?_)
  · have H := H1 hc
    refine r_aloadn h (q := 0) 0 rfl (by decide +kernel : decode cX12_judged 99 = .ok (.aload_n 0, 1)) ?_
    refine r_getR h (r := 34) f_Mod_108 at1M rfl (by decide) (by decide +kernel : decode cX12_judged 100 = .ok (.getfield 108, 3)) ?_
    refine r_iconst h (v := 3) (by decide +kernel : decode cX12_judged 103 = .ok (.iconst 3, 1)) ?_
    refine r_iald h 3 rfl atM_34 (by decide) (by decide) (by decide +kernel : decode cX12_judged 104 = .ok (.iaload, 1)) ?_
    refine r_istore h (L' := [(4, vi (M 34 3)), (0, vr 1), (1, vi x1), (2, vi x2), (3, vi x3)]) (by decide) rfl (by decide +kernel : decode cX12_judged 105 = .ok (.istore 4, 2)) ?_
    refine r_aloadn h (q := 0) 1 rfl (by decide +kernel : decode cX12_judged 107 = .ok (.aload_n 0, 1)) ?_
    refine r_getR h (r := 35) f_Mod_111 at1M rfl (by decide) (by decide +kernel : decode cX12_judged 108 = .ok (.getfield 111, 3)) ?_
    refine r_iconst h (v := 0) (by decide +kernel : decode cX12_judged 111 = .ok (.iconst 0, 1)) ?_
    refine r_aloadn h (q := 0) 1 rfl (by decide +kernel : decode cX12_judged 112 = .ok (.aload_n 0, 1)) ?_
    refine r_getR h (r := 34) f_Mod_108 at1M rfl (by decide) (by decide +kernel : decode cX12_judged 113 = .ok (.getfield 108, 3)) ?_
    refine r_iconst h (v := 0) (by decide +kernel : decode cX12_judged 116 = .ok (.iconst 0, 1)) ?_
    obtain ⟨P1, hSP1, H⟩ := H
    refine r_callS h (as := [vr 35, vi 0, vr 34, vi 0]) (S := []) m_Mod_393 hSP1 (by decide) (Nat.le_refl _) rfl rfl (Nat.le_of_ble_eq_true rfl) (by decide +kernel : decode cX12_judged 117 = .ok (.invokestatic 393, 3)) ?_
    rintro _ _ M1 ⟨rfl, rfl, hP⟩
    have H := H M1 hP
    show K NM RRM _ _ [] _
    refine r_iloadn h (q := 1) 2 rfl (by decide +kernel : decode cX12_judged 120 = .ok (.iload_n 1, 1)) ?_
    obtain ⟨g1, H⟩ := H
    obtain ⟨H1, H2⟩ := H
    refine r_if_ne h 128 g1 (by decide) (by decide +kernel : decode cX12_judged 121 = .ok (.ifCond .ne 7, 3)) (fun hc => ?_) (fun hc => ?_)
    · have H := H1 hc
      refine r_iloadn h (q := 1) 2 rfl (by decide +kernel : decode cX12_judged 128 = .ok (.iload_n 1, 1)) ?_
      refine r_iconst h (v := 1) (by decide +kernel : decode cX12_judged 129 = .ok (.iconst 1, 1)) ?_
      obtain ⟨g1, H⟩ := H
      obtain ⟨H1, H2⟩ := H
      refine r_icmp_ne h 137 g1 (by decide) (by decide) (by decide +kernel : decode cX12_judged 130 = .ok (.if_icmp .ne 7, 3)) (fun hc => ?_) (fun hc => ?_)
      · have H := H1 hc
        refine r_iload h 0 rfl (by decide +kernel : decode cX12_judged 137 = .ok (.iload 4, 2)) ?_
        exact r_iret h rfl (by decide +kernel : decode cX12_judged 139 = .ok (.ireturn, 1)) rfl ⟨rfl, _, rfl, H⟩
      · have H := H2 hc
        refine r_iloadn h (q := 3) 4 rfl (by decide +kernel : decode cX12_judged 133 = .ok (.iload_n 3, 1)) ?_
        refine r_goto h 139 (by decide) (by decide +kernel : decode cX12_judged 134 = .ok (.goto 5, 3)) ?_
        exact r_iret h rfl (by decide +kernel : decode cX12_judged 139 = .ok (.ireturn, 1)) rfl ⟨rfl, _, rfl, H⟩
    · have H := H2 hc
      refine r_iloadn h (q := 2) 3 rfl (by decide +kernel : decode cX12_judged 124 = .ok (.iload_n 2, 1)) ?_
      refine r_goto h 139 (by decide) (by decide +kernel : decode cX12_judged 125 = .ok (.goto 14, 3)) ?_
      exact r_iret h rfl (by decide +kernel : decode cX12_judged 139 = .ok (.ireturn, 1)) rfl ⟨rfl, _, rfl, H⟩
  · have H := H2 hc
    refine r_aloadn h (q := 0) 0 rfl (by decide +kernel : decode cX12_judged 52 = .ok (.aload_n 0, 1)) ?_
    refine r_getR h (r := 27) f_Mod_87 at1M rfl (by decide) (by decide +kernel : decode cX12_judged 53 = .ok (.getfield 87, 3)) ?_
    refine r_iload h 4 rfl (by decide +kernel : decode cX12_judged 56 = .ok (.iload 4, 2)) ?_
    obtain ⟨g1, H⟩ := H
    refine r_iald h x4.toNat rfl atM_27 g1 (by decide) (by decide +kernel : decode cX12_judged 58 = .ok (.iaload, 1)) ?_
    refine r_iconst h (v := 2) (by decide +kernel : decode cX12_judged 59 = .ok (.iconst 2, 1)) ?_
    obtain ⟨g1, H⟩ := H
    obtain ⟨H1, H2⟩ := H
    refine r_icmp_ne h 77 g1 (by decide) (by decide) (by decide +kernel : decode cX12_judged 60 = .ok (.if_icmp .ne 17, 3)) (fun hc => ?_) (fun hc => ?_)
    · have H := H1 hc
      exact H
    · have H := H2 hc
      refine r_iloadn h (q := 3) 3 rfl (by decide +kernel : decode cX12_judged 63 = .ok (.iload_n 3, 1)) ?_
      obtain ⟨g1, H⟩ := H
      obtain ⟨H1, H2⟩ := H
      refine r_if_ge h 77 g1 (by decide) (by decide +kernel : decode cX12_judged 64 = .ok (.ifCond .ge 13, 3)) (fun hc => ?_) (fun hc => ?_)
      · have H := H1 hc
        exact H
      · have H := H2 hc
        refine r_aloadn h (q := 0) 0 rfl (by decide +kernel : decode cX12_judged 67 = .ok (.aload_n 0, 1)) ?_
        obtain ⟨P2, hSP2, H⟩ := H
        refine r_callV h (as := []) (S := []) (b := 1) m_Mod_409 hSP2 (by decide) (Nat.le_refl _) rfl at1M rfl (Nat.le_of_ble_eq_true rfl) (by decide +kernel : decode cX12_judged 68 = .ok (.invokevirtual 409, 3)) ?_
        rintro _ _ M2 ⟨rfl, r2, rfl, hP⟩
        have H := H r2 M2 hP
        show K NM RRM _ _ [vi r2] _
        obtain ⟨g1, H⟩ := H
        obtain ⟨H1, H2⟩ := H
        refine r_if_le h 77 g1 (by decide) (by decide +kernel : decode cX12_judged 71 = .ok (.ifCond .le 6, 3)) (fun hc => ?_) (fun hc => ?_)
        · have H := H1 hc
          exact H
        · have H := H2 hc
          refine r_iload h 4 rfl (by decide +kernel : decode cX12_judged 74 = .ok (.iload 4, 2)) ?_
          refine r_istoren h (q := 3) (L' := [(3, vi x4), (0, vr 1), (1, vi x1), (2, vi x2), (4, vi x4)]) (by decide) rfl (by decide +kernel : decode cX12_judged 76 = .ok (.istore_n 3, 1)) ?_
          refine r_drop h [1, 2, 3, 0, 4] rfl ?_
          exact H
set_option maxHeartbeats 4000000 in
set_option maxRecDepth 100000 in
theorem w_Mod_judged_77 {P : Int → Mm → Prop} {K : Nat → Rr → Nat → List (Nat × AV) → List AV → Mm → Prop} (h : EK shM yX12_judged cX12_judged 5 (some .int) 8 NM NM (QI RRM P) K) (x1 : Int) (x2 : Int) (x3 : Int) (x4 : Int) (M : Mm)
    (H : ∃ P1 : Int → Mm → Prop, S_Mod_goes x4 M P1 ∧ ∀ (r1 : Int) (M1 : Mm), P1 r1 M1 → (rng r1) ∧ (r1 ≠ 0 → (K NM RRM 41 [(0, vr 1), (1, vi x1), (2, vi x2), (3, vi x3), (4, vi (x4 + 1))] [] M1)) ∧ (r1 = 0 → ((rng x2) ∧ (0 ≤ x2 → (K NM RRM 41 [(0, vr 1), (1, vi x1), (2, vi x2), (3, vi x3), (4, vi (x4 + 1))] [] M1)) ∧ (¬ (0 ≤ x2) → (K NM RRM 41 [(0, vr 1), (1, vi x1), (2, vi x4), (3, vi x3), (4, vi (x4 + 1))] [] M1))))) :
    K NM RRM 77 [(0, vr 1), (1, vi x1), (2, vi x2), (3, vi x3), (4, vi x4)] [] M := by
  refine r_aloadn h (q := 0) 0 rfl (by decide +kernel : decode cX12_judged 77 = .ok (.aload_n 0, 1)) ?_
  refine r_iload h 4 rfl (by decide +kernel : decode cX12_judged 78 = .ok (.iload 4, 2)) ?_
  obtain ⟨P1, hSP1, H⟩ := H
  refine r_callV h (as := [vi x4]) (S := []) (b := 1) m_Mod_412 hSP1 (by decide) (Nat.le_refl _) rfl at1M rfl (Nat.le_of_ble_eq_true rfl) (by decide +kernel : decode cX12_judged 80 = .ok (.invokevirtual 412, 3)) ?_
  rintro _ _ M1 ⟨rfl, r1, rfl, hP⟩
  have H := H r1 M1 hP
  show K NM RRM _ _ [vi r1] _
  obtain ⟨g1, H⟩ := H
  obtain ⟨H1, H2⟩ := H
  refine r_if_ne h 93 g1 (by decide) (by decide +kernel : decode cX12_judged 83 = .ok (.ifCond .ne 10, 3)) (fun hc => ?_) (fun hc => ?_)
  · have H := H1 hc
    refine r_iinc h (i := 4) (v := 1) (L' := [(4, vi (x4 + 1)), (0, vr 1), (1, vi x1), (2, vi x2), (3, vi x3)]) 4 rfl (by decide) rfl (by decide +kernel : decode cX12_judged 93 = .ok (.iinc 4 1, 3)) ?_
    refine r_goto h 41 (by decide) (by decide +kernel : decode cX12_judged 96 = .ok (.goto (-55), 3)) ?_
    refine r_drop h [1, 2, 3, 4, 0] rfl ?_
    exact H
  · have H := H2 hc
    refine r_iloadn h (q := 2) 2 rfl (by decide +kernel : decode cX12_judged 86 = .ok (.iload_n 2, 1)) ?_
    obtain ⟨g1, H⟩ := H
    obtain ⟨H1, H2⟩ := H
    refine r_if_ge h 93 g1 (by decide) (by decide +kernel : decode cX12_judged 87 = .ok (.ifCond .ge 6, 3)) (fun hc => ?_) (fun hc => ?_)
    · have H := H1 hc
      refine r_iinc h (i := 4) (v := 1) (L' := [(4, vi (x4 + 1)), (0, vr 1), (1, vi x1), (2, vi x2), (3, vi x3)]) 4 rfl (by decide) rfl (by decide +kernel : decode cX12_judged 93 = .ok (.iinc 4 1, 3)) ?_
      refine r_goto h 41 (by decide) (by decide +kernel : decode cX12_judged 96 = .ok (.goto (-55), 3)) ?_
      refine r_drop h [1, 2, 3, 4, 0] rfl ?_
      exact H
    · have H := H2 hc
      refine r_iload h 4 rfl (by decide +kernel : decode cX12_judged 90 = .ok (.iload 4, 2)) ?_
      refine r_istoren h (q := 2) (L' := [(2, vi x4), (0, vr 1), (1, vi x1), (3, vi x3), (4, vi x4)]) (by decide) rfl (by decide +kernel : decode cX12_judged 92 = .ok (.istore_n 2, 1)) ?_
      refine r_iinc h (i := 4) (v := 1) (L' := [(4, vi (x4 + 1)), (2, vi x4), (0, vr 1), (1, vi x1), (3, vi x3)]) 4 rfl (by decide) rfl (by decide +kernel : decode cX12_judged 93 = .ok (.iinc 4 1, 3)) ?_
      refine r_goto h 41 (by decide) (by decide +kernel : decode cX12_judged 96 = .ok (.goto (-55), 3)) ?_
      refine r_drop h [2, 3, 1, 4, 0] rfl ?_
      exact H
set_option maxHeartbeats 4000000 in
set_option maxRecDepth 100000 in
theorem w_Mod_goesOn_0 {dd : Nat} {P : Mm → Prop} {K : Nat → Rr → Nat → List (Nat × AV) → List AV → Mm → Prop} (h : EK shM yX12_goesOn cX12_goesOn 6 none (dd + 1) NM NM (QV RRM P) K) (hdd : 4 ≤ dd) (x1 : Int) (x2 : Int) (x3 : Int) (x4 : Int) (M : Mm)
    (H : (rng x2) ∧ (x2 ≠ 0 → ((rng (M 1 54)) ∧ ((M 1 54) < 0 → (K NM RRM 78 [(0, vr 1), (1, vi x1), (2, vi x2), (3, vi x3), (4, vi x4), (5, vi 0)] [] M)) ∧ (¬ ((M 1 54) < 0) → ((rng x4) ∧ (rng (M 1 54)) ∧ (x4 < (M 1 54) → (K NM RRM 78 [(0, vr 1), (1, vi x1), (2, vi x2), (3, vi x3), (4, vi x4), (5, vi 0)] [] M)) ∧ (¬ (x4 < (M 1 54)) → (P M)))))) ∧ (x2 = 0 → ((rng (M 1 54)) ∧ ((M 1 54) < 0 → (∀ M1 : Mm, M1 = (upr M 1 (up1 (M 1) 54 x4)) → K NM RRM 30 [(0, vr 1), (5, vi 0)] [] M1)) ∧ (¬ ((M 1 54) < 0) → ((rng x4) ∧ (rng (M 1 54)) ∧ (x4 < (M 1 54) → (∀ M2 : Mm, M2 = (upr M 1 (up1 (M 1) 54 x4)) → K NM RRM 30 [(0, vr 1), (5, vi 0)] [] M2)) ∧ (¬ (x4 < (M 1 54)) → (P M))))))) :
    K NM RRM 0 [(0, vr 1), (1, vi x1), (2, vi x2), (3, vi x3), (4, vi x4)] [] M := by
  refine r_iloadn h (q := 2) 2 rfl (by decide +kernel : decode cX12_goesOn 0 = .ok (.iload_n 2, 1)) ?_
  obtain ⟨g1, H⟩ := H
  obtain ⟨H1, H2⟩ := H
  refine r_if_ne h 58 g1 (by decide) (by decide +kernel : decode cX12_goesOn 1 = .ok (.ifCond .ne 57, 3)) (fun hc => ?_) (fun hc => ?_)
  · have H := H1 hc
    refine r_aloadn h (q := 0) 0 rfl (by decide +kernel : decode cX12_goesOn 58 = .ok (.aload_n 0, 1)) ?_
    refine r_getI h f_Mod_415 at1M (by decide +kernel : decode cX12_goesOn 59 = .ok (.getfield 415, 3)) ?_
    obtain ⟨g1, H⟩ := H
    obtain ⟨H1, H2⟩ := H
    refine r_if_lt h 75 g1 (by decide) (by decide +kernel : decode cX12_goesOn 62 = .ok (.ifCond .lt 13, 3)) (fun hc => ?_) (fun hc => ?_)
    · have H := H1 hc
      refine r_iconst h (v := 0) (by decide +kernel : decode cX12_goesOn 75 = .ok (.iconst 0, 1)) ?_
      refine r_istore h (L' := [(5, vi 0), (0, vr 1), (1, vi x1), (2, vi x2), (3, vi x3), (4, vi x4)]) (by decide) rfl (by decide +kernel : decode cX12_goesOn 76 = .ok (.istore 5, 2)) ?_
      refine r_drop h [1, 2, 3, 4, 5, 0] rfl ?_
      exact H
    · have H := H2 hc
      refine r_iload h 4 rfl (by decide +kernel : decode cX12_goesOn 65 = .ok (.iload 4, 2)) ?_
      refine r_aloadn h (q := 0) 0 rfl (by decide +kernel : decode cX12_goesOn 67 = .ok (.aload_n 0, 1)) ?_
      refine r_getI h f_Mod_415 at1M (by decide +kernel : decode cX12_goesOn 68 = .ok (.getfield 415, 3)) ?_
      obtain ⟨g1, g2, H⟩ := H
      obtain ⟨H1, H2⟩ := H
      refine r_icmp_lt h 75 g1 g2 (by decide) (by decide +kernel : decode cX12_goesOn 71 = .ok (.if_icmp .lt 4, 3)) (fun hc => ?_) (fun hc => ?_)
      · have H := H1 hc
        refine r_iconst h (v := 0) (by decide +kernel : decode cX12_goesOn 75 = .ok (.iconst 0, 1)) ?_
        refine r_istore h (L' := [(5, vi 0), (0, vr 1), (1, vi x1), (2, vi x2), (3, vi x3), (4, vi x4)]) (by decide) rfl (by decide +kernel : decode cX12_goesOn 76 = .ok (.istore 5, 2)) ?_
        refine r_drop h [1, 2, 3, 4, 5, 0] rfl ?_
        exact H
      · have H := H2 hc
        exact r_vret h rfl (by decide +kernel : decode cX12_goesOn 74 = .ok (.return_, 1)) rfl ⟨rfl, rfl, H⟩
  · have H := H2 hc
    refine r_aloadn h (q := 0) 0 rfl (by decide +kernel : decode cX12_goesOn 4 = .ok (.aload_n 0, 1)) ?_
    refine r_getI h f_Mod_415 at1M (by decide +kernel : decode cX12_goesOn 5 = .ok (.getfield 415, 3)) ?_
    obtain ⟨g1, H⟩ := H
    obtain ⟨H1, H2⟩ := H
    refine r_if_lt h 21 g1 (by decide) (by decide +kernel : decode cX12_goesOn 8 = .ok (.ifCond .lt 13, 3)) (fun hc => ?_) (fun hc => ?_)
    · have H := H1 hc
      refine r_aloadn h (q := 0) 0 rfl (by decide +kernel : decode cX12_goesOn 21 = .ok (.aload_n 0, 1)) ?_
      refine r_iload h 4 rfl (by decide +kernel : decode cX12_goesOn 22 = .ok (.iload 4, 2)) ?_
      refine r_putI h f_Mod_415 at1M rfl rfl (by decide +kernel : decode cX12_goesOn 24 = .ok (.putfield 415, 3)) ?_
      have H := H _ rfl
      revert H
      generalize (upr M 1 (up1 (M 1) 54 x4)) = M1
      intro H
      refine r_iconst h (v := 0) (by decide +kernel : decode cX12_goesOn 27 = .ok (.iconst 0, 1)) ?_
      refine r_istore h (L' := [(5, vi 0), (0, vr 1), (1, vi x1), (2, vi x2), (3, vi x3), (4, vi x4)]) (by decide) rfl (by decide +kernel : decode cX12_goesOn 28 = .ok (.istore 5, 2)) ?_
      refine r_drop h [1, 0] rfl ?_
      exact H
    · have H := H2 hc
      refine r_iload h 4 rfl (by decide +kernel : decode cX12_goesOn 11 = .ok (.iload 4, 2)) ?_
      refine r_aloadn h (q := 0) 0 rfl (by decide +kernel : decode cX12_goesOn 13 = .ok (.aload_n 0, 1)) ?_
      refine r_getI h f_Mod_415 at1M (by decide +kernel : decode cX12_goesOn 14 = .ok (.getfield 415, 3)) ?_
      obtain ⟨g1, g2, H⟩ := H
      obtain ⟨H1, H2⟩ := H
      refine r_icmp_lt h 21 g1 g2 (by decide) (by decide +kernel : decode cX12_goesOn 17 = .ok (.if_icmp .lt 4, 3)) (fun hc => ?_) (fun hc => ?_)
      · have H := H1 hc
        refine r_aloadn h (q := 0) 0 rfl (by decide +kernel : decode cX12_goesOn 21 = .ok (.aload_n 0, 1)) ?_
        refine r_iload h 4 rfl (by decide +kernel : decode cX12_goesOn 22 = .ok (.iload 4, 2)) ?_
        refine r_putI h f_Mod_415 at1M rfl rfl (by decide +kernel : decode cX12_goesOn 24 = .ok (.putfield 415, 3)) ?_
        have H := H _ rfl
        revert H
        generalize (upr M 1 (up1 (M 1) 54 x4)) = M2
        intro H
        refine r_iconst h (v := 0) (by decide +kernel : decode cX12_goesOn 27 = .ok (.iconst 0, 1)) ?_
        refine r_istore h (L' := [(5, vi 0), (0, vr 1), (1, vi x1), (2, vi x2), (3, vi x3), (4, vi x4)]) (by decide) rfl (by decide +kernel : decode cX12_goesOn 28 = .ok (.istore 5, 2)) ?_
        refine r_drop h [1, 0] rfl ?_
        exact H
      · have H := H2 hc
        exact r_vret h rfl (by decide +kernel : decode cX12_goesOn 20 = .ok (.return_, 1)) rfl ⟨rfl, rfl, H⟩
set_option maxHeartbeats 4000000 in
set_option maxRecDepth 100000 in
theorem w_Mod_goesOn_78 {dd : Nat} {P : Mm → Prop} {K : Nat → Rr → Nat → List (Nat × AV) → List AV → Mm → Prop} (h : EK shM yX12_goesOn cX12_goesOn 6 none (dd + 1) NM NM (QV RRM P) K) (hdd : 4 ≤ dd) (x1 : Int) (x2 : Int) (x3 : Int) (x4 : Int) (x5 : Int) (M : Mm)
    (H : (rng x5) ∧ (rng (M 3 0)) ∧ ((M 3 0) ≤ x5 → (P M)) ∧ (¬ ((M 3 0) ≤ x5) → (((andI (shrI x2 x5) 1) = 0 → (K NM RRM 78 [(0, vr 1), (1, vi x1), (2, vi x2), (3, vi x3), (4, vi x4), (5, vi (x5 + 1))] [] M)) ∧ ((andI (shrI x2 x5) 1) ≠ 0 → ((rng (M 1 55)) ∧ ((M 1 55) ≠ 0 → (K NM RRM 118 [(0, vr 1), (1, vi x1), (2, vi x2), (3, vi x3), (4, vi x4), (5, vi x5)] [] M)) ∧ ((M 1 55) = 0 → (∃ P1 : Int → Mm → Prop, S_Mod_doesShun x5 x3 M P1 ∧ ∀ (r1 : Int) (M1 : Mm), P1 r1 M1 → (rng r1) ∧ (r1 = 0 → (K NM RRM 118 [(0, vr 1), (1, vi x1), (2, vi x2), (3, vi x3), (4, vi x4), (5, vi x5)] [] M1)) ∧ (r1 ≠ 0 → (K NM RRM 78 [(0, vr 1), (1, vi x1), (2, vi x2), (3, vi x3), (4, vi x4), (5, vi (x5 + 1))] [] M1))))))))) :
    K NM RRM 78 [(0, vr 1), (1, vi x1), (2, vi x2), (3, vi x3), (4, vi x4), (5, vi x5)] [] M := by
  refine r_iload h 5 rfl (by decide +kernel : decode cX12_goesOn 78 = .ok (.iload 5, 2)) ?_
  refine r_aloadn h (q := 0) 0 rfl (by decide +kernel : decode cX12_goesOn 80 = .ok (.aload_n 0, 1)) ?_
  refine r_getR h (r := 3) f_Mod_13 at1M rfl (by decide) (by decide +kernel : decode cX12_goesOn 81 = .ok (.getfield 13, 3)) ?_
  refine r_iconst h (v := 0) (by decide +kernel : decode cX12_goesOn 84 = .ok (.iconst 0, 1)) ?_
  refine r_iald h 0 rfl atM_3 (by decide) (by decide) (by decide +kernel : decode cX12_goesOn 85 = .ok (.iaload, 1)) ?_
  obtain ⟨g1, g2, H⟩ := H
  obtain ⟨H1, H2⟩ := H
  refine r_icmp_ge h 174 g1 g2 (by decide) (by decide +kernel : decode cX12_goesOn 86 = .ok (.if_icmp .ge 88, 3)) (fun hc => ?_) (fun hc => ?_)
  · have H := H1 hc
    exact r_vret h rfl (by decide +kernel : decode cX12_goesOn 174 = .ok (.return_, 1)) rfl ⟨rfl, rfl, H⟩
  · have H := H2 hc
    refine r_iloadn h (q := 2) 2 rfl (by decide +kernel : decode cX12_goesOn 89 = .ok (.iload_n 2, 1)) ?_
    refine r_iload h 5 rfl (by decide +kernel : decode cX12_goesOn 90 = .ok (.iload 5, 2)) ?_
    refine r_ishr h (by decide +kernel : decode cX12_goesOn 92 = .ok (.ishr, 1)) ?_
    refine r_iconst h (v := 1) (by decide +kernel : decode cX12_goesOn 93 = .ok (.iconst 1, 1)) ?_
    refine r_iand h (by decide +kernel : decode cX12_goesOn 94 = .ok (.iand, 1)) ?_
    obtain ⟨H1, H2⟩ := H
    refine r_if_eq h 168 (rng_toInt _) (by decide) (by decide +kernel : decode cX12_goesOn 95 = .ok (.ifCond .eq 73, 3)) (fun hc => ?_) (fun hc => ?_)
    · have H := H1 hc
      refine r_iinc h (i := 5) (v := 1) (L' := [(5, vi (x5 + 1)), (0, vr 1), (1, vi x1), (2, vi x2), (3, vi x3), (4, vi x4)]) 5 rfl (by decide) rfl (by decide +kernel : decode cX12_goesOn 168 = .ok (.iinc 5 1, 3)) ?_
      refine r_goto h 78 (by decide) (by decide +kernel : decode cX12_goesOn 171 = .ok (.goto (-93), 3)) ?_
      refine r_drop h [1, 2, 3, 4, 5, 0] rfl ?_
      exact H
    · have H := H2 hc
      refine r_aloadn h (q := 0) 0 rfl (by decide +kernel : decode cX12_goesOn 98 = .ok (.aload_n 0, 1)) ?_
      refine r_getZ h f_Mod_418 at1M (by decide +kernel : decode cX12_goesOn 99 = .ok (.getfield 418, 3)) ?_
      obtain ⟨g1, H⟩ := H
      obtain ⟨H1, H2⟩ := H
      refine r_if_ne h 118 g1 (by decide) (by decide +kernel : decode cX12_goesOn 102 = .ok (.ifCond .ne 16, 3)) (fun hc => ?_) (fun hc => ?_)
      · have H := H1 hc
        exact H
      · have H := H2 hc
        refine r_aloadn h (q := 0) 0 rfl (by decide +kernel : decode cX12_goesOn 105 = .ok (.aload_n 0, 1)) ?_
        refine r_iload h 5 rfl (by decide +kernel : decode cX12_goesOn 106 = .ok (.iload 5, 2)) ?_
        refine r_iloadn h (q := 3) 3 rfl (by decide +kernel : decode cX12_goesOn 108 = .ok (.iload_n 3, 1)) ?_
        obtain ⟨P1, hSP1, H⟩ := H
        refine r_callV h (as := [vi x5, vi x3]) (S := []) (b := 1) m_Mod_369 hSP1 (by omega) (Nat.le_refl _) rfl at1M rfl (Nat.le_of_ble_eq_true rfl) (by decide +kernel : decode cX12_goesOn 109 = .ok (.invokevirtual 369, 3)) ?_
        rintro _ _ M1 ⟨rfl, r1, rfl, hP⟩
        have H := H r1 M1 hP
        show K NM RRM _ _ [vi r1] _
        obtain ⟨g1, H⟩ := H
        obtain ⟨H1, H2⟩ := H
        refine r_if_eq h 118 g1 (by decide) (by decide +kernel : decode cX12_goesOn 112 = .ok (.ifCond .eq 6, 3)) (fun hc => ?_) (fun hc => ?_)
        · have H := H1 hc
          exact H
        · have H := H2 hc
          refine r_goto h 168 (by decide) (by decide +kernel : decode cX12_goesOn 115 = .ok (.goto 53, 3)) ?_
          refine r_iinc h (i := 5) (v := 1) (L' := [(5, vi (x5 + 1)), (0, vr 1), (1, vi x1), (2, vi x2), (3, vi x3), (4, vi x4)]) 5 rfl (by decide) rfl (by decide +kernel : decode cX12_goesOn 168 = .ok (.iinc 5 1, 3)) ?_
          refine r_goto h 78 (by decide) (by decide +kernel : decode cX12_goesOn 171 = .ok (.goto (-93), 3)) ?_
          refine r_drop h [1, 2, 3, 4, 5, 0] rfl ?_
          exact H
set_option maxHeartbeats 4000000 in
set_option maxRecDepth 100000 in
theorem w_Mod_goesOn_30 {dd : Nat} {P : Mm → Prop} {K : Nat → Rr → Nat → List (Nat × AV) → List AV → Mm → Prop} (h : EK shM yX12_goesOn cX12_goesOn 6 none (dd + 1) NM NM (QV RRM P) K) (hdd : 4 ≤ dd) (x5 : Int) (M : Mm)
    (H : (rng x5) ∧ (7 ≤ x5 → (P M)) ∧ (¬ (7 ≤ x5) → ((0 ≤ x5 ∧ x5 < 7) ∧ (0 ≤ x5 ∧ x5 < 7) ∧ ∀ M1 : Mm, M1 = (upr M 40 (up1 (M 40) x5.toNat (M 39 x5.toNat))) → K NM RRM 30 [(0, vr 1), (5, vi (x5 + 1))] [] M1))) :
    K NM RRM 30 [(0, vr 1), (5, vi x5)] [] M := by
  refine r_iload h 1 rfl (by decide +kernel : decode cX12_goesOn 30 = .ok (.iload 5, 2)) ?_
  refine r_bipush h (v := 7) (by decide) (by decide +kernel : decode cX12_goesOn 32 = .ok (.bipush 7, 2)) ?_
  obtain ⟨g1, H⟩ := H
  obtain ⟨H1, H2⟩ := H
  refine r_icmp_ge h 57 g1 (by decide) (by decide) (by decide +kernel : decode cX12_goesOn 34 = .ok (.if_icmp .ge 23, 3)) (fun hc => ?_) (fun hc => ?_)
  · have H := H1 hc
    exact r_vret h rfl (by decide +kernel : decode cX12_goesOn 57 = .ok (.return_, 1)) rfl ⟨rfl, rfl, H⟩
  · have H := H2 hc
    refine r_aloadn h (q := 0) 0 rfl (by decide +kernel : decode cX12_goesOn 37 = .ok (.aload_n 0, 1)) ?_
    refine r_getR h (r := 40) f_Mod_126 at1M rfl (by decide) (by decide +kernel : decode cX12_goesOn 38 = .ok (.getfield 126, 3)) ?_
    refine r_iload h 1 rfl (by decide +kernel : decode cX12_goesOn 41 = .ok (.iload 5, 2)) ?_
    refine r_aloadn h (q := 0) 0 rfl (by decide +kernel : decode cX12_goesOn 43 = .ok (.aload_n 0, 1)) ?_
    refine r_getR h (r := 39) f_Mod_123 at1M rfl (by decide) (by decide +kernel : decode cX12_goesOn 44 = .ok (.getfield 123, 3)) ?_
    refine r_iload h 1 rfl (by decide +kernel : decode cX12_goesOn 47 = .ok (.iload 5, 2)) ?_
    obtain ⟨g1, H⟩ := H
    refine r_iald h x5.toNat rfl atM_39 g1 (by decide) (by decide +kernel : decode cX12_goesOn 49 = .ok (.iaload, 1)) ?_
    obtain ⟨g1, H⟩ := H
    refine r_iast h x5.toNat rfl atM_40 g1 (by decide) (by decide +kernel : decode cX12_goesOn 50 = .ok (.iastore, 1)) ?_
    have H := H _ rfl
    revert H
    generalize (upr M 40 (up1 (M 40) x5.toNat (M 39 x5.toNat))) = M1
    intro H
    refine r_iinc h (i := 5) (v := 1) (L' := [(5, vi (x5 + 1)), (0, vr 1)]) 1 rfl (by decide) rfl (by decide +kernel : decode cX12_goesOn 51 = .ok (.iinc 5 1, 3)) ?_
    refine r_goto h 30 (by decide) (by decide +kernel : decode cX12_goesOn 54 = .ok (.goto (-24), 3)) ?_
    refine r_drop h [1, 0] rfl ?_
    exact H
set_option maxHeartbeats 4000000 in
set_option maxRecDepth 100000 in
theorem w_Mod_goesOn_118 {dd : Nat} {P : Mm → Prop} {K : Nat → Rr → Nat → List (Nat × AV) → List AV → Mm → Prop} (h : EK shM yX12_goesOn cX12_goesOn 6 none (dd + 1) NM NM (QV RRM P) K) (hdd : 4 ≤ dd) (x1 : Int) (x2 : Int) (x3 : Int) (x4 : Int) (x5 : Int) (M : Mm)
    (H : (0 ≤ x1 ∧ x1 < 7) ∧ ∀ M1 : Mm, M1 = (upr M 39 (up1 (M 39) x1.toNat x5)) → (0 ≤ x5 ∧ x5 < 14) ∧ (rng (M1 5 x5.toNat)) ∧ ((M1 5 x5.toNat) ≠ 3 → (∃ P2 : Int → Mm → Prop, S_Mod_printedBy x3 x5 M1 P2 ∧ ∀ (r1 : Int) (M2 : Mm), P2 r1 M2 → ∃ P3 : Mm → Prop, S_Mod_goesOn dd (x1 + 1) (andI x2 (xorI (shlI 1 x5) (-1))) x5 (x4 + r1) M2 P3 ∧ ∀ M3 : Mm, P3 M3 → K NM RRM 78 [(0, vr 1), (1, vi x1), (2, vi x2), (3, vi x3), (4, vi x4), (5, vi (x5 + 1))] [] M3)) ∧ ((M1 5 x5.toNat) = 3 → (∃ P4 : Int → Mm → Prop, S_Mod_printedBy x3 x5 M1 P4 ∧ ∀ (r3 : Int) (M4 : Mm), P4 r3 M4 → ∃ P5 : Mm → Prop, S_Mod_goesOn dd (x1 + 1) (andI x2 (xorI (shlI 1 x5) (-1))) x3 (x4 + r3) M4 P5 ∧ ∀ M5 : Mm, P5 M5 → K NM RRM 78 [(0, vr 1), (1, vi x1), (2, vi x2), (3, vi x3), (4, vi x4), (5, vi (x5 + 1))] [] M5))) :
    K NM RRM 118 [(0, vr 1), (1, vi x1), (2, vi x2), (3, vi x3), (4, vi x4), (5, vi x5)] [] M := by
  refine r_aloadn h (q := 0) 0 rfl (by decide +kernel : decode cX12_goesOn 118 = .ok (.aload_n 0, 1)) ?_
  refine r_getR h (r := 39) f_Mod_123 at1M rfl (by decide) (by decide +kernel : decode cX12_goesOn 119 = .ok (.getfield 123, 3)) ?_
  refine r_iloadn h (q := 1) 1 rfl (by decide +kernel : decode cX12_goesOn 122 = .ok (.iload_n 1, 1)) ?_
  refine r_iload h 5 rfl (by decide +kernel : decode cX12_goesOn 123 = .ok (.iload 5, 2)) ?_
  obtain ⟨g1, H⟩ := H
  refine r_iast h x1.toNat rfl atM_39 g1 (by decide) (by decide +kernel : decode cX12_goesOn 125 = .ok (.iastore, 1)) ?_
  have H := H _ rfl
  revert H
  generalize (upr M 39 (up1 (M 39) x1.toNat x5)) = M1
  intro H
  refine r_aloadn h (q := 0) 0 rfl (by decide +kernel : decode cX12_goesOn 126 = .ok (.aload_n 0, 1)) ?_
  refine r_iloadn h (q := 1) 1 rfl (by decide +kernel : decode cX12_goesOn 127 = .ok (.iload_n 1, 1)) ?_
  refine r_iconst h (v := 1) (by decide +kernel : decode cX12_goesOn 128 = .ok (.iconst 1, 1)) ?_
  refine r_iadd h (by decide +kernel : decode cX12_goesOn 129 = .ok (.iadd, 1)) ?_
  refine r_iloadn h (q := 2) 2 rfl (by decide +kernel : decode cX12_goesOn 130 = .ok (.iload_n 2, 1)) ?_
  refine r_iconst h (v := 1) (by decide +kernel : decode cX12_goesOn 131 = .ok (.iconst 1, 1)) ?_
  refine r_iload h 5 rfl (by decide +kernel : decode cX12_goesOn 132 = .ok (.iload 5, 2)) ?_
  refine r_ishl h (by decide +kernel : decode cX12_goesOn 134 = .ok (.ishl, 1)) ?_
  refine r_iconst h (v := (-1)) (by decide +kernel : decode cX12_goesOn 135 = .ok (.iconst (-1), 1)) ?_
  refine r_ixor h (by decide +kernel : decode cX12_goesOn 136 = .ok (.ixor, 1)) ?_
  refine r_iand h (by decide +kernel : decode cX12_goesOn 137 = .ok (.iand, 1)) ?_
  refine r_aloadn h (q := 0) 0 rfl (by decide +kernel : decode cX12_goesOn 138 = .ok (.aload_n 0, 1)) ?_
  refine r_getR h (r := 5) f_Mod_20 at1M rfl (by decide) (by decide +kernel : decode cX12_goesOn 139 = .ok (.getfield 20, 3)) ?_
  refine r_iload h 5 rfl (by decide +kernel : decode cX12_goesOn 142 = .ok (.iload 5, 2)) ?_
  obtain ⟨g1, H⟩ := H
  refine r_iald h x5.toNat rfl atM_5 g1 (by decide) (by decide +kernel : decode cX12_goesOn 144 = .ok (.iaload, 1)) ?_
  refine r_iconst h (v := 3) (by decide +kernel : decode cX12_goesOn 145 = .ok (.iconst 3, 1)) ?_
  obtain ⟨g1, H⟩ := H
  obtain ⟨H1, H2⟩ := H
  refine r_icmp_ne h 153 g1 (by decide) (by decide) (by decide +kernel : decode cX12_goesOn 146 = .ok (.if_icmp .ne 7, 3)) (fun hc => ?_) (fun hc => ?_)
  · have H := H1 hc
    refine r_iload h 5 rfl (by decide +kernel : decode cX12_goesOn 153 = .ok (.iload 5, 2)) ?_
    refine r_iload h 4 rfl (by decide +kernel : decode cX12_goesOn 155 = .ok (.iload 4, 2)) ?_
    refine r_aloadn h (q := 0) 0 rfl (by decide +kernel : decode cX12_goesOn 157 = .ok (.aload_n 0, 1)) ?_
    refine r_iloadn h (q := 3) 3 rfl (by decide +kernel : decode cX12_goesOn 158 = .ok (.iload_n 3, 1)) ?_
    refine r_iload h 5 rfl (by decide +kernel : decode cX12_goesOn 159 = .ok (.iload 5, 2)) ?_
    obtain ⟨P2, hSP2, H⟩ := H
    refine r_callV h (as := [vi x3, vi x5]) (S := [vi x4, vi x5, vi (andI x2 (xorI (shlI 1 x5) (-1))), vi (x1 + 1), vr 1]) (b := 1) m_Mod_375 hSP2 (by omega) (Nat.le_refl _) rfl at1M rfl (Nat.le_of_ble_eq_true rfl) (by decide +kernel : decode cX12_goesOn 161 = .ok (.invokevirtual 375, 3)) ?_
    rintro _ _ M2 ⟨rfl, r1, rfl, hP⟩
    have H := H r1 M2 hP
    show K NM RRM _ _ [vi r1, vi x4, vi x5, vi (andI x2 (xorI (shlI 1 x5) (-1))), vi (x1 + 1), vr 1] _
    refine r_iadd h (by decide +kernel : decode cX12_goesOn 164 = .ok (.iadd, 1)) ?_
    obtain ⟨P3, hSP3, H⟩ := H
    refine r_callV h (as := [vi (x1 + 1), vi (andI x2 (xorI (shlI 1 x5) (-1))), vi x5, vi (x4 + r1)]) (S := []) (b := 1) m_Mod_422 hSP3 (Nat.le_refl _) (Nat.le_refl _) rfl at1M rfl (Nat.le_of_ble_eq_true rfl) (by decide +kernel : decode cX12_goesOn 165 = .ok (.invokevirtual 422, 3)) ?_
    rintro _ _ M3 ⟨rfl, rfl, hP⟩
    have H := H M3 hP
    show K NM RRM _ _ [] _
    refine r_iinc h (i := 5) (v := 1) (L' := [(5, vi (x5 + 1)), (0, vr 1), (1, vi x1), (2, vi x2), (3, vi x3), (4, vi x4)]) 5 rfl (by decide) rfl (by decide +kernel : decode cX12_goesOn 168 = .ok (.iinc 5 1, 3)) ?_
    refine r_goto h 78 (by decide) (by decide +kernel : decode cX12_goesOn 171 = .ok (.goto (-93), 3)) ?_
    refine r_drop h [1, 2, 3, 4, 5, 0] rfl ?_
    exact H
  · have H := H2 hc
    refine r_iloadn h (q := 3) 3 rfl (by decide +kernel : decode cX12_goesOn 149 = .ok (.iload_n 3, 1)) ?_
    refine r_goto h 155 (by decide) (by decide +kernel : decode cX12_goesOn 150 = .ok (.goto 5, 3)) ?_
    refine r_iload h 4 rfl (by decide +kernel : decode cX12_goesOn 155 = .ok (.iload 4, 2)) ?_
    refine r_aloadn h (q := 0) 0 rfl (by decide +kernel : decode cX12_goesOn 157 = .ok (.aload_n 0, 1)) ?_
    refine r_iloadn h (q := 3) 3 rfl (by decide +kernel : decode cX12_goesOn 158 = .ok (.iload_n 3, 1)) ?_
    refine r_iload h 5 rfl (by decide +kernel : decode cX12_goesOn 159 = .ok (.iload 5, 2)) ?_
    obtain ⟨P4, hSP4, H⟩ := H
    refine r_callV h (as := [vi x3, vi x5]) (S := [vi x4, vi x3, vi (andI x2 (xorI (shlI 1 x5) (-1))), vi (x1 + 1), vr 1]) (b := 1) m_Mod_375 hSP4 (by omega) (Nat.le_refl _) rfl at1M rfl (Nat.le_of_ble_eq_true rfl) (by decide +kernel : decode cX12_goesOn 161 = .ok (.invokevirtual 375, 3)) ?_
    rintro _ _ M4 ⟨rfl, r3, rfl, hP⟩
    have H := H r3 M4 hP
    show K NM RRM _ _ [vi r3, vi x4, vi x3, vi (andI x2 (xorI (shlI 1 x5) (-1))), vi (x1 + 1), vr 1] _
    refine r_iadd h (by decide +kernel : decode cX12_goesOn 164 = .ok (.iadd, 1)) ?_
    obtain ⟨P5, hSP5, H⟩ := H
    refine r_callV h (as := [vi (x1 + 1), vi (andI x2 (xorI (shlI 1 x5) (-1))), vi x3, vi (x4 + r3)]) (S := []) (b := 1) m_Mod_422 hSP5 (Nat.le_refl _) (Nat.le_refl _) rfl at1M rfl (Nat.le_of_ble_eq_true rfl) (by decide +kernel : decode cX12_goesOn 165 = .ok (.invokevirtual 422, 3)) ?_
    rintro _ _ M5 ⟨rfl, rfl, hP⟩
    have H := H M5 hP
    show K NM RRM _ _ [] _
    refine r_iinc h (i := 5) (v := 1) (L' := [(5, vi (x5 + 1)), (0, vr 1), (1, vi x1), (2, vi x2), (3, vi x3), (4, vi x4)]) 5 rfl (by decide) rfl (by decide +kernel : decode cX12_goesOn 168 = .ok (.iinc 5 1, 3)) ?_
    refine r_goto h 78 (by decide) (by decide +kernel : decode cX12_goesOn 171 = .ok (.goto (-93), 3)) ?_
    refine r_drop h [1, 2, 3, 4, 5, 0] rfl ?_
    exact H
set_option maxHeartbeats 4000000 in
set_option maxRecDepth 100000 in
theorem w_Mod_canGo_0 {dd : Nat} {P : Int → Mm → Prop} {K : Nat → Rr → Nat → List (Nat × AV) → List AV → Mm → Prop} (h : EK shM yX12_canGo cX12_canGo 4 (some .boolean) (dd + 1) NM NM (QI RRM P) K) (hdd : 1 ≤ dd) (x1 : Int) (x2 : Int) (M : Mm)
    (H : (rng x1) ∧ (x1 ≠ 0 → (K NM RRM 8 [(0, vr 1), (1, vi x1), (2, vi x2), (3, vi 0)] [] M)) ∧ (x1 = 0 → (P 1 M))) :
    K NM RRM 0 [(0, vr 1), (1, vi x1), (2, vi x2)] [] M := by
  refine r_iloadn h (q := 1) 1 rfl (by decide +kernel : decode cX12_canGo 0 = .ok (.iload_n 1, 1)) ?_
  obtain ⟨g1, H⟩ := H
  obtain ⟨H1, H2⟩ := H
  refine r_if_ne h 6 g1 (by decide) (by decide +kernel : decode cX12_canGo 1 = .ok (.ifCond .ne 5, 3)) (fun hc => ?_) (fun hc => ?_)
  · have H := H1 hc
    refine r_iconst h (v := 0) (by decide +kernel : decode cX12_canGo 6 = .ok (.iconst 0, 1)) ?_
    refine r_istoren h (q := 3) (L' := [(3, vi 0), (0, vr 1), (1, vi x1), (2, vi x2)]) (by decide) rfl (by decide +kernel : decode cX12_canGo 7 = .ok (.istore_n 3, 1)) ?_
    refine r_drop h [1, 2, 3, 0] rfl ?_
    exact H
  · have H := H2 hc
    refine r_iconst h (v := 1) (by decide +kernel : decode cX12_canGo 4 = .ok (.iconst 1, 1)) ?_
    exact r_zret h rfl (by decide) (by decide +kernel : decode cX12_canGo 5 = .ok (.ireturn, 1)) rfl ⟨rfl, _, rfl, H⟩
set_option maxHeartbeats 4000000 in
set_option maxRecDepth 100000 in
theorem w_Mod_canGo_8 {dd : Nat} {P : Int → Mm → Prop} {K : Nat → Rr → Nat → List (Nat × AV) → List AV → Mm → Prop} (h : EK shM yX12_canGo cX12_canGo 4 (some .boolean) (dd + 1) NM NM (QI RRM P) K) (hdd : 1 ≤ dd) (x1 : Int) (x2 : Int) (x3 : Int) (M : Mm)
    (H : (rng x3) ∧ (rng (M 3 0)) ∧ ((M 3 0) ≤ x3 → (P 0 M)) ∧ (¬ ((M 3 0) ≤ x3) → (((andI (shrI x1 x3) 1) ≠ 1 → (K NM RRM 8 [(0, vr 1), (1, vi x1), (2, vi x2), (3, vi (x3 + 1))] [] M)) ∧ ((andI (shrI x1 x3) 1) = 1 → (∃ P1 : Int → Mm → Prop, S_Mod_doesShun x3 x2 M P1 ∧ ∀ (r1 : Int) (M1 : Mm), P1 r1 M1 → (rng r1) ∧ (r1 ≠ 0 → (K NM RRM 8 [(0, vr 1), (1, vi x1), (2, vi x2), (3, vi (x3 + 1))] [] M1)) ∧ (r1 = 0 → ((0 ≤ x3 ∧ x3 < 14) ∧ (rng (M1 5 x3.toNat)) ∧ ((M1 5 x3.toNat) ≠ 3 → (∃ P2 : Int → Mm → Prop, S_Mod_canGo dd (andI x1 (xorI (shlI 1 x3) (-1))) x3 M1 P2 ∧ ∀ (r2 : Int) (M2 : Mm), P2 r2 M2 → (rng r2) ∧ (r2 = 0 → (K NM RRM 8 [(0, vr 1), (1, vi x1), (2, vi x2), (3, vi (x3 + 1))] [] M2)) ∧ (r2 ≠ 0 → (P 1 M2)))) ∧ ((M1 5 x3.toNat) = 3 → (∃ P3 : Int → Mm → Prop, S_Mod_canGo dd (andI x1 (xorI (shlI 1 x3) (-1))) x2 M1 P3 ∧ ∀ (r3 : Int) (M3 : Mm), P3 r3 M3 → (rng r3) ∧ (r3 = 0 → (K NM RRM 8 [(0, vr 1), (1, vi x1), (2, vi x2), (3, vi (x3 + 1))] [] M3)) ∧ (r3 ≠ 0 → (P 1 M3))))))))))) :
    K NM RRM 8 [(0, vr 1), (1, vi x1), (2, vi x2), (3, vi x3)] [] M := by
  refine r_iloadn h (q := 3) 3 rfl (by decide +kernel : decode cX12_canGo 8 = .ok (.iload_n 3, 1)) ?_
  refine r_aloadn h (q := 0) 0 rfl (by decide +kernel : decode cX12_canGo 9 = .ok (.aload_n 0, 1)) ?_
  refine r_getR h (r := 3) f_Mod_13 at1M rfl (by decide) (by decide +kernel : decode cX12_canGo 10 = .ok (.getfield 13, 3)) ?_
  refine r_iconst h (v := 0) (by decide +kernel : decode cX12_canGo 13 = .ok (.iconst 0, 1)) ?_
  refine r_iald h 0 rfl atM_3 (by decide) (by decide) (by decide +kernel : decode cX12_canGo 14 = .ok (.iaload, 1)) ?_
  obtain ⟨g1, g2, H⟩ := H
  obtain ⟨H1, H2⟩ := H
  refine r_icmp_ge h 73 g1 g2 (by decide) (by decide +kernel : decode cX12_canGo 15 = .ok (.if_icmp .ge 58, 3)) (fun hc => ?_) (fun hc => ?_)
  · have H := H1 hc
    refine r_iconst h (v := 0) (by decide +kernel : decode cX12_canGo 73 = .ok (.iconst 0, 1)) ?_
    exact r_zret h rfl (by decide) (by decide +kernel : decode cX12_canGo 74 = .ok (.ireturn, 1)) rfl ⟨rfl, _, rfl, H⟩
  · have H := H2 hc
    refine r_iloadn h (q := 1) 1 rfl (by decide +kernel : decode cX12_canGo 18 = .ok (.iload_n 1, 1)) ?_
    refine r_iloadn h (q := 3) 3 rfl (by decide +kernel : decode cX12_canGo 19 = .ok (.iload_n 3, 1)) ?_
    refine r_ishr h (by decide +kernel : decode cX12_canGo 20 = .ok (.ishr, 1)) ?_
    refine r_iconst h (v := 1) (by decide +kernel : decode cX12_canGo 21 = .ok (.iconst 1, 1)) ?_
    refine r_iand h (by decide +kernel : decode cX12_canGo 22 = .ok (.iand, 1)) ?_
    refine r_iconst h (v := 1) (by decide +kernel : decode cX12_canGo 23 = .ok (.iconst 1, 1)) ?_
    obtain ⟨H1, H2⟩ := H
    refine r_icmp_ne h 67 (rng_toInt _) (by decide) (by decide) (by decide +kernel : decode cX12_canGo 24 = .ok (.if_icmp .ne 43, 3)) (fun hc => ?_) (fun hc => ?_)
    · have H := H1 hc
      refine r_iinc h (i := 3) (v := 1) (L' := [(3, vi (x3 + 1)), (0, vr 1), (1, vi x1), (2, vi x2)]) 3 rfl (by decide) rfl (by decide +kernel : decode cX12_canGo 67 = .ok (.iinc 3 1, 3)) ?_
      refine r_goto h 8 (by decide) (by decide +kernel : decode cX12_canGo 70 = .ok (.goto (-62), 3)) ?_
      refine r_drop h [1, 2, 3, 0] rfl ?_
      exact H
    · have H := H2 hc
      refine r_aloadn h (q := 0) 0 rfl (by decide +kernel : decode cX12_canGo 27 = .ok (.aload_n 0, 1)) ?_
      refine r_iloadn h (q := 3) 3 rfl (by decide +kernel : decode cX12_canGo 28 = .ok (.iload_n 3, 1)) ?_
      refine r_iloadn h (q := 2) 2 rfl (by decide +kernel : decode cX12_canGo 29 = .ok (.iload_n 2, 1)) ?_
      obtain ⟨P1, hSP1, H⟩ := H
      refine r_callV h (as := [vi x3, vi x2]) (S := []) (b := 1) m_Mod_369 hSP1 (by omega) (Nat.le_refl _) rfl at1M rfl (Nat.le_of_ble_eq_true rfl) (by decide +kernel : decode cX12_canGo 30 = .ok (.invokevirtual 369, 3)) ?_
      rintro _ _ M1 ⟨rfl, r1, rfl, hP⟩
      have H := H r1 M1 hP
      show K NM RRM _ _ [vi r1] _
      obtain ⟨g1, H⟩ := H
      obtain ⟨H1, H2⟩ := H
      refine r_if_ne h 67 g1 (by decide) (by decide +kernel : decode cX12_canGo 33 = .ok (.ifCond .ne 34, 3)) (fun hc => ?_) (fun hc => ?_)
      · have H := H1 hc
        refine r_iinc h (i := 3) (v := 1) (L' := [(3, vi (x3 + 1)), (0, vr 1), (1, vi x1), (2, vi x2)]) 3 rfl (by decide) rfl (by decide +kernel : decode cX12_canGo 67 = .ok (.iinc 3 1, 3)) ?_
        refine r_goto h 8 (by decide) (by decide +kernel : decode cX12_canGo 70 = .ok (.goto (-62), 3)) ?_
        refine r_drop h [1, 2, 3, 0] rfl ?_
        exact H
      · have H := H2 hc
        refine r_aloadn h (q := 0) 0 rfl (by decide +kernel : decode cX12_canGo 36 = .ok (.aload_n 0, 1)) ?_
        refine r_iloadn h (q := 1) 1 rfl (by decide +kernel : decode cX12_canGo 37 = .ok (.iload_n 1, 1)) ?_
        refine r_iconst h (v := 1) (by decide +kernel : decode cX12_canGo 38 = .ok (.iconst 1, 1)) ?_
        refine r_iloadn h (q := 3) 3 rfl (by decide +kernel : decode cX12_canGo 39 = .ok (.iload_n 3, 1)) ?_
        refine r_ishl h (by decide +kernel : decode cX12_canGo 40 = .ok (.ishl, 1)) ?_
        refine r_iconst h (v := (-1)) (by decide +kernel : decode cX12_canGo 41 = .ok (.iconst (-1), 1)) ?_
        refine r_ixor h (by decide +kernel : decode cX12_canGo 42 = .ok (.ixor, 1)) ?_
        refine r_iand h (by decide +kernel : decode cX12_canGo 43 = .ok (.iand, 1)) ?_
        refine r_aloadn h (q := 0) 0 rfl (by decide +kernel : decode cX12_canGo 44 = .ok (.aload_n 0, 1)) ?_
        refine r_getR h (r := 5) f_Mod_20 at1M rfl (by decide) (by decide +kernel : decode cX12_canGo 45 = .ok (.getfield 20, 3)) ?_
        refine r_iloadn h (q := 3) 3 rfl (by decide +kernel : decode cX12_canGo 48 = .ok (.iload_n 3, 1)) ?_
        obtain ⟨g1, H⟩ := H
        refine r_iald h x3.toNat rfl atM_5 g1 (by decide) (by decide +kernel : decode cX12_canGo 49 = .ok (.iaload, 1)) ?_
        refine r_iconst h (v := 3) (by decide +kernel : decode cX12_canGo 50 = .ok (.iconst 3, 1)) ?_
        obtain ⟨g1, H⟩ := H
        obtain ⟨H1, H2⟩ := H
        refine r_icmp_ne h 58 g1 (by decide) (by decide) (by decide +kernel : decode cX12_canGo 51 = .ok (.if_icmp .ne 7, 3)) (fun hc => ?_) (fun hc => ?_)
        · have H := H1 hc
          refine r_iloadn h (q := 3) 3 rfl (by decide +kernel : decode cX12_canGo 58 = .ok (.iload_n 3, 1)) ?_
          obtain ⟨P2, hSP2, H⟩ := H
          refine r_callV h (as := [vi (andI x1 (xorI (shlI 1 x3) (-1))), vi x3]) (S := []) (b := 1) m_Mod_432 hSP2 (Nat.le_refl _) (Nat.le_refl _) rfl at1M rfl (Nat.le_of_ble_eq_true rfl) (by decide +kernel : decode cX12_canGo 59 = .ok (.invokevirtual 432, 3)) ?_
          rintro _ _ M2 ⟨rfl, r2, rfl, hP⟩
          have H := H r2 M2 hP
          show K NM RRM _ _ [vi r2] _
          obtain ⟨g1, H⟩ := H
          obtain ⟨H1, H2⟩ := H
          refine r_if_eq h 67 g1 (by decide) (by decide +kernel : decode cX12_canGo 62 = .ok (.ifCond .eq 5, 3)) (fun hc => ?_) (fun hc => ?_)
          · have H := H1 hc
            refine r_iinc h (i := 3) (v := 1) (L' := [(3, vi (x3 + 1)), (0, vr 1), (1, vi x1), (2, vi x2)]) 3 rfl (by decide) rfl (by decide +kernel : decode cX12_canGo 67 = .ok (.iinc 3 1, 3)) ?_
            refine r_goto h 8 (by decide) (by decide +kernel : decode cX12_canGo 70 = .ok (.goto (-62), 3)) ?_
            refine r_drop h [1, 2, 3, 0] rfl ?_
            exact H
          · have H := H2 hc
            refine r_iconst h (v := 1) (by decide +kernel : decode cX12_canGo 65 = .ok (.iconst 1, 1)) ?_
            exact r_zret h rfl (by decide) (by decide +kernel : decode cX12_canGo 66 = .ok (.ireturn, 1)) rfl ⟨rfl, _, rfl, H⟩
        · have H := H2 hc
          refine r_iloadn h (q := 2) 2 rfl (by decide +kernel : decode cX12_canGo 54 = .ok (.iload_n 2, 1)) ?_
          refine r_goto h 59 (by decide) (by decide +kernel : decode cX12_canGo 55 = .ok (.goto 4, 3)) ?_
          obtain ⟨P3, hSP3, H⟩ := H
          refine r_callV h (as := [vi (andI x1 (xorI (shlI 1 x3) (-1))), vi x2]) (S := []) (b := 1) m_Mod_432 hSP3 (Nat.le_refl _) (Nat.le_refl _) rfl at1M rfl (Nat.le_of_ble_eq_true rfl) (by decide +kernel : decode cX12_canGo 59 = .ok (.invokevirtual 432, 3)) ?_
          rintro _ _ M3 ⟨rfl, r3, rfl, hP⟩
          have H := H r3 M3 hP
          show K NM RRM _ _ [vi r3] _
          obtain ⟨g1, H⟩ := H
          obtain ⟨H1, H2⟩ := H
          refine r_if_eq h 67 g1 (by decide) (by decide +kernel : decode cX12_canGo 62 = .ok (.ifCond .eq 5, 3)) (fun hc => ?_) (fun hc => ?_)
          · have H := H1 hc
            refine r_iinc h (i := 3) (v := 1) (L' := [(3, vi (x3 + 1)), (0, vr 1), (1, vi x1), (2, vi x2)]) 3 rfl (by decide) rfl (by decide +kernel : decode cX12_canGo 67 = .ok (.iinc 3 1, 3)) ?_
            refine r_goto h 8 (by decide) (by decide +kernel : decode cX12_canGo 70 = .ok (.goto (-62), 3)) ?_
            refine r_drop h [1, 2, 3, 0] rfl ?_
            exact H
          · have H := H2 hc
            refine r_iconst h (v := 1) (by decide +kernel : decode cX12_canGo 65 = .ok (.iconst 1, 1)) ?_
            exact r_zret h rfl (by decide) (by decide +kernel : decode cX12_canGo 66 = .ok (.ireturn, 1)) rfl ⟨rfl, _, rfl, H⟩
set_option maxHeartbeats 4000000 in
set_option maxRecDepth 100000 in
theorem w_Mod_best_0 {P : Int → Mm → Prop} {K : Nat → Rr → Nat → List (Nat × AV) → List AV → Mm → Prop} (h : EK shM yX12_best cX12_best 4 (some .int) 61 NM NM (QI RRM P) K) (x1 : Int) (M : Mm)
    (H : ∀ M1 : Mm, M1 = (upr M 1 (up1 (M 1) 0 0)) → (rng x1) ∧ (x1 = (-1) → (K NM RRM 21 [(0, vr 1), (1, vi x1)] [] M1)) ∧ (x1 ≠ (-1) → (∃ P2 : Int → Mm → Prop, S_Mod_isHouse x1 M1 P2 ∧ ∀ (r1 : Int) (M2 : Mm), P2 r1 M2 → (rng r1) ∧ (r1 ≠ 0 → (K NM RRM 21 [(0, vr 1), (1, vi x1)] [] M2)) ∧ (r1 = 0 → (P (-2) M2))))) :
    K NM RRM 0 [(0, vr 1), (1, vi x1)] [] M := by
  refine r_aloadn h (q := 0) 0 rfl (by decide +kernel : decode cX12_best 0 = .ok (.aload_n 0, 1)) ?_
  refine r_iconst h (v := 0) (by decide +kernel : decode cX12_best 1 = .ok (.iconst 0, 1)) ?_
  refine r_putI h f_Mod_147 at1M rfl rfl (by decide +kernel : decode cX12_best 2 = .ok (.putfield 147, 3)) ?_
  have H := H _ rfl
  revert H
  generalize (upr M 1 (up1 (M 1) 0 0)) = M1
  intro H
  refine r_iloadn h (q := 1) 1 rfl (by decide +kernel : decode cX12_best 5 = .ok (.iload_n 1, 1)) ?_
  refine r_iconst h (v := (-1)) (by decide +kernel : decode cX12_best 6 = .ok (.iconst (-1), 1)) ?_
  obtain ⟨g1, H⟩ := H
  obtain ⟨H1, H2⟩ := H
  refine r_icmp_eq h 21 g1 (by decide) (by decide) (by decide +kernel : decode cX12_best 7 = .ok (.if_icmp .eq 14, 3)) (fun hc => ?_) (fun hc => ?_)
  · have H := H1 hc
    exact H
  · have H := H2 hc
    refine r_aloadn h (q := 0) 0 rfl (by decide +kernel : decode cX12_best 10 = .ok (.aload_n 0, 1)) ?_
    refine r_iloadn h (q := 1) 1 rfl (by decide +kernel : decode cX12_best 11 = .ok (.iload_n 1, 1)) ?_
    obtain ⟨P2, hSP2, H⟩ := H
    refine r_callV h (as := [vi x1]) (S := []) (b := 1) m_Mod_390 hSP2 (by decide) (Nat.le_refl _) rfl at1M rfl (Nat.le_of_ble_eq_true rfl) (by decide +kernel : decode cX12_best 12 = .ok (.invokevirtual 390, 3)) ?_
    rintro _ _ M2 ⟨rfl, r1, rfl, hP⟩
    have H := H r1 M2 hP
    show K NM RRM _ _ [vi r1] _
    obtain ⟨g1, H⟩ := H
    obtain ⟨H1, H2⟩ := H
    refine r_if_ne h 21 g1 (by decide) (by decide +kernel : decode cX12_best 15 = .ok (.ifCond .ne 6, 3)) (fun hc => ?_) (fun hc => ?_)
    · have H := H1 hc
      exact H
    · have H := H2 hc
      refine r_bipush h (v := (-2)) (by decide) (by decide +kernel : decode cX12_best 18 = .ok (.bipush (-2), 2)) ?_
      exact r_iret h rfl (by decide +kernel : decode cX12_best 20 = .ok (.ireturn, 1)) rfl ⟨rfl, _, rfl, H⟩
set_option maxHeartbeats 4000000 in
set_option maxRecDepth 100000 in
theorem w_Mod_best_21 {P : Int → Mm → Prop} {K : Nat → Rr → Nat → List (Nat × AV) → List AV → Mm → Prop} (h : EK shM yX12_best cX12_best 4 (some .int) 61 NM NM (QI RRM P) K) (x1 : Int) (M : Mm)
    (H : ∀ M1 : Mm, M1 = (upr M 1 (up1 (M 1) 54 (-1))) → ∀ M2 : Mm, M2 = (upr M1 1 (up1 (M1 1) 55 0)) → ∃ P3 : Int → Mm → Prop, S_Mod_going  M2 P3 ∧ ∀ (r1 : Int) (M3 : Mm), P3 r1 M3 → ∃ P4 : Mm → Prop, S_Mod_goesOn 60 0 r1 (-1) 0 M3 P4 ∧ ∀ M4 : Mm, P4 M4 → ∀ M5 : Mm, M5 = (upr M4 1 (up1 (M4 1) 55 1)) → (rng (M5 1 54)) ∧ (0 ≤ (M5 1 54) → (K NM RRM 65 [(0, vr 1), (1, vi x1)] [] M5)) ∧ (¬ (0 ≤ (M5 1 54)) → (∃ P6 : Int → Mm → Prop, S_Mod_going  M5 P6 ∧ ∀ (r3 : Int) (M6 : Mm), P6 r3 M6 → ∃ P7 : Mm → Prop, S_Mod_goesOn 60 0 r3 (-1) 0 M6 P7 ∧ ∀ M7 : Mm, P7 M7 → K NM RRM 65 [(0, vr 1), (1, vi x1)] [] M7))) :
    K NM RRM 21 [(0, vr 1), (1, vi x1)] [] M := by
  refine r_aloadn h (q := 0) 0 rfl (by decide +kernel : decode cX12_best 21 = .ok (.aload_n 0, 1)) ?_
  refine r_iconst h (v := (-1)) (by decide +kernel : decode cX12_best 22 = .ok (.iconst (-1), 1)) ?_
  refine r_putI h f_Mod_415 at1M rfl rfl (by decide +kernel : decode cX12_best 23 = .ok (.putfield 415, 3)) ?_
  have H := H _ rfl
  revert H
  generalize (upr M 1 (up1 (M 1) 54 (-1))) = M1
  intro H
  refine r_aloadn h (q := 0) 0 rfl (by decide +kernel : decode cX12_best 26 = .ok (.aload_n 0, 1)) ?_
  refine r_iconst h (v := 0) (by decide +kernel : decode cX12_best 27 = .ok (.iconst 0, 1)) ?_
  refine r_putZ h (by decide) f_Mod_418 at1M rfl rfl (by decide +kernel : decode cX12_best 28 = .ok (.putfield 418, 3)) ?_
  have H := H _ rfl
  revert H
  generalize (upr M1 1 (up1 (M1 1) 55 0)) = M2
  intro H
  refine r_aloadn h (q := 0) 0 rfl (by decide +kernel : decode cX12_best 31 = .ok (.aload_n 0, 1)) ?_
  refine r_iconst h (v := 0) (by decide +kernel : decode cX12_best 32 = .ok (.iconst 0, 1)) ?_
  refine r_aloadn h (q := 0) 0 rfl (by decide +kernel : decode cX12_best 33 = .ok (.aload_n 0, 1)) ?_
  obtain ⟨P3, hSP3, H⟩ := H
  refine r_callV h (as := []) (S := [vi 0, vr 1]) (b := 1) m_Mod_426 hSP3 (by decide) (Nat.le_refl _) rfl at1M rfl (Nat.le_of_ble_eq_true rfl) (by decide +kernel : decode cX12_best 34 = .ok (.invokevirtual 426, 3)) ?_
  rintro _ _ M3 ⟨rfl, r1, rfl, hP⟩
  have H := H r1 M3 hP
  show K NM RRM _ _ [vi r1, vi 0, vr 1] _
  refine r_iconst h (v := (-1)) (by decide +kernel : decode cX12_best 37 = .ok (.iconst (-1), 1)) ?_
  refine r_iconst h (v := 0) (by decide +kernel : decode cX12_best 38 = .ok (.iconst 0, 1)) ?_
  obtain ⟨P4, hSP4, H⟩ := H
  refine r_callV h (as := [vi 0, vi r1, vi (-1), vi 0]) (S := []) (b := 1) m_Mod_422 hSP4 (by decide) (Nat.le_refl _) rfl at1M rfl (Nat.le_of_ble_eq_true rfl) (by decide +kernel : decode cX12_best 39 = .ok (.invokevirtual 422, 3)) ?_
  rintro _ _ M4 ⟨rfl, rfl, hP⟩
  have H := H M4 hP
  show K NM RRM _ _ [] _
  refine r_aloadn h (q := 0) 0 rfl (by decide +kernel : decode cX12_best 42 = .ok (.aload_n 0, 1)) ?_
  refine r_iconst h (v := 1) (by decide +kernel : decode cX12_best 43 = .ok (.iconst 1, 1)) ?_
  refine r_putZ h (by decide) f_Mod_418 at1M rfl rfl (by decide +kernel : decode cX12_best 44 = .ok (.putfield 418, 3)) ?_
  have H := H _ rfl
  revert H
  generalize (upr M4 1 (up1 (M4 1) 55 1)) = M5
  intro H
  refine r_aloadn h (q := 0) 0 rfl (by decide +kernel : decode cX12_best 47 = .ok (.aload_n 0, 1)) ?_
  refine r_getI h f_Mod_415 at1M (by decide +kernel : decode cX12_best 48 = .ok (.getfield 415, 3)) ?_
  obtain ⟨g1, H⟩ := H
  obtain ⟨H1, H2⟩ := H
  refine r_if_ge h 65 g1 (by decide) (by decide +kernel : decode cX12_best 51 = .ok (.ifCond .ge 14, 3)) (fun hc => ?_) (fun hc => ?_)
  · have H := H1 hc
    exact H
  · have H := H2 hc
    refine r_aloadn h (q := 0) 0 rfl (by decide +kernel : decode cX12_best 54 = .ok (.aload_n 0, 1)) ?_
    refine r_iconst h (v := 0) (by decide +kernel : decode cX12_best 55 = .ok (.iconst 0, 1)) ?_
    refine r_aloadn h (q := 0) 0 rfl (by decide +kernel : decode cX12_best 56 = .ok (.aload_n 0, 1)) ?_
    obtain ⟨P6, hSP6, H⟩ := H
    refine r_callV h (as := []) (S := [vi 0, vr 1]) (b := 1) m_Mod_426 hSP6 (by decide) (Nat.le_refl _) rfl at1M rfl (Nat.le_of_ble_eq_true rfl) (by decide +kernel : decode cX12_best 57 = .ok (.invokevirtual 426, 3)) ?_
    rintro _ _ M6 ⟨rfl, r3, rfl, hP⟩
    have H := H r3 M6 hP
    show K NM RRM _ _ [vi r3, vi 0, vr 1] _
    refine r_iconst h (v := (-1)) (by decide +kernel : decode cX12_best 60 = .ok (.iconst (-1), 1)) ?_
    refine r_iconst h (v := 0) (by decide +kernel : decode cX12_best 61 = .ok (.iconst 0, 1)) ?_
    obtain ⟨P7, hSP7, H⟩ := H
    refine r_callV h (as := [vi 0, vi r3, vi (-1), vi 0]) (S := []) (b := 1) m_Mod_422 hSP7 (by decide) (Nat.le_refl _) rfl at1M rfl (Nat.le_of_ble_eq_true rfl) (by decide +kernel : decode cX12_best 62 = .ok (.invokevirtual 422, 3)) ?_
    rintro _ _ M7 ⟨rfl, rfl, hP⟩
    have H := H M7 hP
    show K NM RRM _ _ [] _
    exact H
set_option maxHeartbeats 4000000 in
set_option maxRecDepth 100000 in
theorem w_Mod_best_65 {P : Int → Mm → Prop} {K : Nat → Rr → Nat → List (Nat × AV) → List AV → Mm → Prop} (h : EK shM yX12_best cX12_best 4 (some .int) 61 NM NM (QI RRM P) K) (x1 : Int) (M : Mm)
    (H : (rng x1) ∧ (x1 ≠ (-1) → (∃ P1 : Int → Mm → Prop, S_Mod_going  M P1 ∧ ∀ (r1 : Int) (M1 : Mm), P1 r1 M1 → ∃ P2 : Int → Mm → Prop, S_Mod_bits r1 M1 P2 ∧ ∀ (r2 : Int) (M2 : Mm), P2 r2 M2 → (rng x1) ∧ (rng r2) ∧ (r2 ≤ x1 → (K NM RRM 97 [(0, vr 1), (1, vi x1), (2, vi r2), (3, vi 0)] [] M2)) ∧ (¬ (r2 ≤ x1) → ((0 ≤ x1 ∧ x1 < 7) ∧ P (M2 40 x1.toNat) M2)))) ∧ (x1 = (-1) → (P (M 1 54) M))) :
    K NM RRM 65 [(0, vr 1), (1, vi x1)] [] M := by
  refine r_iloadn h (q := 1) 1 rfl (by decide +kernel : decode cX12_best 65 = .ok (.iload_n 1, 1)) ?_
  refine r_iconst h (v := (-1)) (by decide +kernel : decode cX12_best 66 = .ok (.iconst (-1), 1)) ?_
  obtain ⟨g1, H⟩ := H
  obtain ⟨H1, H2⟩ := H
  refine r_icmp_ne h 75 g1 (by decide) (by decide) (by decide +kernel : decode cX12_best 67 = .ok (.if_icmp .ne 8, 3)) (fun hc => ?_) (fun hc => ?_)
  · have H := H1 hc
    refine r_aloadn h (q := 0) 0 rfl (by decide +kernel : decode cX12_best 75 = .ok (.aload_n 0, 1)) ?_
    obtain ⟨P1, hSP1, H⟩ := H
    refine r_callV h (as := []) (S := []) (b := 1) m_Mod_426 hSP1 (by decide) (Nat.le_refl _) rfl at1M rfl (Nat.le_of_ble_eq_true rfl) (by decide +kernel : decode cX12_best 76 = .ok (.invokevirtual 426, 3)) ?_
    rintro _ _ M1 ⟨rfl, r1, rfl, hP⟩
    have H := H r1 M1 hP
    show K NM RRM _ _ [vi r1] _
    obtain ⟨P2, hSP2, H⟩ := H
    refine r_callS h (as := [vi r1]) (S := []) m_Mod_429 hSP2 (by decide) (Nat.le_refl _) rfl rfl (Nat.le_of_ble_eq_true rfl) (by decide +kernel : decode cX12_best 79 = .ok (.invokestatic 429, 3)) ?_
    rintro _ _ M2 ⟨rfl, r2, rfl, hP⟩
    have H := H r2 M2 hP
    show K NM RRM _ _ [vi r2] _
    refine r_istoren h (q := 2) (L' := [(2, vi r2), (0, vr 1), (1, vi x1)]) (by decide) rfl (by decide +kernel : decode cX12_best 82 = .ok (.istore_n 2, 1)) ?_
    refine r_iloadn h (q := 1) 2 rfl (by decide +kernel : decode cX12_best 83 = .ok (.iload_n 1, 1)) ?_
    refine r_iloadn h (q := 2) 0 rfl (by decide +kernel : decode cX12_best 84 = .ok (.iload_n 2, 1)) ?_
    obtain ⟨g1, g2, H⟩ := H
    obtain ⟨H1, H2⟩ := H
    refine r_icmp_ge h 95 g1 g2 (by decide) (by decide +kernel : decode cX12_best 85 = .ok (.if_icmp .ge 10, 3)) (fun hc => ?_) (fun hc => ?_)
    · have H := H1 hc
      refine r_iconst h (v := 0) (by decide +kernel : decode cX12_best 95 = .ok (.iconst 0, 1)) ?_
      refine r_istoren h (q := 3) (L' := [(3, vi 0), (2, vi r2), (0, vr 1), (1, vi x1)]) (by decide) rfl (by decide +kernel : decode cX12_best 96 = .ok (.istore_n 3, 1)) ?_
      refine r_drop h [2, 3, 1, 0] rfl ?_
      exact H
    · have H := H2 hc
      refine r_aloadn h (q := 0) 1 rfl (by decide +kernel : decode cX12_best 88 = .ok (.aload_n 0, 1)) ?_
      refine r_getR h (r := 40) f_Mod_126 at1M rfl (by decide) (by decide +kernel : decode cX12_best 89 = .ok (.getfield 126, 3)) ?_
      refine r_iloadn h (q := 1) 2 rfl (by decide +kernel : decode cX12_best 92 = .ok (.iload_n 1, 1)) ?_
      obtain ⟨g1, H⟩ := H
      refine r_iald h x1.toNat rfl atM_40 g1 (by decide) (by decide +kernel : decode cX12_best 93 = .ok (.iaload, 1)) ?_
      exact r_iret h rfl (by decide +kernel : decode cX12_best 94 = .ok (.ireturn, 1)) rfl ⟨rfl, _, rfl, H⟩
  · have H := H2 hc
    refine r_aloadn h (q := 0) 0 rfl (by decide +kernel : decode cX12_best 70 = .ok (.aload_n 0, 1)) ?_
    refine r_getI h f_Mod_415 at1M (by decide +kernel : decode cX12_best 71 = .ok (.getfield 415, 3)) ?_
    exact r_iret h rfl (by decide +kernel : decode cX12_best 74 = .ok (.ireturn, 1)) rfl ⟨rfl, _, rfl, H⟩
set_option maxHeartbeats 4000000 in
set_option maxRecDepth 100000 in
theorem w_Mod_best_97 {P : Int → Mm → Prop} {K : Nat → Rr → Nat → List (Nat × AV) → List AV → Mm → Prop} (h : EK shM yX12_best cX12_best 4 (some .int) 61 NM NM (QI RRM P) K) (x1 : Int) (x2 : Int) (x3 : Int) (M : Mm)
    (H : (rng x3) ∧ (rng (M 3 0)) ∧ ((M 3 0) ≤ x3 → (P (-2) M)) ∧ (¬ ((M 3 0) ≤ x3) → (∃ P1 : Int → Mm → Prop, S_Mod_isGoing x3 M P1 ∧ ∀ (r1 : Int) (M1 : Mm), P1 r1 M1 → (rng r1) ∧ (r1 = 0 → ((rng x2) ∧ (rng x1) ∧ (x2 ≠ x1 → (K NM RRM 97 [(0, vr 1), (1, vi x1), (2, vi (x2 + 1)), (3, vi (x3 + 1))] [] M1)) ∧ (x2 = x1 → (P x3 M1)))) ∧ (r1 ≠ 0 → (K NM RRM 97 [(0, vr 1), (1, vi x1), (2, vi x2), (3, vi (x3 + 1))] [] M1))))) :
    K NM RRM 97 [(0, vr 1), (1, vi x1), (2, vi x2), (3, vi x3)] [] M := by
  refine r_iloadn h (q := 3) 3 rfl (by decide +kernel : decode cX12_best 97 = .ok (.iload_n 3, 1)) ?_
  refine r_aloadn h (q := 0) 0 rfl (by decide +kernel : decode cX12_best 98 = .ok (.aload_n 0, 1)) ?_
  refine r_getR h (r := 3) f_Mod_13 at1M rfl (by decide) (by decide +kernel : decode cX12_best 99 = .ok (.getfield 13, 3)) ?_
  refine r_iconst h (v := 0) (by decide +kernel : decode cX12_best 102 = .ok (.iconst 0, 1)) ?_
  refine r_iald h 0 rfl atM_3 (by decide) (by decide) (by decide +kernel : decode cX12_best 103 = .ok (.iaload, 1)) ?_
  obtain ⟨g1, g2, H⟩ := H
  obtain ⟨H1, H2⟩ := H
  refine r_icmp_ge h 134 g1 g2 (by decide) (by decide +kernel : decode cX12_best 104 = .ok (.if_icmp .ge 30, 3)) (fun hc => ?_) (fun hc => ?_)
  · have H := H1 hc
    refine r_bipush h (v := (-2)) (by decide) (by decide +kernel : decode cX12_best 134 = .ok (.bipush (-2), 2)) ?_
    exact r_iret h rfl (by decide +kernel : decode cX12_best 136 = .ok (.ireturn, 1)) rfl ⟨rfl, _, rfl, H⟩
  · have H := H2 hc
    refine r_aloadn h (q := 0) 0 rfl (by decide +kernel : decode cX12_best 107 = .ok (.aload_n 0, 1)) ?_
    refine r_iloadn h (q := 3) 3 rfl (by decide +kernel : decode cX12_best 108 = .ok (.iload_n 3, 1)) ?_
    obtain ⟨P1, hSP1, H⟩ := H
    refine r_callV h (as := [vi x3]) (S := []) (b := 1) m_Mod_363 hSP1 (by decide) (Nat.le_refl _) rfl at1M rfl (Nat.le_of_ble_eq_true rfl) (by decide +kernel : decode cX12_best 109 = .ok (.invokevirtual 363, 3)) ?_
    rintro _ _ M1 ⟨rfl, r1, rfl, hP⟩
    have H := H r1 M1 hP
    show K NM RRM _ _ [vi r1] _
    obtain ⟨g1, H⟩ := H
    obtain ⟨H1, H2⟩ := H
    refine r_if_eq h 118 g1 (by decide) (by decide +kernel : decode cX12_best 112 = .ok (.ifCond .eq 6, 3)) (fun hc => ?_) (fun hc => ?_)
    · have H := H1 hc
      refine r_iloadn h (q := 2) 2 rfl (by decide +kernel : decode cX12_best 118 = .ok (.iload_n 2, 1)) ?_
      refine r_iloadn h (q := 1) 1 rfl (by decide +kernel : decode cX12_best 119 = .ok (.iload_n 1, 1)) ?_
      obtain ⟨g1, g2, H⟩ := H
      obtain ⟨H1, H2⟩ := H
      refine r_icmp_ne h 125 g1 g2 (by decide) (by decide +kernel : decode cX12_best 120 = .ok (.if_icmp .ne 5, 3)) (fun hc => ?_) (fun hc => ?_)
      · have H := H1 hc
        refine r_iinc h (i := 2) (v := 1) (L' := [(2, vi (x2 + 1)), (0, vr 1), (1, vi x1), (3, vi x3)]) 2 rfl (by decide) rfl (by decide +kernel : decode cX12_best 125 = .ok (.iinc 2 1, 3)) ?_
        refine r_iinc h (i := 3) (v := 1) (L' := [(3, vi (x3 + 1)), (2, vi (x2 + 1)), (0, vr 1), (1, vi x1)]) 3 rfl (by decide) rfl (by decide +kernel : decode cX12_best 128 = .ok (.iinc 3 1, 3)) ?_
        refine r_goto h 97 (by decide) (by decide +kernel : decode cX12_best 131 = .ok (.goto (-34), 3)) ?_
        refine r_drop h [2, 3, 1, 0] rfl ?_
        exact H
      · have H := H2 hc
        refine r_iloadn h (q := 3) 3 rfl (by decide +kernel : decode cX12_best 123 = .ok (.iload_n 3, 1)) ?_
        exact r_iret h rfl (by decide +kernel : decode cX12_best 124 = .ok (.ireturn, 1)) rfl ⟨rfl, _, rfl, H⟩
    · have H := H2 hc
      refine r_goto h 128 (by decide) (by decide +kernel : decode cX12_best 115 = .ok (.goto 13, 3)) ?_
      refine r_iinc h (i := 3) (v := 1) (L' := [(3, vi (x3 + 1)), (0, vr 1), (1, vi x1), (2, vi x2)]) 3 rfl (by decide) rfl (by decide +kernel : decode cX12_best 128 = .ok (.iinc 3 1, 3)) ?_
      refine r_goto h 97 (by decide) (by decide +kernel : decode cX12_best 131 = .ok (.goto (-34), 3)) ?_
      refine r_drop h [1, 2, 3, 0] rfl ?_
      exact H
set_option maxHeartbeats 4000000 in
set_option maxRecDepth 100000 in
theorem w_Mod_around_0 {P : Int → Mm → Prop} {K : Nat → Rr → Nat → List (Nat × AV) → List AV → Mm → Prop} (h : EK shM yX12_around cX12_around 4 (some .int) 61 NM NM (QI RRM P) K)  (M : Mm)
    (H : ∀ M1 : Mm, M1 = (upr M 1 (up1 (M 1) 0 0)) → ∃ P2 : Int → Mm → Prop, S_Mod_going  M1 P2 ∧ ∀ (r1 : Int) (M2 : Mm), P2 r1 M2 → K NM RRM 14 [(0, vr 1), (1, vi r1), (2, vi (-1)), (3, vi 0)] [] M2) :
    K NM RRM 0 [(0, vr 1)] [] M := by
  refine r_aloadn h (q := 0) 0 rfl (by decide +kernel : decode cX12_around 0 = .ok (.aload_n 0, 1)) ?_
  refine r_iconst h (v := 0) (by decide +kernel : decode cX12_around 1 = .ok (.iconst 0, 1)) ?_
  refine r_putI h f_Mod_147 at1M rfl rfl (by decide +kernel : decode cX12_around 2 = .ok (.putfield 147, 3)) ?_
  have H := H _ rfl
  revert H
  generalize (upr M 1 (up1 (M 1) 0 0)) = M1
  intro H
  refine r_aloadn h (q := 0) 0 rfl (by decide +kernel : decode cX12_around 5 = .ok (.aload_n 0, 1)) ?_
  obtain ⟨P2, hSP2, H⟩ := H
  refine r_callV h (as := []) (S := []) (b := 1) m_Mod_426 hSP2 (by decide) (Nat.le_refl _) rfl at1M rfl (Nat.le_of_ble_eq_true rfl) (by decide +kernel : decode cX12_around 6 = .ok (.invokevirtual 426, 3)) ?_
  rintro _ _ M2 ⟨rfl, r1, rfl, hP⟩
  have H := H r1 M2 hP
  show K NM RRM _ _ [vi r1] _
  refine r_istoren h (q := 1) (L' := [(1, vi r1), (0, vr 1)]) (by decide) rfl (by decide +kernel : decode cX12_around 9 = .ok (.istore_n 1, 1)) ?_
  refine r_iconst h (v := (-1)) (by decide +kernel : decode cX12_around 10 = .ok (.iconst (-1), 1)) ?_
  refine r_istoren h (q := 2) (L' := [(2, vi (-1)), (1, vi r1), (0, vr 1)]) (by decide) rfl (by decide +kernel : decode cX12_around 11 = .ok (.istore_n 2, 1)) ?_
  refine r_iconst h (v := 0) (by decide +kernel : decode cX12_around 12 = .ok (.iconst 0, 1)) ?_
  refine r_istoren h (q := 3) (L' := [(3, vi 0), (2, vi (-1)), (1, vi r1), (0, vr 1)]) (by decide) rfl (by decide +kernel : decode cX12_around 13 = .ok (.istore_n 3, 1)) ?_
  refine r_drop h [3, 2, 1, 0] rfl ?_
  exact H
set_option maxHeartbeats 4000000 in
set_option maxRecDepth 100000 in
theorem w_Mod_around_14 {P : Int → Mm → Prop} {K : Nat → Rr → Nat → List (Nat × AV) → List AV → Mm → Prop} (h : EK shM yX12_around cX12_around 4 (some .int) 61 NM NM (QI RRM P) K) (x1 : Int) (x2 : Int) (x3 : Int) (M : Mm)
    (H : (rng x3) ∧ (rng x1) ∧ (x1 < x3 → (P x2 M)) ∧ (¬ (x1 < x3) → (((andI x3 (xorI x1 (-1))) ≠ 0 → (K NM RRM 14 [(0, vr 1), (1, vi x1), (2, vi x2), (3, vi (x3 + 1))] [] M)) ∧ ((andI x3 (xorI x1 (-1))) = 0 → ((rng x2) ∧ (x2 < 0 → (K NM RRM 42 [(0, vr 1), (1, vi x1), (2, vi x2), (3, vi x3)] [] M)) ∧ (¬ (x2 < 0) → (∃ P1 : Int → Mm → Prop, S_Mod_bits x3 M P1 ∧ ∀ (r1 : Int) (M1 : Mm), P1 r1 M1 → ∃ P2 : Int → Mm → Prop, S_Mod_bits x2 M1 P2 ∧ ∀ (r2 : Int) (M2 : Mm), P2 r2 M2 → (rng r1) ∧ (rng r2) ∧ (r2 ≤ r1 → (K NM RRM 14 [(0, vr 1), (1, vi x1), (2, vi x2), (3, vi (x3 + 1))] [] M2)) ∧ (¬ (r2 ≤ r1) → (K NM RRM 42 [(0, vr 1), (1, vi x1), (2, vi x2), (3, vi x3)] [] M2))))))))) :
    K NM RRM 14 [(0, vr 1), (1, vi x1), (2, vi x2), (3, vi x3)] [] M := by
  refine r_iloadn h (q := 3) 3 rfl (by decide +kernel : decode cX12_around 14 = .ok (.iload_n 3, 1)) ?_
  refine r_iloadn h (q := 1) 1 rfl (by decide +kernel : decode cX12_around 15 = .ok (.iload_n 1, 1)) ?_
  obtain ⟨g1, g2, H⟩ := H
  obtain ⟨H1, H2⟩ := H
  refine r_icmp_gt h 63 g1 g2 (by decide) (by decide +kernel : decode cX12_around 16 = .ok (.if_icmp .gt 47, 3)) (fun hc => ?_) (fun hc => ?_)
  · have H := H1 hc
    refine r_iloadn h (q := 2) 2 rfl (by decide +kernel : decode cX12_around 63 = .ok (.iload_n 2, 1)) ?_
    exact r_iret h rfl (by decide +kernel : decode cX12_around 64 = .ok (.ireturn, 1)) rfl ⟨rfl, _, rfl, H⟩
  · have H := H2 hc
    refine r_iloadn h (q := 3) 3 rfl (by decide +kernel : decode cX12_around 19 = .ok (.iload_n 3, 1)) ?_
    refine r_iloadn h (q := 1) 1 rfl (by decide +kernel : decode cX12_around 20 = .ok (.iload_n 1, 1)) ?_
    refine r_iconst h (v := (-1)) (by decide +kernel : decode cX12_around 21 = .ok (.iconst (-1), 1)) ?_
    refine r_ixor h (by decide +kernel : decode cX12_around 22 = .ok (.ixor, 1)) ?_
    refine r_iand h (by decide +kernel : decode cX12_around 23 = .ok (.iand, 1)) ?_
    obtain ⟨H1, H2⟩ := H
    refine r_if_ne h 57 (rng_toInt _) (by decide) (by decide +kernel : decode cX12_around 24 = .ok (.ifCond .ne 33, 3)) (fun hc => ?_) (fun hc => ?_)
    · have H := H1 hc
      refine r_iinc h (i := 3) (v := 1) (L' := [(3, vi (x3 + 1)), (0, vr 1), (1, vi x1), (2, vi x2)]) 3 rfl (by decide) rfl (by decide +kernel : decode cX12_around 57 = .ok (.iinc 3 1, 3)) ?_
      refine r_goto h 14 (by decide) (by decide +kernel : decode cX12_around 60 = .ok (.goto (-46), 3)) ?_
      refine r_drop h [1, 2, 3, 0] rfl ?_
      exact H
    · have H := H2 hc
      refine r_iloadn h (q := 2) 2 rfl (by decide +kernel : decode cX12_around 27 = .ok (.iload_n 2, 1)) ?_
      obtain ⟨g1, H⟩ := H
      obtain ⟨H1, H2⟩ := H
      refine r_if_lt h 42 g1 (by decide) (by decide +kernel : decode cX12_around 28 = .ok (.ifCond .lt 14, 3)) (fun hc => ?_) (fun hc => ?_)
      · have H := H1 hc
        exact H
      · have H := H2 hc
        refine r_iloadn h (q := 3) 3 rfl (by decide +kernel : decode cX12_around 31 = .ok (.iload_n 3, 1)) ?_
        obtain ⟨P1, hSP1, H⟩ := H
        refine r_callS h (as := [vi x3]) (S := []) m_Mod_429 hSP1 (by decide) (Nat.le_refl _) rfl rfl (Nat.le_of_ble_eq_true rfl) (by decide +kernel : decode cX12_around 32 = .ok (.invokestatic 429, 3)) ?_
        rintro _ _ M1 ⟨rfl, r1, rfl, hP⟩
        have H := H r1 M1 hP
        show K NM RRM _ _ [vi r1] _
        refine r_iloadn h (q := 2) 2 rfl (by decide +kernel : decode cX12_around 35 = .ok (.iload_n 2, 1)) ?_
        obtain ⟨P2, hSP2, H⟩ := H
        refine r_callS h (as := [vi x2]) (S := [vi r1]) m_Mod_429 hSP2 (by decide) (Nat.le_refl _) rfl rfl (Nat.le_of_ble_eq_true rfl) (by decide +kernel : decode cX12_around 36 = .ok (.invokestatic 429, 3)) ?_
        rintro _ _ M2 ⟨rfl, r2, rfl, hP⟩
        have H := H r2 M2 hP
        show K NM RRM _ _ [vi r2, vi r1] _
        obtain ⟨g1, g2, H⟩ := H
        obtain ⟨H1, H2⟩ := H
        refine r_icmp_ge h 57 g1 g2 (by decide) (by decide +kernel : decode cX12_around 39 = .ok (.if_icmp .ge 18, 3)) (fun hc => ?_) (fun hc => ?_)
        · have H := H1 hc
          refine r_iinc h (i := 3) (v := 1) (L' := [(3, vi (x3 + 1)), (0, vr 1), (1, vi x1), (2, vi x2)]) 3 rfl (by decide) rfl (by decide +kernel : decode cX12_around 57 = .ok (.iinc 3 1, 3)) ?_
          refine r_goto h 14 (by decide) (by decide +kernel : decode cX12_around 60 = .ok (.goto (-46), 3)) ?_
          refine r_drop h [1, 2, 3, 0] rfl ?_
          exact H
        · have H := H2 hc
          exact H
set_option maxHeartbeats 4000000 in
set_option maxRecDepth 100000 in
theorem w_Mod_around_42 {P : Int → Mm → Prop} {K : Nat → Rr → Nat → List (Nat × AV) → List AV → Mm → Prop} (h : EK shM yX12_around cX12_around 4 (some .int) 61 NM NM (QI RRM P) K) (x1 : Int) (x2 : Int) (x3 : Int) (M : Mm)
    (H : ∃ P1 : Int → Mm → Prop, S_Mod_canGo 60 (andI x1 (xorI x3 (-1))) (-1) M P1 ∧ ∀ (r1 : Int) (M1 : Mm), P1 r1 M1 → (rng r1) ∧ (r1 = 0 → (K NM RRM 14 [(0, vr 1), (1, vi x1), (2, vi x2), (3, vi (x3 + 1))] [] M1)) ∧ (r1 ≠ 0 → (K NM RRM 14 [(0, vr 1), (1, vi x1), (2, vi x3), (3, vi (x3 + 1))] [] M1))) :
    K NM RRM 42 [(0, vr 1), (1, vi x1), (2, vi x2), (3, vi x3)] [] M := by
  refine r_aloadn h (q := 0) 0 rfl (by decide +kernel : decode cX12_around 42 = .ok (.aload_n 0, 1)) ?_
  refine r_iloadn h (q := 1) 1 rfl (by decide +kernel : decode cX12_around 43 = .ok (.iload_n 1, 1)) ?_
  refine r_iloadn h (q := 3) 3 rfl (by decide +kernel : decode cX12_around 44 = .ok (.iload_n 3, 1)) ?_
  refine r_iconst h (v := (-1)) (by decide +kernel : decode cX12_around 45 = .ok (.iconst (-1), 1)) ?_
  refine r_ixor h (by decide +kernel : decode cX12_around 46 = .ok (.ixor, 1)) ?_
  refine r_iand h (by decide +kernel : decode cX12_around 47 = .ok (.iand, 1)) ?_
  refine r_iconst h (v := (-1)) (by decide +kernel : decode cX12_around 48 = .ok (.iconst (-1), 1)) ?_
  obtain ⟨P1, hSP1, H⟩ := H
  refine r_callV h (as := [vi (andI x1 (xorI x3 (-1))), vi (-1)]) (S := []) (b := 1) m_Mod_432 hSP1 (by decide) (Nat.le_refl _) rfl at1M rfl (Nat.le_of_ble_eq_true rfl) (by decide +kernel : decode cX12_around 49 = .ok (.invokevirtual 432, 3)) ?_
  rintro _ _ M1 ⟨rfl, r1, rfl, hP⟩
  have H := H r1 M1 hP
  show K NM RRM _ _ [vi r1] _
  obtain ⟨g1, H⟩ := H
  obtain ⟨H1, H2⟩ := H
  refine r_if_eq h 57 g1 (by decide) (by decide +kernel : decode cX12_around 52 = .ok (.ifCond .eq 5, 3)) (fun hc => ?_) (fun hc => ?_)
  · have H := H1 hc
    refine r_iinc h (i := 3) (v := 1) (L' := [(3, vi (x3 + 1)), (0, vr 1), (1, vi x1), (2, vi x2)]) 3 rfl (by decide) rfl (by decide +kernel : decode cX12_around 57 = .ok (.iinc 3 1, 3)) ?_
    refine r_goto h 14 (by decide) (by decide +kernel : decode cX12_around 60 = .ok (.goto (-46), 3)) ?_
    refine r_drop h [1, 2, 3, 0] rfl ?_
    exact H
  · have H := H2 hc
    refine r_iloadn h (q := 3) 3 rfl (by decide +kernel : decode cX12_around 55 = .ok (.iload_n 3, 1)) ?_
    refine r_istoren h (q := 2) (L' := [(2, vi x3), (0, vr 1), (1, vi x1), (3, vi x3)]) (by decide) rfl (by decide +kernel : decode cX12_around 56 = .ok (.istore_n 2, 1)) ?_
    refine r_iinc h (i := 3) (v := 1) (L' := [(3, vi (x3 + 1)), (2, vi x3), (0, vr 1), (1, vi x1)]) 3 rfl (by decide) rfl (by decide +kernel : decode cX12_around 57 = .ok (.iinc 3 1, 3)) ?_
    refine r_goto h 14 (by decide) (by decide +kernel : decode cX12_around 60 = .ok (.goto (-46), 3)) ?_
    refine r_drop h [2, 3, 1, 0] rfl ?_
    exact H
