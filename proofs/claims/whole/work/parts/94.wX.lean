theorem m_Main_284 : MLV "MangleTown" 284 yX11_allGoingThickness cX11_allGoingThickness 3 (some .int) 0 9 := ⟨⟨(inT5 164 rfl rfl), (inT1 1 rfl rfl), (inT5 167 rfl rfl), by decide +kernel, by decide⟩, (inT5 166 rfl rfl), (inP3 9 rfl), rfl⟩
theorem m_Main_295 : MLV "MangleTown" 295 yX11_weighHouses cX11_weighHouses 2 none 0 9 := ⟨⟨(inT5 233 rfl rfl), (inT1 1 rfl rfl), (inT5 236 rfl rfl), by decide +kernel, by decide⟩, (inT5 235 rfl rfl), (inP3 11 rfl), rfl⟩
theorem m_Main_298 : MLV "MangleTown" 298 yX11_likeliestFind cX11_likeliestFind 5 (some .int) 1 9 := ⟨⟨(inT5 238 rfl rfl), (inT1 1 rfl rfl), (inT6 1 rfl rfl), by decide +kernel, by decide⟩, (inT6 0 rfl rfl), (inP3 12 rfl), rfl⟩
theorem m_Main_301 : MLS "MangleTown" 301 yX11_millionths cX11_millionths 5 (some .int) 2 := ⟨⟨(inT6 2 rfl rfl), (inT1 1 rfl rfl), (inT6 4 rfl rfl), by decide +kernel, by decide⟩, (inT6 3 rfl rfl)⟩
theorem m_Main_307 : MLS "MangleTown" 307 yX11_isBid cX11_isBid 1 (some .boolean) 1 := ⟨⟨(inT6 14 rfl rfl), (inT1 1 rfl rfl), (inT6 16 rfl rfl), by decide +kernel, by decide⟩, (inT6 15 rfl rfl)⟩
theorem m_Main_310 : MLS "MangleTown" 310 yX11_isRest cX11_isRest 7 (some .boolean) 4 := ⟨⟨(inT6 17 rfl rfl), (inT1 1 rfl rfl), (inT6 19 rfl rfl), by decide +kernel, by decide⟩, (inT6 18 rfl rfl)⟩
def SX_Main_pin (x1 : Int) (x2 : Int) (x3 : Int) (M : Mm) (P : Int → Mm → Prop) (X : Mm → Prop) : Prop := MSx shC yX11_pin cX11_pin 9 (some .int) 8 NN RRC [vr 1, vi x1, vi x2, vi x3] M (QI RRC P) X
theorem eX_Main_pin (x1 : Int) (x2 : Int) (x3 : Int) (M : Mm) {P : Int → Mm → Prop} {X : Mm → Prop} (h : ∀ K, EKX shC yX11_pin cX11_pin 9 (some .int) 8 NN RRC (QI RRC P) X K → K NN RRC 0 [(0, vr 1), (1, vi x1), (2, vi x2), (3, vi x3)] [] M) : SX_Main_pin x1 x2 x3 M P X := MSx_of (by decide +kernel) (Nat.le_of_ble_eq_true rfl) h
set_option maxHeartbeats 4000000 in
set_option maxRecDepth 100000 in
theorem w_Main_pin_0 {P : Int → Mm → Prop} {X : Mm → Prop} {K : Nat → Rr → Nat → List (Nat × AV) → List AV → Mm → Prop} (hX : EKX shC yX11_pin cX11_pin 9 (some .int) 8 NN RRC (QI RRC P) X K) (x1 : Int) (x2 : Int) (x3 : Int) (M : Mm)
    (H : (rng x1) ∧ (x1 < 0 → (K NN RRC 26 [(0, vr 1), (1, vi x1), (2, vi x2), (3, vi x3)] [vi 0] M)) ∧ (¬ (x1 < 0) → ((rng x1) ∧ (10 < x1 → (K NN RRC 26 [(0, vr 1), (1, vi x1), (2, vi x2), (3, vi x3)] [vi 0] M)) ∧ (¬ (10 < x1) → ((rng x2) ∧ (x2 < 1 → (K NN RRC 26 [(0, vr 1), (1, vi x1), (2, vi x2), (3, vi x3)] [vi 0] M)) ∧ (¬ (x2 < 1) → ((rng x2) ∧ (8 < x2 → (K NN RRC 26 [(0, vr 1), (1, vi x1), (2, vi x2), (3, vi x3)] [vi 0] M)) ∧ (¬ (8 < x2) → (K NN RRC 26 [(0, vr 1), (1, vi x1), (2, vi x2), (3, vi x3)] [vi 1] M))))))))) :
    K NN RRC 0 [(0, vr 1), (1, vi x1), (2, vi x2), (3, vi x3)] [] M := by
  have h := hX.ek
  refine r_iloadn h (q := 1) 1 rfl (by decide +kernel : decode cX11_pin 0 = .ok (.iload_n 1, 1)) ?_
  obtain ⟨g1, H⟩ := H
  obtain ⟨H1, H2⟩ := H
  refine r_if_lt h 25 g1 (by decide) (by decide +kernel : decode cX11_pin 1 = .ok (.ifCond .lt 24, 3)) (fun hc => ?_) (fun hc => ?_)
  · have H := H1 hc
    refine r_iconst h (v := 0) (by decide +kernel : decode cX11_pin 25 = .ok (.iconst 0, 1)) ?_
    exact H
  · have H := H2 hc
    refine r_iloadn h (q := 1) 1 rfl (by decide +kernel : decode cX11_pin 4 = .ok (.iload_n 1, 1)) ?_
    refine r_bipush h (v := 10) (by decide) (by decide +kernel : decode cX11_pin 5 = .ok (.bipush 10, 2)) ?_
    obtain ⟨g1, H⟩ := H
    obtain ⟨H1, H2⟩ := H
    refine r_icmp_gt h 25 g1 (by decide) (by decide) (by decide +kernel : decode cX11_pin 7 = .ok (.if_icmp .gt 18, 3)) (fun hc => ?_) (fun hc => ?_)
    · have H := H1 hc
      refine r_iconst h (v := 0) (by decide +kernel : decode cX11_pin 25 = .ok (.iconst 0, 1)) ?_
      exact H
    · have H := H2 hc
      refine r_iloadn h (q := 2) 2 rfl (by decide +kernel : decode cX11_pin 10 = .ok (.iload_n 2, 1)) ?_
      refine r_iconst h (v := 1) (by decide +kernel : decode cX11_pin 11 = .ok (.iconst 1, 1)) ?_
      obtain ⟨g1, H⟩ := H
      obtain ⟨H1, H2⟩ := H
      refine r_icmp_lt h 25 g1 (by decide) (by decide) (by decide +kernel : decode cX11_pin 12 = .ok (.if_icmp .lt 13, 3)) (fun hc => ?_) (fun hc => ?_)
      · have H := H1 hc
        refine r_iconst h (v := 0) (by decide +kernel : decode cX11_pin 25 = .ok (.iconst 0, 1)) ?_
        exact H
      · have H := H2 hc
        refine r_iloadn h (q := 2) 2 rfl (by decide +kernel : decode cX11_pin 15 = .ok (.iload_n 2, 1)) ?_
        refine r_bipush h (v := 8) (by decide) (by decide +kernel : decode cX11_pin 16 = .ok (.bipush 8, 2)) ?_
        obtain ⟨g1, H⟩ := H
        obtain ⟨H1, H2⟩ := H
        refine r_icmp_gt h 25 g1 (by decide) (by decide) (by decide +kernel : decode cX11_pin 18 = .ok (.if_icmp .gt 7, 3)) (fun hc => ?_) (fun hc => ?_)
        · have H := H1 hc
          refine r_iconst h (v := 0) (by decide +kernel : decode cX11_pin 25 = .ok (.iconst 0, 1)) ?_
          exact H
        · have H := H2 hc
          refine r_iconst h (v := 1) (by decide +kernel : decode cX11_pin 21 = .ok (.iconst 1, 1)) ?_
          refine r_goto h 26 (by decide) (by decide +kernel : decode cX11_pin 22 = .ok (.goto 4, 3)) ?_
          exact H
set_option maxHeartbeats 4000000 in
set_option maxRecDepth 100000 in
theorem w_Main_pin_26 {P : Int → Mm → Prop} {X : Mm → Prop} {K : Nat → Rr → Nat → List (Nat × AV) → List AV → Mm → Prop} (hX : EKX shC yX11_pin cX11_pin 9 (some .int) 8 NN RRC (QI RRC P) X K) (x1 : Int) (x2 : Int) (x3 : Int) (s0 : Int) (M : Mm)
    (H : ∃ P1 : Int → Mm → Prop, S_Main_allGoingThickness  M P1 ∧ ∀ (r1 : Int) (M1 : Mm), P1 r1 M1 → (rng s0) ∧ (s0 = 0 → (X M1)) ∧ (s0 ≠ 0 → ((rng x3) ∧ (x3 < 0 → (X M1)) ∧ (¬ (x3 < 0) → ((rng x3) ∧ (1 < x3 → (X M1)) ∧ (¬ (1 < x3) → ((rng r1) ∧ (r1 ≠ 0 → (∃ P2 : Mm → Prop, S_Main_weighHouses  M1 P2 ∧ ∀ M2 : Mm, P2 M2 → K NN RRC 77 [(0, vr 1), (1, vi x1), (2, vi x2), (3, vi x3), (5, vi r1), (6, vi (-1)), (7, vi 0), (8, vi 0)] [] M2)) ∧ (r1 = 0 → (X M1))))))))) :
    K NN RRC 26 [(0, vr 1), (1, vi x1), (2, vi x2), (3, vi x3)] [vi s0] M := by
  have h := hX.ek
  refine r_istore h (L' := [(4, vi s0), (0, vr 1), (1, vi x1), (2, vi x2), (3, vi x3)]) (by decide) rfl (by decide +kernel : decode cX11_pin 26 = .ok (.istore 4, 2)) ?_
  refine r_aloadn h (q := 0) 1 rfl (by decide +kernel : decode cX11_pin 28 = .ok (.aload_n 0, 1)) ?_
  obtain ⟨P1, hSP1, H⟩ := H
  refine r_callV h (as := []) (S := []) (b := 1) m_Main_284 hSP1 (by decide) (Nat.le_refl _) rfl at1C rfl (Nat.le_of_ble_eq_true rfl) (by decide +kernel : decode cX11_pin 29 = .ok (.invokevirtual 284, 3)) ?_
  rintro _ _ M1 ⟨rfl, r1, rfl, hP⟩
  have H := H r1 M1 hP
  show K NN RRC _ _ [vi r1] _
  refine r_istore h (L' := [(5, vi r1), (4, vi s0), (0, vr 1), (1, vi x1), (2, vi x2), (3, vi x3)]) (by decide) rfl (by decide +kernel : decode cX11_pin 32 = .ok (.istore 5, 2)) ?_
  refine r_iload h 1 rfl (by decide +kernel : decode cX11_pin 34 = .ok (.iload 4, 2)) ?_
  obtain ⟨g1, H⟩ := H
  obtain ⟨H1, H2⟩ := H
  refine r_if_eq h 53 g1 (by decide) (by decide +kernel : decode cX11_pin 36 = .ok (.ifCond .eq 17, 3)) (fun hc => ?_) (fun hc => ?_)
  · have H := H1 hc
    exact r_throw hX rfl (inT5 168 rfl rfl) (inT1 26 rfl rfl) (is := 290) (k := 31) (tx := "no such search for a pin") (by decide +kernel) (by decide) (by decide) (by decide +kernel : decode cX11_pin 53 = .ok (.new 288, 3)) (by decide +kernel : decode cX11_pin 56 = .ok (.dup, 1)) (by decide +kernel : decode cX11_pin 57 = .ok (.ldc_w 290, 3)) (by decide +kernel : decode cX11_pin 60 = .ok (.invokespecial 292, 3)) (by decide +kernel : decode cX11_pin 63 = .ok (.athrow, 1)) H
  · have H := H2 hc
    refine r_iloadn h (q := 3) 5 rfl (by decide +kernel : decode cX11_pin 39 = .ok (.iload_n 3, 1)) ?_
    obtain ⟨g1, H⟩ := H
    obtain ⟨H1, H2⟩ := H
    refine r_if_lt h 53 g1 (by decide) (by decide +kernel : decode cX11_pin 40 = .ok (.ifCond .lt 13, 3)) (fun hc => ?_) (fun hc => ?_)
    · have H := H1 hc
      exact r_throw hX rfl (inT5 168 rfl rfl) (inT1 26 rfl rfl) (is := 290) (k := 31) (tx := "no such search for a pin") (by decide +kernel) (by decide) (by decide) (by decide +kernel : decode cX11_pin 53 = .ok (.new 288, 3)) (by decide +kernel : decode cX11_pin 56 = .ok (.dup, 1)) (by decide +kernel : decode cX11_pin 57 = .ok (.ldc_w 290, 3)) (by decide +kernel : decode cX11_pin 60 = .ok (.invokespecial 292, 3)) (by decide +kernel : decode cX11_pin 63 = .ok (.athrow, 1)) H
    · have H := H2 hc
      refine r_iloadn h (q := 3) 5 rfl (by decide +kernel : decode cX11_pin 43 = .ok (.iload_n 3, 1)) ?_
      refine r_iconst h (v := 1) (by decide +kernel : decode cX11_pin 44 = .ok (.iconst 1, 1)) ?_
      obtain ⟨g1, H⟩ := H
      obtain ⟨H1, H2⟩ := H
      refine r_icmp_gt h 53 g1 (by decide) (by decide) (by decide +kernel : decode cX11_pin 45 = .ok (.if_icmp .gt 8, 3)) (fun hc => ?_) (fun hc => ?_)
      · have H := H1 hc
        exact r_throw hX rfl (inT5 168 rfl rfl) (inT1 26 rfl rfl) (is := 290) (k := 31) (tx := "no such search for a pin") (by decide +kernel) (by decide) (by decide) (by decide +kernel : decode cX11_pin 53 = .ok (.new 288, 3)) (by decide +kernel : decode cX11_pin 56 = .ok (.dup, 1)) (by decide +kernel : decode cX11_pin 57 = .ok (.ldc_w 290, 3)) (by decide +kernel : decode cX11_pin 60 = .ok (.invokespecial 292, 3)) (by decide +kernel : decode cX11_pin 63 = .ok (.athrow, 1)) H
      · have H := H2 hc
        refine r_iload h 0 rfl (by decide +kernel : decode cX11_pin 48 = .ok (.iload 5, 2)) ?_
        obtain ⟨g1, H⟩ := H
        obtain ⟨H1, H2⟩ := H
        refine r_if_ne h 64 g1 (by decide) (by decide +kernel : decode cX11_pin 50 = .ok (.ifCond .ne 14, 3)) (fun hc => ?_) (fun hc => ?_)
        · have H := H1 hc
          refine r_aloadn h (q := 0) 2 rfl (by decide +kernel : decode cX11_pin 64 = .ok (.aload_n 0, 1)) ?_
          obtain ⟨P2, hSP2, H⟩ := H
          refine r_callV h (as := []) (S := []) (b := 1) m_Main_295 hSP2 (by decide) (Nat.le_refl _) rfl at1C rfl (Nat.le_of_ble_eq_true rfl) (by decide +kernel : decode cX11_pin 65 = .ok (.invokevirtual 295, 3)) ?_
          rintro _ _ M2 ⟨rfl, rfl, hP⟩
          have H := H M2 hP
          show K NN RRC _ _ [] _
          refine r_iconst h (v := (-1)) (by decide +kernel : decode cX11_pin 68 = .ok (.iconst (-1), 1)) ?_
          refine r_istore h (L' := [(6, vi (-1)), (5, vi r1), (4, vi s0), (0, vr 1), (1, vi x1), (2, vi x2), (3, vi x3)]) (by decide) rfl (by decide +kernel : decode cX11_pin 69 = .ok (.istore 6, 2)) ?_
          refine r_iconst h (v := 0) (by decide +kernel : decode cX11_pin 71 = .ok (.iconst 0, 1)) ?_
          refine r_istore h (L' := [(7, vi 0), (6, vi (-1)), (5, vi r1), (4, vi s0), (0, vr 1), (1, vi x1), (2, vi x2), (3, vi x3)]) (by decide) rfl (by decide +kernel : decode cX11_pin 72 = .ok (.istore 7, 2)) ?_
          refine r_iconst h (v := 0) (by decide +kernel : decode cX11_pin 74 = .ok (.iconst 0, 1)) ?_
          refine r_istore h (L' := [(8, vi 0), (7, vi 0), (6, vi (-1)), (5, vi r1), (4, vi s0), (0, vr 1), (1, vi x1), (2, vi x2), (3, vi x3)]) (by decide) rfl (by decide +kernel : decode cX11_pin 75 = .ok (.istore 8, 2)) ?_
          refine r_drop h [5, 6, 7, 8, 3, 2, 1, 0] rfl ?_
          exact H
        · have H := H2 hc
          exact r_throw hX rfl (inT5 168 rfl rfl) (inT1 26 rfl rfl) (is := 290) (k := 31) (tx := "no such search for a pin") (by decide +kernel) (by decide) (by decide) (by decide +kernel : decode cX11_pin 53 = .ok (.new 288, 3)) (by decide +kernel : decode cX11_pin 56 = .ok (.dup, 1)) (by decide +kernel : decode cX11_pin 57 = .ok (.ldc_w 290, 3)) (by decide +kernel : decode cX11_pin 60 = .ok (.invokespecial 292, 3)) (by decide +kernel : decode cX11_pin 63 = .ok (.athrow, 1)) H
set_option maxHeartbeats 4000000 in
set_option maxRecDepth 100000 in
theorem w_Main_pin_77 {P : Int → Mm → Prop} {X : Mm → Prop} {K : Nat → Rr → Nat → List (Nat × AV) → List AV → Mm → Prop} (hX : EKX shC yX11_pin cX11_pin 9 (some .int) 8 NN RRC (QI RRC P) X K) (x1 : Int) (x2 : Int) (x3 : Int) (x5 : Int) (x6 : Int) (x7 : Int) (x8 : Int) (M : Mm)
    (H : (rng x8) ∧ (rng x2) ∧ (x2 ≤ x8 → ((rng x3) ∧ (x3 ≠ 0 → (P x7 M)) ∧ (x3 = 0 → (P x6 M)))) ∧ (¬ (x2 ≤ x8) → (∃ P1 : Int → Mm → Prop, S_Main_likeliestFind x1 M P1 ∧ ∀ (r1 : Int) (M1 : Mm), P1 r1 M1 → (rng r1) ∧ (r1 = (-1) → (K NN RRC 77 [(0, vr 1), (1, vi x1), (2, vi x2), (3, vi x3), (5, vi x5), (6, vi r1), (7, vi x7), (8, vi (x8 + 1))] [] M1)) ∧ (r1 ≠ (-1) → ((0 ≤ r1 ∧ r1 < 7) ∧ (rng x1) ∧ ∃ P2 : Int → Mm → Prop, S_Main_millionths ((M1 72 r1.toNat) * x1) x5 M1 P2 ∧ ∀ (r2 : Int) (M2 : Mm), P2 r2 M2 → (0 ≤ r1 ∧ r1 < 7) ∧ (rng (10 - x1)) ∧ (0 ≤ r1 ∧ r1 < 7) ∧ ∀ M3 : Mm, M3 = (upr M2 72 (up1 (M2 72) r1.toNat ((divL (M2 72 r1.toNat) 10) * (10 - x1)))) → K NN RRC 77 [(0, vr 1), (1, vi x1), (2, vi x2), (3, vi x3), (5, vi x5), (6, vi r1), (7, vi (x7 + r2)), (8, vi (x8 + 1))] [] M3))))) :
    K NN RRC 77 [(0, vr 1), (1, vi x1), (2, vi x2), (3, vi x3), (5, vi x5), (6, vi x6), (7, vi x7), (8, vi x8)] [] M := by
  have h := hX.ek
  refine r_iload h 7 rfl (by decide +kernel : decode cX11_pin 77 = .ok (.iload 8, 2)) ?_
  refine r_iloadn h (q := 2) 2 rfl (by decide +kernel : decode cX11_pin 79 = .ok (.iload_n 2, 1)) ?_
  obtain ⟨g1, g2, H⟩ := H
  obtain ⟨H1, H2⟩ := H
  refine r_icmp_ge h 146 g1 g2 (by decide) (by decide +kernel : decode cX11_pin 80 = .ok (.if_icmp .ge 66, 3)) (fun hc => ?_) (fun hc => ?_)
  · have H := H1 hc
    refine r_iloadn h (q := 3) 3 rfl (by decide +kernel : decode cX11_pin 146 = .ok (.iload_n 3, 1)) ?_
    obtain ⟨g1, H⟩ := H
    obtain ⟨H1, H2⟩ := H
    refine r_if_ne h 155 g1 (by decide) (by decide +kernel : decode cX11_pin 147 = .ok (.ifCond .ne 8, 3)) (fun hc => ?_) (fun hc => ?_)
    · have H := H1 hc
      refine r_iload h 6 rfl (by decide +kernel : decode cX11_pin 155 = .ok (.iload 7, 2)) ?_
      exact r_iret h rfl (by decide +kernel : decode cX11_pin 157 = .ok (.ireturn, 1)) rfl ⟨rfl, _, rfl, H⟩
    · have H := H2 hc
      refine r_iload h 5 rfl (by decide +kernel : decode cX11_pin 150 = .ok (.iload 6, 2)) ?_
      refine r_goto h 157 (by decide) (by decide +kernel : decode cX11_pin 152 = .ok (.goto 5, 3)) ?_
      exact r_iret h rfl (by decide +kernel : decode cX11_pin 157 = .ok (.ireturn, 1)) rfl ⟨rfl, _, rfl, H⟩
  · have H := H2 hc
    refine r_aloadn h (q := 0) 0 rfl (by decide +kernel : decode cX11_pin 83 = .ok (.aload_n 0, 1)) ?_
    refine r_iloadn h (q := 1) 1 rfl (by decide +kernel : decode cX11_pin 84 = .ok (.iload_n 1, 1)) ?_
    obtain ⟨P1, hSP1, H⟩ := H
    refine r_callV h (as := [vi x1]) (S := []) (b := 1) m_Main_298 hSP1 (by decide) (Nat.le_refl _) rfl at1C rfl (Nat.le_of_ble_eq_true rfl) (by decide +kernel : decode cX11_pin 85 = .ok (.invokevirtual 298, 3)) ?_
    rintro _ _ M1 ⟨rfl, r1, rfl, hP⟩
    have H := H r1 M1 hP
    show K NN RRC _ _ [vi r1] _
    refine r_istore h (L' := [(6, vi r1), (0, vr 1), (1, vi x1), (2, vi x2), (3, vi x3), (5, vi x5), (7, vi x7), (8, vi x8)]) (by decide) rfl (by decide +kernel : decode cX11_pin 88 = .ok (.istore 6, 2)) ?_
    refine r_iload h 0 rfl (by decide +kernel : decode cX11_pin 90 = .ok (.iload 6, 2)) ?_
    refine r_iconst h (v := (-1)) (by decide +kernel : decode cX11_pin 92 = .ok (.iconst (-1), 1)) ?_
    obtain ⟨g1, H⟩ := H
    obtain ⟨H1, H2⟩ := H
    refine r_icmp_eq h 140 g1 (by decide) (by decide) (by decide +kernel : decode cX11_pin 93 = .ok (.if_icmp .eq 47, 3)) (fun hc => ?_) (fun hc => ?_)
    · have H := H1 hc
      refine r_iinc h (i := 8) (v := 1) (L' := [(8, vi (x8 + 1)), (6, vi r1), (0, vr 1), (1, vi x1), (2, vi x2), (3, vi x3), (5, vi x5), (7, vi x7)]) 7 rfl (by decide) rfl (by decide +kernel : decode cX11_pin 140 = .ok (.iinc 8 1, 3)) ?_
      refine r_goto h 77 (by decide) (by decide +kernel : decode cX11_pin 143 = .ok (.goto (-66), 3)) ?_
      refine r_drop h [2, 3, 4, 5, 6, 1, 7, 0] rfl ?_
      exact H
    · have H := H2 hc
      refine r_iload h 6 rfl (by decide +kernel : decode cX11_pin 96 = .ok (.iload 7, 2)) ?_
      refine r_aloadn h (q := 0) 1 rfl (by decide +kernel : decode cX11_pin 98 = .ok (.aload_n 0, 1)) ?_
      refine r_getR h (r := 72) f_Main_83 at1C rfl (by decide) (by decide +kernel : decode cX11_pin 99 = .ok (.getfield 83, 3)) ?_
      refine r_iload h 0 rfl (by decide +kernel : decode cX11_pin 102 = .ok (.iload 6, 2)) ?_
      obtain ⟨g1, H⟩ := H
      refine r_lald h r1.toNat rfl atC_72 g1 (by decide) (by decide +kernel : decode cX11_pin 104 = .ok (.laload, 1)) ?_
      refine r_iloadn h (q := 1) 2 rfl (by decide +kernel : decode cX11_pin 105 = .ok (.iload_n 1, 1)) ?_
      obtain ⟨g1, H⟩ := H
      refine r_i2l h g1 (by decide +kernel : decode cX11_pin 106 = .ok (.i2l, 1)) ?_
      refine r_lmul h (by decide +kernel : decode cX11_pin 107 = .ok (.lmul, 1)) ?_
      refine r_iload h 5 rfl (by decide +kernel : decode cX11_pin 108 = .ok (.iload 5, 2)) ?_
      obtain ⟨P2, hSP2, H⟩ := H
      refine r_callS h (as := [vl ((M1 72 r1.toNat) * x1), vi x5]) (S := [vi x7]) m_Main_301 hSP2 (by decide) (Nat.le_refl _) rfl rfl (Nat.le_of_ble_eq_true rfl) (by decide +kernel : decode cX11_pin 110 = .ok (.invokestatic 301, 3)) ?_
      rintro _ _ M2 ⟨rfl, r2, rfl, hP⟩
      have H := H r2 M2 hP
      show K NN RRC _ _ [vi r2, vi x7] _
      refine r_iadd h (by decide +kernel : decode cX11_pin 113 = .ok (.iadd, 1)) ?_
      refine r_istore h (L' := [(7, vi (x7 + r2)), (6, vi r1), (0, vr 1), (1, vi x1), (2, vi x2), (3, vi x3), (5, vi x5), (8, vi x8)]) (by decide) rfl (by decide +kernel : decode cX11_pin 114 = .ok (.istore 7, 2)) ?_
      refine r_aloadn h (q := 0) 2 rfl (by decide +kernel : decode cX11_pin 116 = .ok (.aload_n 0, 1)) ?_
      refine r_getR h (r := 72) f_Main_83 at1C rfl (by decide) (by decide +kernel : decode cX11_pin 117 = .ok (.getfield 83, 3)) ?_
      refine r_iload h 1 rfl (by decide +kernel : decode cX11_pin 120 = .ok (.iload 6, 2)) ?_
      refine r_aloadn h (q := 0) 2 rfl (by decide +kernel : decode cX11_pin 122 = .ok (.aload_n 0, 1)) ?_
      refine r_getR h (r := 72) f_Main_83 at1C rfl (by decide) (by decide +kernel : decode cX11_pin 123 = .ok (.getfield 83, 3)) ?_
      refine r_iload h 1 rfl (by decide +kernel : decode cX11_pin 126 = .ok (.iload 6, 2)) ?_
      obtain ⟨g1, H⟩ := H
      refine r_lald h r1.toNat rfl atC_72 g1 (by decide) (by decide +kernel : decode cX11_pin 128 = .ok (.laload, 1)) ?_
      refine r_ldc2 h (v := 10) kc_Main_305 (by decide +kernel : decode cX11_pin 129 = .ok (.ldc2_w 305, 3)) ?_
      refine r_ldiv h (by decide) (by decide) (by decide +kernel : decode cX11_pin 132 = .ok (.ldiv, 1)) ?_
      refine r_bipush h (v := 10) (by decide) (by decide +kernel : decode cX11_pin 133 = .ok (.bipush 10, 2)) ?_
      refine r_iloadn h (q := 1) 3 rfl (by decide +kernel : decode cX11_pin 135 = .ok (.iload_n 1, 1)) ?_
      refine r_isub h (by decide +kernel : decode cX11_pin 136 = .ok (.isub, 1)) ?_
      obtain ⟨g1, H⟩ := H
      refine r_i2l h g1 (by decide +kernel : decode cX11_pin 137 = .ok (.i2l, 1)) ?_
      refine r_lmul h (by decide +kernel : decode cX11_pin 138 = .ok (.lmul, 1)) ?_
      obtain ⟨g1, H⟩ := H
      refine r_last h r1.toNat rfl atC_72 g1 (by decide) (by decide +kernel : decode cX11_pin 139 = .ok (.lastore, 1)) ?_
      have H := H _ rfl
      revert H
      generalize (upr M2 72 (up1 (M2 72) r1.toNat ((divL (M2 72 r1.toNat) 10) * (10 - x1)))) = M3
      intro H
      refine r_iinc h (i := 8) (v := 1) (L' := [(8, vi (x8 + 1)), (7, vi (x7 + r2)), (6, vi r1), (0, vr 1), (1, vi x1), (2, vi x2), (3, vi x3), (5, vi x5)]) 7 rfl (by decide) rfl (by decide +kernel : decode cX11_pin 140 = .ok (.iinc 8 1, 3)) ?_
      refine r_goto h 77 (by decide) (by decide +kernel : decode cX11_pin 143 = .ok (.goto (-66), 3)) ?_
      refine r_drop h [3, 4, 5, 6, 7, 2, 1, 0] rfl ?_
      exact H
def SX_Main_rests (x1 : Int) (x2 : Int) (x3 : Int) (M : Mm) (P : Int → Mm → Prop) (X : Mm → Prop) : Prop := MSx shC yX11_rests cX11_rests 8 (some .int) 8 NN RRC [vr 1, vi x1, vi x2, vi x3] M (QI RRC P) X
theorem eX_Main_rests (x1 : Int) (x2 : Int) (x3 : Int) (M : Mm) {P : Int → Mm → Prop} {X : Mm → Prop} (h : ∀ K, EKX shC yX11_rests cX11_rests 8 (some .int) 8 NN RRC (QI RRC P) X K → K NN RRC 0 [(0, vr 1), (1, vi x1), (2, vi x2), (3, vi x3)] [] M) : SX_Main_rests x1 x2 x3 M P X := MSx_of (by decide +kernel) (Nat.le_of_ble_eq_true rfl) h
set_option maxHeartbeats 4000000 in
set_option maxRecDepth 100000 in
theorem w_Main_rests_0 {P : Int → Mm → Prop} {X : Mm → Prop} {K : Nat → Rr → Nat → List (Nat × AV) → List AV → Mm → Prop} (hX : EKX shC yX11_rests cX11_rests 8 (some .int) 8 NN RRC (QI RRC P) X K) (x1 : Int) (x2 : Int) (x3 : Int) (M : Mm)
    (H : ∃ P1 : Int → Mm → Prop, S_Main_isBid x1 M P1 ∧ ∀ (r1 : Int) (M1 : Mm), P1 r1 M1 → (rng r1) ∧ (r1 = 0 → (K NN RRC 35 [(1, vi x1), (2, vi x2), (3, vi x3), (4, vi 0), (5, vi 0), (6, vi (-1)), (7, vi 0)] [] M1)) ∧ (r1 ≠ 0 → (∃ P2 : Int → Mm → Prop, S_Main_isBid x2 M1 P2 ∧ ∀ (r2 : Int) (M2 : Mm), P2 r2 M2 → (rng r2) ∧ (r2 = 0 → (K NN RRC 35 [(1, vi x1), (2, vi x2), (3, vi x3), (4, vi 0), (5, vi 0), (6, vi (-1)), (7, vi 0)] [] M2)) ∧ (r2 ≠ 0 → ((rng x3) ∧ (x3 < (-1) → (K NN RRC 35 [(1, vi x1), (2, vi x2), (3, vi x3), (4, vi 0), (5, vi 0), (6, vi (-1)), (7, vi 0)] [] M2)) ∧ (¬ (x3 < (-1)) → (K NN RRC 35 [(1, vi x1), (2, vi x2), (3, vi x3), (4, vi 1), (5, vi 0), (6, vi (-1)), (7, vi 0)] [] M2))))))) :
    K NN RRC 0 [(0, vr 1), (1, vi x1), (2, vi x2), (3, vi x3)] [] M := by
  have h := hX.ek
  refine r_iloadn h (q := 1) 1 rfl (by decide +kernel : decode cX11_rests 0 = .ok (.iload_n 1, 1)) ?_
  obtain ⟨P1, hSP1, H⟩ := H
  refine r_callS h (as := [vi x1]) (S := []) m_Main_307 hSP1 (by decide) (Nat.le_refl _) rfl rfl (Nat.le_of_ble_eq_true rfl) (by decide +kernel : decode cX11_rests 1 = .ok (.invokestatic 307, 3)) ?_
  rintro _ _ M1 ⟨rfl, r1, rfl, hP⟩
  have H := H r1 M1 hP
  show K NN RRC _ _ [vi r1] _
  obtain ⟨g1, H⟩ := H
  obtain ⟨H1, H2⟩ := H
  refine r_if_eq h 23 g1 (by decide) (by decide +kernel : decode cX11_rests 4 = .ok (.ifCond .eq 19, 3)) (fun hc => ?_) (fun hc => ?_)
  · have H := H1 hc
    refine r_iconst h (v := 0) (by decide +kernel : decode cX11_rests 23 = .ok (.iconst 0, 1)) ?_
    refine r_istore h (L' := [(4, vi 0), (0, vr 1), (1, vi x1), (2, vi x2), (3, vi x3)]) (by decide) rfl (by decide +kernel : decode cX11_rests 24 = .ok (.istore 4, 2)) ?_
    refine r_iconst h (v := 0) (by decide +kernel : decode cX11_rests 26 = .ok (.iconst 0, 1)) ?_
    refine r_istore h (L' := [(5, vi 0), (4, vi 0), (0, vr 1), (1, vi x1), (2, vi x2), (3, vi x3)]) (by decide) rfl (by decide +kernel : decode cX11_rests 27 = .ok (.istore 5, 2)) ?_
    refine r_iconst h (v := (-1)) (by decide +kernel : decode cX11_rests 29 = .ok (.iconst (-1), 1)) ?_
    refine r_istore h (L' := [(6, vi (-1)), (5, vi 0), (4, vi 0), (0, vr 1), (1, vi x1), (2, vi x2), (3, vi x3)]) (by decide) rfl (by decide +kernel : decode cX11_rests 30 = .ok (.istore 6, 2)) ?_
    refine r_iconst h (v := 0) (by decide +kernel : decode cX11_rests 32 = .ok (.iconst 0, 1)) ?_
    refine r_istore h (L' := [(7, vi 0), (6, vi (-1)), (5, vi 0), (4, vi 0), (0, vr 1), (1, vi x1), (2, vi x2), (3, vi x3)]) (by decide) rfl (by decide +kernel : decode cX11_rests 33 = .ok (.istore 7, 2)) ?_
    refine r_drop h [5, 6, 7, 3, 2, 1, 0] rfl ?_
    exact H
  · have H := H2 hc
    refine r_iloadn h (q := 2) 2 rfl (by decide +kernel : decode cX11_rests 7 = .ok (.iload_n 2, 1)) ?_
    obtain ⟨P2, hSP2, H⟩ := H
    refine r_callS h (as := [vi x2]) (S := []) m_Main_307 hSP2 (by decide) (Nat.le_refl _) rfl rfl (Nat.le_of_ble_eq_true rfl) (by decide +kernel : decode cX11_rests 8 = .ok (.invokestatic 307, 3)) ?_
    rintro _ _ M2 ⟨rfl, r2, rfl, hP⟩
    have H := H r2 M2 hP
    show K NN RRC _ _ [vi r2] _
    obtain ⟨g1, H⟩ := H
    obtain ⟨H1, H2⟩ := H
    refine r_if_eq h 23 g1 (by decide) (by decide +kernel : decode cX11_rests 11 = .ok (.ifCond .eq 12, 3)) (fun hc => ?_) (fun hc => ?_)
    · have H := H1 hc
      refine r_iconst h (v := 0) (by decide +kernel : decode cX11_rests 23 = .ok (.iconst 0, 1)) ?_
      refine r_istore h (L' := [(4, vi 0), (0, vr 1), (1, vi x1), (2, vi x2), (3, vi x3)]) (by decide) rfl (by decide +kernel : decode cX11_rests 24 = .ok (.istore 4, 2)) ?_
      refine r_iconst h (v := 0) (by decide +kernel : decode cX11_rests 26 = .ok (.iconst 0, 1)) ?_
      refine r_istore h (L' := [(5, vi 0), (4, vi 0), (0, vr 1), (1, vi x1), (2, vi x2), (3, vi x3)]) (by decide) rfl (by decide +kernel : decode cX11_rests 27 = .ok (.istore 5, 2)) ?_
      refine r_iconst h (v := (-1)) (by decide +kernel : decode cX11_rests 29 = .ok (.iconst (-1), 1)) ?_
      refine r_istore h (L' := [(6, vi (-1)), (5, vi 0), (4, vi 0), (0, vr 1), (1, vi x1), (2, vi x2), (3, vi x3)]) (by decide) rfl (by decide +kernel : decode cX11_rests 30 = .ok (.istore 6, 2)) ?_
      refine r_iconst h (v := 0) (by decide +kernel : decode cX11_rests 32 = .ok (.iconst 0, 1)) ?_
      refine r_istore h (L' := [(7, vi 0), (6, vi (-1)), (5, vi 0), (4, vi 0), (0, vr 1), (1, vi x1), (2, vi x2), (3, vi x3)]) (by decide) rfl (by decide +kernel : decode cX11_rests 33 = .ok (.istore 7, 2)) ?_
      refine r_drop h [5, 6, 7, 3, 2, 1, 0] rfl ?_
      exact H
    · have H := H2 hc
      refine r_iloadn h (q := 3) 3 rfl (by decide +kernel : decode cX11_rests 14 = .ok (.iload_n 3, 1)) ?_
      refine r_iconst h (v := (-1)) (by decide +kernel : decode cX11_rests 15 = .ok (.iconst (-1), 1)) ?_
      obtain ⟨g1, H⟩ := H
      obtain ⟨H1, H2⟩ := H
      refine r_icmp_lt h 23 g1 (by decide) (by decide) (by decide +kernel : decode cX11_rests 16 = .ok (.if_icmp .lt 7, 3)) (fun hc => ?_) (fun hc => ?_)
      · have H := H1 hc
        refine r_iconst h (v := 0) (by decide +kernel : decode cX11_rests 23 = .ok (.iconst 0, 1)) ?_
        refine r_istore h (L' := [(4, vi 0), (0, vr 1), (1, vi x1), (2, vi x2), (3, vi x3)]) (by decide) rfl (by decide +kernel : decode cX11_rests 24 = .ok (.istore 4, 2)) ?_
        refine r_iconst h (v := 0) (by decide +kernel : decode cX11_rests 26 = .ok (.iconst 0, 1)) ?_
        refine r_istore h (L' := [(5, vi 0), (4, vi 0), (0, vr 1), (1, vi x1), (2, vi x2), (3, vi x3)]) (by decide) rfl (by decide +kernel : decode cX11_rests 27 = .ok (.istore 5, 2)) ?_
        refine r_iconst h (v := (-1)) (by decide +kernel : decode cX11_rests 29 = .ok (.iconst (-1), 1)) ?_
        refine r_istore h (L' := [(6, vi (-1)), (5, vi 0), (4, vi 0), (0, vr 1), (1, vi x1), (2, vi x2), (3, vi x3)]) (by decide) rfl (by decide +kernel : decode cX11_rests 30 = .ok (.istore 6, 2)) ?_
        refine r_iconst h (v := 0) (by decide +kernel : decode cX11_rests 32 = .ok (.iconst 0, 1)) ?_
        refine r_istore h (L' := [(7, vi 0), (6, vi (-1)), (5, vi 0), (4, vi 0), (0, vr 1), (1, vi x1), (2, vi x2), (3, vi x3)]) (by decide) rfl (by decide +kernel : decode cX11_rests 33 = .ok (.istore 7, 2)) ?_
        refine r_drop h [5, 6, 7, 3, 2, 1, 0] rfl ?_
        exact H
      · have H := H2 hc
        refine r_iconst h (v := 1) (by decide +kernel : decode cX11_rests 19 = .ok (.iconst 1, 1)) ?_
        refine r_goto h 24 (by decide) (by decide +kernel : decode cX11_rests 20 = .ok (.goto 4, 3)) ?_
        refine r_istore h (L' := [(4, vi 1), (0, vr 1), (1, vi x1), (2, vi x2), (3, vi x3)]) (by decide) rfl (by decide +kernel : decode cX11_rests 24 = .ok (.istore 4, 2)) ?_
        refine r_iconst h (v := 0) (by decide +kernel : decode cX11_rests 26 = .ok (.iconst 0, 1)) ?_
        refine r_istore h (L' := [(5, vi 0), (4, vi 1), (0, vr 1), (1, vi x1), (2, vi x2), (3, vi x3)]) (by decide) rfl (by decide +kernel : decode cX11_rests 27 = .ok (.istore 5, 2)) ?_
        refine r_iconst h (v := (-1)) (by decide +kernel : decode cX11_rests 29 = .ok (.iconst (-1), 1)) ?_
        refine r_istore h (L' := [(6, vi (-1)), (5, vi 0), (4, vi 1), (0, vr 1), (1, vi x1), (2, vi x2), (3, vi x3)]) (by decide) rfl (by decide +kernel : decode cX11_rests 30 = .ok (.istore 6, 2)) ?_
        refine r_iconst h (v := 0) (by decide +kernel : decode cX11_rests 32 = .ok (.iconst 0, 1)) ?_
        refine r_istore h (L' := [(7, vi 0), (6, vi (-1)), (5, vi 0), (4, vi 1), (0, vr 1), (1, vi x1), (2, vi x2), (3, vi x3)]) (by decide) rfl (by decide +kernel : decode cX11_rests 33 = .ok (.istore 7, 2)) ?_
        refine r_drop h [5, 6, 7, 3, 2, 1, 0] rfl ?_
        exact H
set_option maxHeartbeats 4000000 in
set_option maxRecDepth 100000 in
theorem w_Main_rests_35 {P : Int → Mm → Prop} {X : Mm → Prop} {K : Nat → Rr → Nat → List (Nat × AV) → List AV → Mm → Prop} (hX : EKX shC yX11_rests cX11_rests 8 (some .int) 8 NN RRC (QI RRC P) X K) (x1 : Int) (x2 : Int) (x3 : Int) (x4 : Int) (x5 : Int) (x6 : Int) (x7 : Int) (M : Mm)
    (H : (rng x4) ∧ (x4 = 0 → (K NN RRC 89 [(3, vi x3), (4, vi x4), (5, vi x5), (6, vi x6)] [] M)) ∧ (x4 ≠ 0 → ((rng x7) ∧ (100 ≤ x7 → (K NN RRC 89 [(3, vi x3), (4, vi x4), (5, vi x5), (6, vi x6)] [] M)) ∧ (¬ (100 ≤ x7) → (∃ P1 : Int → Mm → Prop, S_Main_isRest x1 x2 (divI x7 10) (remI x7 10) M P1 ∧ ∀ (r1 : Int) (M1 : Mm), P1 r1 M1 → (rng r1) ∧ (r1 = 0 → (K NN RRC 35 [(1, vi x1), (2, vi x2), (3, vi x3), (4, vi x4), (5, vi x5), (6, vi x6), (7, vi (x7 + 1))] [] M1)) ∧ (r1 ≠ 0 → ((rng x5) ∧ (rng x3) ∧ (x5 ≠ x3 → (K NN RRC 35 [(1, vi x1), (2, vi x2), (3, vi x3), (4, vi x4), (5, vi (x5 + 1)), (6, vi x6), (7, vi (x7 + 1))] [] M1)) ∧ (x5 = x3 → (K NN RRC 35 [(1, vi x1), (2, vi x2), (3, vi x3), (4, vi x4), (5, vi (x5 + 1)), (6, vi x7), (7, vi (x7 + 1))] [] M1))))))))) :
    K NN RRC 35 [(1, vi x1), (2, vi x2), (3, vi x3), (4, vi x4), (5, vi x5), (6, vi x6), (7, vi x7)] [] M := by
  have h := hX.ek
  refine r_iload h 3 rfl (by decide +kernel : decode cX11_rests 35 = .ok (.iload 4, 2)) ?_
  obtain ⟨g1, H⟩ := H
  obtain ⟨H1, H2⟩ := H
  refine r_if_eq h 89 g1 (by decide) (by decide +kernel : decode cX11_rests 37 = .ok (.ifCond .eq 52, 3)) (fun hc => ?_) (fun hc => ?_)
  · have H := H1 hc
    refine r_drop h [2, 3, 4, 5] rfl ?_
    exact H
  · have H := H2 hc
    refine r_iload h 6 rfl (by decide +kernel : decode cX11_rests 40 = .ok (.iload 7, 2)) ?_
    refine r_bipush h (v := 100) (by decide) (by decide +kernel : decode cX11_rests 42 = .ok (.bipush 100, 2)) ?_
    obtain ⟨g1, H⟩ := H
    obtain ⟨H1, H2⟩ := H
    refine r_icmp_ge h 89 g1 (by decide) (by decide) (by decide +kernel : decode cX11_rests 44 = .ok (.if_icmp .ge 45, 3)) (fun hc => ?_) (fun hc => ?_)
    · have H := H1 hc
      refine r_drop h [2, 3, 4, 5] rfl ?_
      exact H
    · have H := H2 hc
      refine r_iloadn h (q := 1) 0 rfl (by decide +kernel : decode cX11_rests 47 = .ok (.iload_n 1, 1)) ?_
      refine r_iloadn h (q := 2) 1 rfl (by decide +kernel : decode cX11_rests 48 = .ok (.iload_n 2, 1)) ?_
      refine r_iload h 6 rfl (by decide +kernel : decode cX11_rests 49 = .ok (.iload 7, 2)) ?_
      refine r_bipush h (v := 10) (by decide) (by decide +kernel : decode cX11_rests 51 = .ok (.bipush 10, 2)) ?_
      refine r_idiv h (by decide) (by decide) (by decide +kernel : decode cX11_rests 53 = .ok (.idiv, 1)) ?_
      refine r_iload h 6 rfl (by decide +kernel : decode cX11_rests 54 = .ok (.iload 7, 2)) ?_
      refine r_bipush h (v := 10) (by decide) (by decide +kernel : decode cX11_rests 56 = .ok (.bipush 10, 2)) ?_
      refine r_irem h (by decide) (by decide) (by decide +kernel : decode cX11_rests 58 = .ok (.irem, 1)) ?_
      obtain ⟨P1, hSP1, H⟩ := H
      refine r_callS h (as := [vi x1, vi x2, vi (divI x7 10), vi (remI x7 10)]) (S := []) m_Main_310 hSP1 (by decide) (Nat.le_refl _) rfl rfl (Nat.le_of_ble_eq_true rfl) (by decide +kernel : decode cX11_rests 59 = .ok (.invokestatic 310, 3)) ?_
      rintro _ _ M1 ⟨rfl, r1, rfl, hP⟩
      have H := H r1 M1 hP
      show K NN RRC _ _ [vi r1] _
      obtain ⟨g1, H⟩ := H
      obtain ⟨H1, H2⟩ := H
      refine r_if_eq h 83 g1 (by decide) (by decide +kernel : decode cX11_rests 62 = .ok (.ifCond .eq 21, 3)) (fun hc => ?_) (fun hc => ?_)
      · have H := H1 hc
        refine r_iinc h (i := 7) (v := 1) (L' := [(7, vi (x7 + 1)), (1, vi x1), (2, vi x2), (3, vi x3), (4, vi x4), (5, vi x5), (6, vi x6)]) 6 rfl (by decide) rfl (by decide +kernel : decode cX11_rests 83 = .ok (.iinc 7 1, 3)) ?_
        refine r_goto h 35 (by decide) (by decide +kernel : decode cX11_rests 86 = .ok (.goto (-51), 3)) ?_
        refine r_drop h [1, 2, 3, 4, 5, 6, 0] rfl ?_
        exact H
      · have H := H2 hc
        refine r_iload h 4 rfl (by decide +kernel : decode cX11_rests 65 = .ok (.iload 5, 2)) ?_
        refine r_iloadn h (q := 3) 2 rfl (by decide +kernel : decode cX11_rests 67 = .ok (.iload_n 3, 1)) ?_
        obtain ⟨g1, g2, H⟩ := H
        obtain ⟨H1, H2⟩ := H
        refine r_icmp_ne h 76 g1 g2 (by decide) (by decide +kernel : decode cX11_rests 68 = .ok (.if_icmp .ne 8, 3)) (fun hc => ?_) (fun hc => ?_)
        · have H := H1 hc
          refine r_iload h 5 rfl (by decide +kernel : decode cX11_rests 76 = .ok (.iload 6, 2)) ?_
          refine r_istore h (L' := [(6, vi x6), (1, vi x1), (2, vi x2), (3, vi x3), (4, vi x4), (5, vi x5), (7, vi x7)]) (by decide) rfl (by decide +kernel : decode cX11_rests 78 = .ok (.istore 6, 2)) ?_
          refine r_iinc h (i := 5) (v := 1) (L' := [(5, vi (x5 + 1)), (6, vi x6), (1, vi x1), (2, vi x2), (3, vi x3), (4, vi x4), (7, vi x7)]) 5 rfl (by decide) rfl (by decide +kernel : decode cX11_rests 80 = .ok (.iinc 5 1, 3)) ?_
          refine r_iinc h (i := 7) (v := 1) (L' := [(7, vi (x7 + 1)), (5, vi (x5 + 1)), (6, vi x6), (1, vi x1), (2, vi x2), (3, vi x3), (4, vi x4)]) 6 rfl (by decide) rfl (by decide +kernel : decode cX11_rests 83 = .ok (.iinc 7 1, 3)) ?_
          refine r_goto h 35 (by decide) (by decide +kernel : decode cX11_rests 86 = .ok (.goto (-51), 3)) ?_
          refine r_drop h [3, 4, 5, 6, 1, 2, 0] rfl ?_
          exact H
        · have H := H2 hc
          refine r_iload h 6 rfl (by decide +kernel : decode cX11_rests 71 = .ok (.iload 7, 2)) ?_
          refine r_goto h 78 (by decide) (by decide +kernel : decode cX11_rests 73 = .ok (.goto 5, 3)) ?_
          refine r_istore h (L' := [(6, vi x7), (1, vi x1), (2, vi x2), (3, vi x3), (4, vi x4), (5, vi x5), (7, vi x7)]) (by decide) rfl (by decide +kernel : decode cX11_rests 78 = .ok (.istore 6, 2)) ?_
          refine r_iinc h (i := 5) (v := 1) (L' := [(5, vi (x5 + 1)), (6, vi x7), (1, vi x1), (2, vi x2), (3, vi x3), (4, vi x4), (7, vi x7)]) 5 rfl (by decide) rfl (by decide +kernel : decode cX11_rests 80 = .ok (.iinc 5 1, 3)) ?_
          refine r_iinc h (i := 7) (v := 1) (L' := [(7, vi (x7 + 1)), (5, vi (x5 + 1)), (6, vi x7), (1, vi x1), (2, vi x2), (3, vi x3), (4, vi x4)]) 6 rfl (by decide) rfl (by decide +kernel : decode cX11_rests 83 = .ok (.iinc 7 1, 3)) ?_
          refine r_goto h 35 (by decide) (by decide +kernel : decode cX11_rests 86 = .ok (.goto (-51), 3)) ?_
          refine r_drop h [3, 4, 5, 6, 1, 2, 0] rfl ?_
          exact H
set_option maxHeartbeats 4000000 in
set_option maxRecDepth 100000 in
theorem w_Main_rests_89 {P : Int → Mm → Prop} {X : Mm → Prop} {K : Nat → Rr → Nat → List (Nat × AV) → List AV → Mm → Prop} (hX : EKX shC yX11_rests cX11_rests 8 (some .int) 8 NN RRC (QI RRC P) X K) (x3 : Int) (x4 : Int) (x5 : Int) (x6 : Int) (M : Mm)
    (H : (rng x4) ∧ (x4 = 0 → (X M)) ∧ (x4 ≠ 0 → ((rng x3) ∧ (rng x5) ∧ (x3 < x5 → ((rng x3) ∧ (x3 ≠ (-1) → (P x6 M)) ∧ (x3 = (-1) → (P x5 M)))) ∧ (¬ (x3 < x5) → (X M))))) :
    K NN RRC 89 [(3, vi x3), (4, vi x4), (5, vi x5), (6, vi x6)] [] M := by
  have h := hX.ek
  refine r_iload h 1 rfl (by decide +kernel : decode cX11_rests 89 = .ok (.iload 4, 2)) ?_
  obtain ⟨g1, H⟩ := H
  obtain ⟨H1, H2⟩ := H
  refine r_if_eq h 100 g1 (by decide) (by decide +kernel : decode cX11_rests 91 = .ok (.ifCond .eq 9, 3)) (fun hc => ?_) (fun hc => ?_)
  · have H := H1 hc
    exact r_throw hX rfl (inT5 168 rfl rfl) (inT1 26 rfl rfl) (is := 314) (k := 32) (tx := "no such rest") (by decide +kernel) (by decide) (by decide) (by decide +kernel : decode cX11_rests 100 = .ok (.new 288, 3)) (by decide +kernel : decode cX11_rests 103 = .ok (.dup, 1)) (by decide +kernel : decode cX11_rests 104 = .ok (.ldc_w 314, 3)) (by decide +kernel : decode cX11_rests 107 = .ok (.invokespecial 292, 3)) (by decide +kernel : decode cX11_rests 110 = .ok (.athrow, 1)) H
  · have H := H2 hc
    refine r_iloadn h (q := 3) 0 rfl (by decide +kernel : decode cX11_rests 94 = .ok (.iload_n 3, 1)) ?_
    refine r_iload h 2 rfl (by decide +kernel : decode cX11_rests 95 = .ok (.iload 5, 2)) ?_
    obtain ⟨g1, g2, H⟩ := H
    obtain ⟨H1, H2⟩ := H
    refine r_icmp_lt h 111 g1 g2 (by decide) (by decide +kernel : decode cX11_rests 97 = .ok (.if_icmp .lt 14, 3)) (fun hc => ?_) (fun hc => ?_)
    · have H := H1 hc
      refine r_iloadn h (q := 3) 0 rfl (by decide +kernel : decode cX11_rests 111 = .ok (.iload_n 3, 1)) ?_
      refine r_iconst h (v := (-1)) (by decide +kernel : decode cX11_rests 112 = .ok (.iconst (-1), 1)) ?_
      obtain ⟨g1, H⟩ := H
      obtain ⟨H1, H2⟩ := H
      refine r_icmp_ne h 121 g1 (by decide) (by decide) (by decide +kernel : decode cX11_rests 113 = .ok (.if_icmp .ne 8, 3)) (fun hc => ?_) (fun hc => ?_)
      · have H := H1 hc
        refine r_iload h 3 rfl (by decide +kernel : decode cX11_rests 121 = .ok (.iload 6, 2)) ?_
        exact r_iret h rfl (by decide +kernel : decode cX11_rests 123 = .ok (.ireturn, 1)) rfl ⟨rfl, _, rfl, H⟩
      · have H := H2 hc
        refine r_iload h 2 rfl (by decide +kernel : decode cX11_rests 116 = .ok (.iload 5, 2)) ?_
        refine r_goto h 123 (by decide) (by decide +kernel : decode cX11_rests 118 = .ok (.goto 5, 3)) ?_
        exact r_iret h rfl (by decide +kernel : decode cX11_rests 123 = .ok (.ireturn, 1)) rfl ⟨rfl, _, rfl, H⟩
    · have H := H2 hc
      exact r_throw hX rfl (inT5 168 rfl rfl) (inT1 26 rfl rfl) (is := 314) (k := 32) (tx := "no such rest") (by decide +kernel) (by decide) (by decide) (by decide +kernel : decode cX11_rests 100 = .ok (.new 288, 3)) (by decide +kernel : decode cX11_rests 103 = .ok (.dup, 1)) (by decide +kernel : decode cX11_rests 104 = .ok (.ldc_w 314, 3)) (by decide +kernel : decode cX11_rests 107 = .ok (.invokespecial 292, 3)) (by decide +kernel : decode cX11_rests 110 = .ok (.athrow, 1)) H
