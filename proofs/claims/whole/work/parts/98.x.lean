theorem at_L4 : ∀ i, i < 4 → shC (72 + 12 * i + 1) = .inl 4 := by decide
set_option maxHeartbeats 2000000 in
theorem iM_148 {K : Nat → Rr → Nat → List (Nat × AV) → List AV → Mm → Prop} {Q9 : Option AV → Rr → Mm → Prop} {R0 : Rr} {M0 : Mm} (hO : EKO shC yX11_init cX11_init 2 none 12 1 200 Q9 K)
    (kk : ∀ R M, MDp shC RRC MTM 1 120 R0 M0 FMM GMM R M → (∀ j, j < 4 → R 58 j = 73 + 12 * j) → R 60 = zr → K 120 R 172 [(0, vr 1)] [] M) :
    ∀ i, i ≤ 4 → ∀ R M, MDp shC RRC MTM 1 (72 + 12 * i) R0 M0 FMM GMM R M → (∀ j, j < i → R 58 j = 73 + 12 * j) → R 60 = zr → K (72 + 12 * i) R 148 [(0, vr 1), (1, vi (i : Int))] [] M := by
  have h := hO.ek
  refine up_ind ?_ ?_
  · intro R M hD h1 h2
    show K 120 R 148 [(0, vr 1), (1, vi ((4 : Nat) : Int))] [] M
    refine r_iloadn h (q := 1) 1 rfl (by decide +kernel : decode cX11_init 148 = .ok (.iload_n 1, 1)) ?_
    refine r_iconst h (v := 4) (by decide +kernel : decode cX11_init 149 = .ok (.iconst 4, 1)) ?_
    refine r_icmp_ge h 172 (by decide) (by decide) (by decide) (by decide +kernel : decode cX11_init 150 = .ok (.if_icmp .ge 22, 3)) (fun hc => ?_) (fun hc => ?_)
    · refine r_drop h [0] rfl ?_
      exact kk R M hD h1 h2
    · exact absurd (by decide) hc
  · intro i hi ih R M hD h1 h2
    have hs := at_L4 i hi
    obtain ⟨-, ⟨hF, -⟩, -⟩ := id hD
    refine r_iloadn h (q := 1) 1 rfl (by decide +kernel : decode cX11_init 148 = .ok (.iload_n 1, 1)) ?_
    refine r_iconst h (v := 4) (by decide +kernel : decode cX11_init 149 = .ok (.iconst 4, 1)) ?_
    refine r_icmp_ge h 172 (by omega) (by decide) (by decide) (by decide +kernel : decode cX11_init 150 = .ok (.if_icmp .ge 22, 3)) (fun hc => ?_) (fun hc => ?_)
    · exfalso; omega
    refine r_aloadn h (q := 0) 0 rfl (by decide +kernel : decode cX11_init 153 = .ok (.aload_n 0, 1)) ?_
    refine r_getR h (r := 58) f_Main_50 ⟨rfl, by omega, by omega⟩ (by rw [hF]; rfl) (by omega) (by decide +kernel : decode cX11_init 154 = .ok (.getfield 50, 3)) ?_
    refine r_iloadn h (q := 1) 1 rfl (by decide +kernel : decode cX11_init 157 = .ok (.iload_n 1, 1)) ?_
    refine r_new h hD.2.2.2.1 kN_Main_40 hs (by omega) ⟨by omega, trivial⟩ ⟨by omega, trivial⟩ (by decide +kernel : decode cX11_init 158 = .ok (.new 40, 3)) (fun hB2 => ?_)
    refine r_dup h rfl (by decide +kernel : decode cX11_init 161 = .ok (.dup, 1)) ?_
    have q := i_Standing (b := 72 + 12 * i + 1) (R := upr R (72 + 12 * i + 1) zr) (M := upr M (72 + 12 * i + 1) z0) ⟨hs, by omega, by show _ ≤ 200; omega⟩ upr_at upr_at hB2
    rw [show 72 + 12 * i + 1 + 11 = 72 + 12 * (i + 1) by omega] at q
    refine q_initN hO hD (72 + 12 * (i + 1)) (as := []) q kI_Main_42 (by decide) (by omega) (by omega) rfl (fun c c1 c2 => MTM_s (by omega) (by omega) (by omega)) rfl ⟨by omega, trivial⟩ ⟨by omega, by omega, trivial⟩ (Nat.le_of_ble_eq_true rfl) (by decide +kernel : decode cX11_init 162 = .ok (.invokespecial 42, 3)) (fun R' M' hD' hk => ?_)
    refine r_aast4 h (b := 58) (len := 4) ⟨rfl, by omega, by omega⟩ (by omega) (by decide) i (Int.toNat_natCast i) ⟨hs, by omega, by omega⟩ rfl (by decide +kernel : decode cX11_init 165 = .ok (.aastore, 1)) ?_
    refine r_iinc h (i := 1) (v := 1) (L' := [(1, vi ((i : Int) + 1)), (0, vr 1)]) 1 rfl (by decide) rfl (by decide +kernel : decode cX11_init 166 = .ok (.iinc 1 1, 3)) ?_
    refine r_goto h 148 (by decide) (by decide +kernel : decode cX11_init 169 = .ok (.goto (-21), 3)) ?_
    refine r_drop h [1, 0] rfl ?_
    have e9 : ((i + 1 : Nat) : Int) = (i : Int) + 1 := by omega
    have := ih (upr R' 58 (up1 (R' 58) i (72 + 12 * i + 1))) M' (hD'.putA (by omega) (fun ci9 e => by cases e) (by omega)) (fun j hj => ?_) ?_
    · rw [e9] at this; exact this
    · rw [upr_at]
      by_cases ej : j = i
      · rw [ej, up1_at]; omega
      · rw [up1_ne ej, (hk 58 (by omega)).1]; exact h1 j (by omega)
    · rw [← upr_ne (show 60 ≠ 58 by omega), (hk 60 (by omega)).1]; exact h2
theorem at_L5 : ∀ i, i < 16 → shC (120 + 5 * i + 1) = .inl 5 := by decide
set_option maxHeartbeats 2000000 in
theorem iM_174 {K : Nat → Rr → Nat → List (Nat × AV) → List AV → Mm → Prop} {Q9 : Option AV → Rr → Mm → Prop} {R0 : Rr} {M0 : Mm} (hO : EKO shC yX11_init cX11_init 2 none 12 1 200 Q9 K)
    (kk : ∀ R M, MDp shC RRC MTM 1 200 R0 M0 FMM GMM R M → (∀ j, j < 16 → R 60 j = 121 + 5 * j) → (∀ j, j < 4 → R 58 j = 73 + 12 * j) → K 200 R 199 [(0, vr 1)] [] M) :
    ∀ i, i ≤ 16 → ∀ R M, MDp shC RRC MTM 1 (120 + 5 * i) R0 M0 FMM GMM R M → (∀ j, j < i → R 60 j = 121 + 5 * j) → (∀ j, j < 4 → R 58 j = 73 + 12 * j) → K (120 + 5 * i) R 174 [(0, vr 1), (1, vi (i : Int))] [] M := by
  have h := hO.ek
  refine up_ind ?_ ?_
  · intro R M hD h1 h2
    show K 200 R 174 [(0, vr 1), (1, vi ((16 : Nat) : Int))] [] M
    refine r_iloadn h (q := 1) 1 rfl (by decide +kernel : decode cX11_init 174 = .ok (.iload_n 1, 1)) ?_
    refine r_bipush h (v := 16) (by decide) (by decide +kernel : decode cX11_init 175 = .ok (.bipush 16, 2)) ?_
    refine r_icmp_ge h 199 (by decide) (by decide) (by decide) (by decide +kernel : decode cX11_init 177 = .ok (.if_icmp .ge 22, 3)) (fun hc => ?_) (fun hc => ?_)
    · refine r_drop h [0] rfl ?_
      exact kk R M hD h1 h2
    · exact absurd (by decide) hc
  · intro i hi ih R M hD h1 h2
    have hs := at_L5 i hi
    obtain ⟨-, ⟨hF, -⟩, -⟩ := id hD
    refine r_iloadn h (q := 1) 1 rfl (by decide +kernel : decode cX11_init 174 = .ok (.iload_n 1, 1)) ?_
    refine r_bipush h (v := 16) (by decide) (by decide +kernel : decode cX11_init 175 = .ok (.bipush 16, 2)) ?_
    refine r_icmp_ge h 199 (by omega) (by decide) (by decide) (by decide +kernel : decode cX11_init 177 = .ok (.if_icmp .ge 22, 3)) (fun hc => ?_) (fun hc => ?_)
    · exfalso; omega
    refine r_aloadn h (q := 0) 0 rfl (by decide +kernel : decode cX11_init 180 = .ok (.aload_n 0, 1)) ?_
    refine r_getR h (r := 60) f_Main_58 ⟨rfl, by omega, by omega⟩ (by rw [hF]; rfl) (by omega) (by decide +kernel : decode cX11_init 181 = .ok (.getfield 58, 3)) ?_
    refine r_iloadn h (q := 1) 1 rfl (by decide +kernel : decode cX11_init 184 = .ok (.iload_n 1, 1)) ?_
    refine r_new h hD.2.2.2.1 kN_Main_33 hs (by omega) ⟨by omega, trivial⟩ ⟨by omega, trivial⟩ (by decide +kernel : decode cX11_init 185 = .ok (.new 33, 3)) (fun hB2 => ?_)
    refine r_dup h rfl (by decide +kernel : decode cX11_init 188 = .ok (.dup, 1)) ?_
    have q := i_State (b := 120 + 5 * i + 1) (R := upr R (120 + 5 * i + 1) zr) (M := upr M (120 + 5 * i + 1) z0) ⟨hs, by omega, by show _ ≤ 200; omega⟩ upr_at upr_at hB2
    rw [show 120 + 5 * i + 1 + 4 = 120 + 5 * (i + 1) by omega] at q
    refine q_initN hO hD (120 + 5 * (i + 1)) (as := []) q kI_Main_35 (by decide) (by omega) (by omega) rfl (fun c c1 c2 => (MTM_z (by omega) (by omega) (by omega)).symm) rfl ⟨by omega, trivial⟩ ⟨by omega, by omega, trivial⟩ (Nat.le_of_ble_eq_true rfl) (by decide +kernel : decode cX11_init 189 = .ok (.invokespecial 35, 3)) (fun R' M' hD' hk => ?_)
    refine r_aast5 h (b := 60) (len := 16) ⟨rfl, by omega, by omega⟩ (by omega) (by decide) i (Int.toNat_natCast i) ⟨hs, by omega, by omega⟩ rfl (by decide +kernel : decode cX11_init 192 = .ok (.aastore, 1)) ?_
    refine r_iinc h (i := 1) (v := 1) (L' := [(1, vi ((i : Int) + 1)), (0, vr 1)]) 1 rfl (by decide) rfl (by decide +kernel : decode cX11_init 193 = .ok (.iinc 1 1, 3)) ?_
    refine r_goto h 174 (by decide) (by decide +kernel : decode cX11_init 196 = .ok (.goto (-22), 3)) ?_
    refine r_drop h [1, 0] rfl ?_
    have e9 : ((i + 1 : Nat) : Int) = (i : Int) + 1 := by omega
    have := ih (upr R' 60 (up1 (R' 60) i (120 + 5 * i + 1))) M' (hD'.putA (by omega) (fun ci9 e => by cases e) (by omega)) (fun j hj => ?_) ?_
    · rw [e9] at this; exact this
    · rw [upr_at]
      by_cases ej : j = i
      · rw [ej, up1_at]; omega
      · rw [up1_ne ej, (hk 60 (by omega)).1]; exact h1 j (by omega)
    · intro j hj
      rw [← upr_ne (show 58 ≠ 60 by omega), (hk 58 (by omega)).1]; exact h2 j hj
