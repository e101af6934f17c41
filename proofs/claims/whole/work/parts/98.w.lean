theorem kO_Main : Cond.methodLink "MangleTown" 1 Lib.objectInit ∈ TB ∧ Cond.instanceMethod Lib.objectInit ∈ TB ∧ Cond.code Lib.objectInit ⟨#[0xb1]⟩ 1 none ∈ TB := ⟨(inT1 32 rfl rfl), (inT1 33 rfl rfl), (inT1 34 rfl rfl)⟩
theorem kN_Main_7 : NW "MangleTown" 7 6 := ⟨cin_6, (inT1 35 rfl rfl), (inT1 36 rfl rfl), (inT1 2 rfl rfl), by decide⟩
theorem kI_Main_9 : MLN "MangleTown" 9 yX7_init cX7_init 1 0 := ⟨by decide +kernel, (inT1 2 rfl rfl), (inT1 39 rfl rfl), by decide +kernel, by decide, rfl, (inT1 38 rfl rfl)⟩
theorem kN_Main_16 : NW "MangleTown" 16 7 := ⟨cin_7, (inT1 94 rfl rfl), (inT1 95 rfl rfl), (inT1 5 rfl rfl), by decide⟩
theorem kI_Main_18 : MLI "MangleTown" 18 yX8_init cX8_init 1 0 := ⟨⟨(inT1 96 rfl rfl), (inT1 5 rfl rfl), (inT1 98 rfl rfl), by decide +kernel, by decide⟩, rfl, (inT1 97 rfl rfl)⟩
theorem kN_Main_26 : NW "MangleTown" 26 8 := ⟨cin_8, (inT1 185 rfl rfl), (inT1 186 rfl rfl), (inT1 7 rfl rfl), by decide⟩
theorem kI_Main_28 : MLN "MangleTown" 28 yX10_init cX10_init 1 0 := ⟨by decide +kernel, (inT1 7 rfl rfl), (inT1 189 rfl rfl), by decide +kernel, by decide, rfl, (inT1 188 rfl rfl)⟩
theorem kN_Main_33 : NW "MangleTown" 33 5 := ⟨cin_5, (inT1 210 rfl rfl), (inT1 211 rfl rfl), (inT1 8 rfl rfl), by decide⟩
theorem kI_Main_35 : MLN "MangleTown" 35 yX6_init cX6_init 1 0 := ⟨by decide +kernel, (inT1 8 rfl rfl), (inT1 214 rfl rfl), by decide +kernel, by decide, rfl, (inT1 213 rfl rfl)⟩
theorem kN_Main_40 : NW "MangleTown" 40 4 := ⟨cin_4, (inT2 20 rfl rfl), (inT2 21 rfl rfl), (inT1 9 rfl rfl), by decide⟩
theorem kI_Main_42 : MLN "MangleTown" 42 yX5_init cX5_init 1 0 := ⟨by decide +kernel, (inT1 9 rfl rfl), (inT2 24 rfl rfl), by decide +kernel, by decide, rfl, (inT2 23 rfl rfl)⟩
theorem kN_Main_62 : NW "MangleTown" 62 1 := ⟨cin_1, (inT2 58 rfl rfl), (inT2 59 rfl rfl), (inT1 10 rfl rfl), by decide⟩
theorem kI_Main_64 : MLN "MangleTown" 64 yX2_init cX2_init 1 0 := ⟨by decide +kernel, (inT1 10 rfl rfl), (inT2 62 rfl rfl), by decide +kernel, by decide, rfl, (inT2 61 rfl rfl)⟩
theorem kN_Main_69 : NW "MangleTown" 69 2 := ⟨cin_2, (inT2 92 rfl rfl), (inT2 93 rfl rfl), (inT1 11 rfl rfl), by decide⟩
theorem kI_Main_71 : MLN "MangleTown" 71 yX3_init cX3_init 1 0 := ⟨by decide +kernel, (inT1 11 rfl rfl), (inT2 96 rfl rfl), by decide +kernel, by decide, rfl, (inT2 95 rfl rfl)⟩
theorem kN_Main_76 : NW "MangleTown" 76 3 := ⟨cin_3, (inT2 122 rfl rfl), (inT2 123 rfl rfl), (inT1 12 rfl rfl), by decide⟩
theorem kI_Main_78 : MLN "MangleTown" 78 yX4_init cX4_init 1 0 := ⟨by decide +kernel, (inT1 12 rfl rfl), (inT2 126 rfl rfl), by decide +kernel, by decide, rfl, (inT2 125 rfl rfl)⟩
def MTM : Mm := fun c => if c = 2 then up1 z0 6 (((0 : Nat) : Int) + 1) else if 4 ≤ c ∧ c ≤ 17 then MTT 4 c else if 18 ≤ c ∧ c ≤ 31 then MTT 18 c else if c = 41 ∨ c = 73 ∨ c = 85 ∨ c = 97 ∨ c = 109 then up1 z0 5 (-1) else z0
theorem MTM_z {c : Nat} (h : c ≠ 2) (h1 : ¬ (4 ≤ c ∧ c ≤ 31)) (h2 : ¬ (c = 41 ∨ c = 73 ∨ c = 85 ∨ c = 97 ∨ c = 109)) : MTM c = z0 := by
  unfold MTM
  rw [if_neg h, if_neg (by omega), if_neg (by omega), if_neg h2]
theorem MTM_s {c b : Nat} (hb : b = 41 ∨ b = 73 ∨ b = 85 ∨ b = 97 ∨ b = 109) (h1 : b ≤ c) (h2 : c ≤ b + 11) : (if c = b then up1 z0 5 (-1) else z0) = MTM c := by
  by_cases e : c = b
  · subst e
    unfold MTM
    rw [if_pos rfl, if_neg (by omega), if_neg (by omega), if_neg (by omega), if_pos hb]
  · rw [if_neg e, MTM_z (by omega) (by omega) (by omega)]
theorem MTM_t {c b : Nat} (hb : b = 4 ∨ b = 18) (h1 : b ≤ c) (h2 : c ≤ b + 13) : MTT b c = MTM c := by
  unfold MTM
  rcases hb with rfl | rfl
  · rw [if_neg (by omega), if_pos (by omega)]
  · rw [if_neg (by omega), if_neg (by omega), if_pos (by omega)]
def FMM : Nat → Nat := (up1 (up1 (up1 (up1 (up1 (up1 (up1 (up1 (up1 (up1 (up1 (up1 zr 0 2) 3 32) 4 36) 5 41) 6 53) 7 58) 8 59) 9 60) 12 61) 13 62) 14 69) 15 72)
def GMM : Nat → Int := (up1 (up1 z0 1 ((4 : Nat) : Int)) 2 ((18 : Nat) : Int))
set_option maxHeartbeats 4000000 in
theorem iM_0 {K : Nat → Rr → Nat → List (Nat × AV) → List AV → Mm → Prop} {Q9 : Option AV → Rr → Mm → Prop} {R : Rr} {M : Mm} (hO : EKO shC yX11_init cX11_init 2 none 12 1 200 Q9 K) (hR : R 1 = zr) (hM : M 1 = z0) (hB : RB shC 1 R M) (kk : ∀ R' M', MDp shC RRC MTM 1 72 R M FMM GMM R' M' → R' 58 = zr → R' 60 = zr →  K 72 R' 146 [(0, vr 1)] [] M') : K 1 R 0 [(0, vr 1)] [] M := by
  have h := hO.ek
  have hD : MDp shC RRC MTM 1 1 R M zr z0 R M := MDp.start (by omega) hR hM hB
  refine r_aloadn h (q := 0) 0 rfl (by decide +kernel : decode cX11_init 0 = .ok (.aload_n 0, 1)) ?_
  refine r_objInit h kO_Main (by decide) (by decide) (by decide +kernel : decode cX11_init 1 = .ok (.invokespecial 1, 3)) ?_
  refine r_aloadn h (q := 0) 0 rfl (by decide +kernel : decode cX11_init 4 = .ok (.aload_n 0, 1)) ?_
  refine r_new h hD.2.2.2.1 kN_Main_7 (show shC (1 + 1) = _ from rfl) (by omega) ⟨by omega, trivial⟩ ⟨by omega, trivial⟩ (by decide +kernel : decode cX11_init 5 = .ok (.new 7, 3)) (fun hB2 => ?_)
  refine r_dup h rfl (by decide +kernel : decode cX11_init 8 = .ok (.dup, 1)) ?_
  refine q_initN hO hD 3 (as := []) (i_Tape (⟨rfl, by omega, by decide⟩ : At shC NN (1 + 1) (.inl 6)) upr_at upr_at hB2) kI_Main_9 (by decide) (by omega) (by omega) rfl (fun c h1 h2 => by
    by_cases e : c = 2
    · subst e; rfl
    · show (if c = 2 then _ else z0) = _; rw [if_neg e, MTM_z e (by omega) (by omega)]) rfl ⟨by omega, trivial⟩ ⟨by omega, by omega, trivial⟩ (Nat.le_of_ble_eq_true rfl) (by decide +kernel : decode cX11_init 9 = .ok (.invokespecial 9, 3)) (fun R M hD hk => ?_)
  refine q_putR h hD (r := 2) (st := .object "MangleTown$Tape") (Or.inl ⟨_, rfl⟩) (by omega) (by omega) f_Main_10 ⟨rfl, by omega, by omega⟩ rfl rfl rfl rfl (by decide +kernel : decode cX11_init 12 = .ok (.putfield 10, 3)) (fun R hD hk => ?_)
  refine r_aloadn h (q := 0) 0 rfl (by decide +kernel : decode cX11_init 15 = .ok (.aload_n 0, 1)) ?_
  refine r_new h hD.2.2.2.1 kN_Main_16 (show shC (3 + 1) = _ from rfl) (by omega) ⟨by omega, trivial⟩ ⟨by omega, trivial⟩ (by decide +kernel : decode cX11_init 16 = .ok (.new 16, 3)) (fun hB2 => ?_)
  refine r_dup h rfl (by decide +kernel : decode cX11_init 19 = .ok (.dup, 1)) ?_
  refine q_init h hD 17 (as := []) (i_Town (⟨rfl, by omega, by decide⟩ : At shC NN (3 + 1) (.inl 7)) upr_at upr_at hB2) kI_Main_18 (by decide) (by omega) (by omega) rfl (fun c h1 h2 => MTM_t (by omega) (by omega) (by omega)) rfl ⟨by omega, trivial⟩ ⟨by omega, by omega, trivial⟩ (Nat.le_of_ble_eq_true rfl) (by decide +kernel : decode cX11_init 20 = .ok (.invokespecial 18, 3)) (fun R M hD hk => ?_)
  refine r_putM h (r := 4) (by omega) f_Main_19 ⟨rfl, by omega, by omega⟩ rfl rfl (by decide +kernel : decode cX11_init 23 = .ok (.putfield 19, 3)) ?_
  have hD := hD.putI (k := 1) (v := ((4 : Nat) : Int)) (Or.inl (by decide))
  revert hD
  generalize upr M 1 (up1 (M 1) 1 ((4 : Nat) : Int)) = M
  intro hD
  refine r_aloadn h (q := 0) 0 rfl (by decide +kernel : decode cX11_init 26 = .ok (.aload_n 0, 1)) ?_
  refine r_new h hD.2.2.2.1 kN_Main_16 (show shC (17 + 1) = _ from rfl) (by omega) ⟨by omega, trivial⟩ ⟨by omega, trivial⟩ (by decide +kernel : decode cX11_init 27 = .ok (.new 16, 3)) (fun hB2 => ?_)
  refine r_dup h rfl (by decide +kernel : decode cX11_init 30 = .ok (.dup, 1)) ?_
  refine q_init h hD 31 (as := []) (i_Town (⟨rfl, by omega, by decide⟩ : At shC NN (17 + 1) (.inl 7)) upr_at upr_at hB2) kI_Main_18 (by decide) (by omega) (by omega) rfl (fun c h1 h2 => MTM_t (by omega) (by omega) (by omega)) rfl ⟨by omega, trivial⟩ ⟨by omega, by omega, trivial⟩ (Nat.le_of_ble_eq_true rfl) (by decide +kernel : decode cX11_init 31 = .ok (.invokespecial 18, 3)) (fun R M hD hk => ?_)
  refine r_putM h (r := 18) (by omega) f_Main_23 ⟨rfl, by omega, by omega⟩ rfl rfl (by decide +kernel : decode cX11_init 34 = .ok (.putfield 23, 3)) ?_
  have hD := hD.putI (k := 2) (v := ((18 : Nat) : Int)) (Or.inl (by decide))
  revert hD
  generalize upr M 1 (up1 (M 1) 2 ((18 : Nat) : Int)) = M
  intro hD
  refine r_aloadn h (q := 0) 0 rfl (by decide +kernel : decode cX11_init 37 = .ok (.aload_n 0, 1)) ?_
  refine r_new h hD.2.2.2.1 kN_Main_26 (show shC (31 + 1) = _ from rfl) (by omega) ⟨by omega, trivial⟩ ⟨by omega, trivial⟩ (by decide +kernel : decode cX11_init 38 = .ok (.new 26, 3)) (fun hB2 => ?_)
  refine r_dup h rfl (by decide +kernel : decode cX11_init 41 = .ok (.dup, 1)) ?_
  refine q_initN hO hD 35 (as := []) (i_Years (⟨rfl, by omega, by decide⟩ : At shC NN (31 + 1) (.inl 8)) upr_at upr_at hB2) kI_Main_28 (by decide) (by omega) (by omega) rfl (fun c h1 h2 => (MTM_z (by omega) (by omega) (by omega)).symm) rfl ⟨by omega, trivial⟩ ⟨by omega, by omega, trivial⟩ (Nat.le_of_ble_eq_true rfl) (by decide +kernel : decode cX11_init 42 = .ok (.invokespecial 28, 3)) (fun R M hD hk => ?_)
  refine q_putR h hD (r := 32) (st := .object "MangleTown$Years") (Or.inl ⟨_, rfl⟩) (by omega) (by omega) f_Main_29 ⟨rfl, by omega, by omega⟩ rfl rfl rfl rfl (by decide +kernel : decode cX11_init 45 = .ok (.putfield 29, 3)) (fun R hD hk => ?_)
  refine r_aloadn h (q := 0) 0 rfl (by decide +kernel : decode cX11_init 48 = .ok (.aload_n 0, 1)) ?_
  refine r_new h hD.2.2.2.1 kN_Main_33 (show shC (35 + 1) = _ from rfl) (by omega) ⟨by omega, trivial⟩ ⟨by omega, trivial⟩ (by decide +kernel : decode cX11_init 49 = .ok (.new 33, 3)) (fun hB2 => ?_)
  refine r_dup h rfl (by decide +kernel : decode cX11_init 52 = .ok (.dup, 1)) ?_
  refine q_initN hO hD 40 (as := []) (i_State (⟨rfl, by omega, by decide⟩ : At shC NN (35 + 1) (.inl 5)) upr_at upr_at hB2) kI_Main_35 (by decide) (by omega) (by omega) rfl (fun c h1 h2 => (MTM_z (by omega) (by omega) (by omega)).symm) rfl ⟨by omega, trivial⟩ ⟨by omega, by omega, trivial⟩ (Nat.le_of_ble_eq_true rfl) (by decide +kernel : decode cX11_init 53 = .ok (.invokespecial 35, 3)) (fun R M hD hk => ?_)
  refine q_putR h hD (r := 36) (st := .object "MangleTown$State") (Or.inl ⟨_, rfl⟩) (by omega) (by omega) f_Main_36 ⟨rfl, by omega, by omega⟩ rfl rfl rfl rfl (by decide +kernel : decode cX11_init 56 = .ok (.putfield 36, 3)) (fun R hD hk => ?_)
  refine r_aloadn h (q := 0) 0 rfl (by decide +kernel : decode cX11_init 59 = .ok (.aload_n 0, 1)) ?_
  refine r_new h hD.2.2.2.1 kN_Main_40 (show shC (40 + 1) = _ from rfl) (by omega) ⟨by omega, trivial⟩ ⟨by omega, trivial⟩ (by decide +kernel : decode cX11_init 60 = .ok (.new 40, 3)) (fun hB2 => ?_)
  refine r_dup h rfl (by decide +kernel : decode cX11_init 63 = .ok (.dup, 1)) ?_
  refine q_initN hO hD 52 (as := []) (i_Standing (⟨rfl, by omega, by decide⟩ : At shC NN (40 + 1) (.inl 4)) upr_at upr_at hB2) kI_Main_42 (by decide) (by omega) (by omega) rfl (fun c h1 h2 => MTM_s (by omega) (by omega) (by omega)) rfl ⟨by omega, trivial⟩ ⟨by omega, by omega, trivial⟩ (Nat.le_of_ble_eq_true rfl) (by decide +kernel : decode cX11_init 64 = .ok (.invokespecial 42, 3)) (fun R M hD hk => ?_)
  refine q_putR h hD (r := 41) (st := .object "MangleTown$Standing") (Or.inl ⟨_, rfl⟩) (by omega) (by omega) f_Main_43 ⟨rfl, by omega, by omega⟩ rfl rfl rfl rfl (by decide +kernel : decode cX11_init 67 = .ok (.putfield 43, 3)) (fun R hD hk => ?_)
  refine r_aloadn h (q := 0) 0 rfl (by decide +kernel : decode cX11_init 70 = .ok (.aload_n 0, 1)) ?_
  refine r_new h hD.2.2.2.1 kN_Main_33 (show shC (52 + 1) = _ from rfl) (by omega) ⟨by omega, trivial⟩ ⟨by omega, trivial⟩ (by decide +kernel : decode cX11_init 71 = .ok (.new 33, 3)) (fun hB2 => ?_)
  refine r_dup h rfl (by decide +kernel : decode cX11_init 74 = .ok (.dup, 1)) ?_
  refine q_initN hO hD 57 (as := []) (i_State (⟨rfl, by omega, by decide⟩ : At shC NN (52 + 1) (.inl 5)) upr_at upr_at hB2) kI_Main_35 (by decide) (by omega) (by omega) rfl (fun c h1 h2 => (MTM_z (by omega) (by omega) (by omega)).symm) rfl ⟨by omega, trivial⟩ ⟨by omega, by omega, trivial⟩ (Nat.le_of_ble_eq_true rfl) (by decide +kernel : decode cX11_init 75 = .ok (.invokespecial 35, 3)) (fun R M hD hk => ?_)
  refine q_putR h hD (r := 53) (st := .object "MangleTown$State") (Or.inl ⟨_, rfl⟩) (by omega) (by omega) f_Main_47 ⟨rfl, by omega, by omega⟩ rfl rfl rfl rfl (by decide +kernel : decode cX11_init 78 = .ok (.putfield 47, 3)) (fun R hD hk => ?_)
  refine r_aloadn h (q := 0) 0 rfl (by decide +kernel : decode cX11_init 81 = .ok (.aload_n 0, 1)) ?_
  refine r_iconst h (v := 4) (by decide +kernel : decode cX11_init 82 = .ok (.iconst 4, 1)) ?_
  refine q_newq hO hD (t := 4) (N := 4) (C := RX5) 58 rfl (Or.inl ⟨rfl, rfl⟩) (inT2 20 rfl rfl) rfl (MTM_z (by omega) (by omega) (by omega)) (by decide) (by omega) ⟨by omega, trivial⟩ ⟨by omega, trivial⟩ (by decide +kernel : decode cX11_init 83 = .ok (.anewarray 40, 3)) (fun R M hD hk z58 => ?_)
  refine q_putR h hD (r := 58) (st := .array (.object "MangleTown$Standing")) (Or.inr ⟨_, rfl⟩) (by omega) (by omega) f_Main_50 ⟨rfl, by omega, by omega⟩ rfl rfl rfl rfl (by decide +kernel : decode cX11_init 86 = .ok (.putfield 50, 3)) (fun R hD hk => ?_)
  have z58 := (hk 58 (by omega)).trans z58
  refine r_aloadn h (q := 0) 0 rfl (by decide +kernel : decode cX11_init 89 = .ok (.aload_n 0, 1)) ?_
  refine r_iconst h (v := 4) (by decide +kernel : decode cX11_init 90 = .ok (.iconst 4, 1)) ?_
  refine q_newZ h hD (N := 4) 59 rfl ka_boolean rfl (MTM_z (by omega) (by omega) (by omega)) (by decide) (by omega) ⟨by omega, trivial⟩ ⟨by omega, trivial⟩ (by decide +kernel : decode cX11_init 91 = .ok (.newarray .boolean, 2)) (fun R M hD hk => ?_)
  have z58 := (hk 58 (by omega)).1.trans z58
  refine q_putR h hD (r := 59) (st := .array .boolean) (Or.inr ⟨_, rfl⟩) (by omega) (by omega) f_Main_54 ⟨rfl, by omega, by omega⟩ rfl rfl rfl rfl (by decide +kernel : decode cX11_init 93 = .ok (.putfield 54, 3)) (fun R hD hk => ?_)
  have z58 := (hk 58 (by omega)).trans z58
  refine r_aloadn h (q := 0) 0 rfl (by decide +kernel : decode cX11_init 96 = .ok (.aload_n 0, 1)) ?_
  refine r_bipush h (v := 16) (by decide) (by decide +kernel : decode cX11_init 97 = .ok (.bipush 16, 2)) ?_
  refine q_newq hO hD (t := 5) (N := 16) (C := RX6) 60 rfl (Or.inr ⟨rfl, rfl⟩) (inT1 210 rfl rfl) rfl (MTM_z (by omega) (by omega) (by omega)) (by decide) (by omega) ⟨by omega, trivial⟩ ⟨by omega, trivial⟩ (by decide +kernel : decode cX11_init 99 = .ok (.anewarray 33, 3)) (fun R M hD hk z60 => ?_)
  have z58 := (hk 58 (by omega)).1.trans z58
  refine q_putR h hD (r := 60) (st := .array (.object "MangleTown$State")) (Or.inr ⟨_, rfl⟩) (by omega) (by omega) f_Main_58 ⟨rfl, by omega, by omega⟩ rfl rfl rfl rfl (by decide +kernel : decode cX11_init 102 = .ok (.putfield 58, 3)) (fun R hD hk => ?_)
  have z58 := (hk 58 (by omega)).trans z58
  have z60 := (hk 60 (by omega)).trans z60
  refine r_aloadn h (q := 0) 0 rfl (by decide +kernel : decode cX11_init 105 = .ok (.aload_n 0, 1)) ?_
  refine r_new h hD.2.2.2.1 kN_Main_62 (show shC (60 + 1) = _ from rfl) (by omega) ⟨by omega, trivial⟩ ⟨by omega, trivial⟩ (by decide +kernel : decode cX11_init 106 = .ok (.new 62, 3)) (fun hB2 => ?_)
  refine r_dup h rfl (by decide +kernel : decode cX11_init 109 = .ok (.dup, 1)) ?_
  refine q_initN hO hD 61 (as := []) (i_Mangle (⟨rfl, by omega, by decide⟩ : At shC NN (60 + 1) (.inl 1)) upr_at upr_at hB2) kI_Main_64 (by decide) (by omega) (by omega) rfl (fun c h1 h2 => (MTM_z (by omega) (by omega) (by omega)).symm) rfl ⟨by omega, trivial⟩ ⟨by omega, by omega, trivial⟩ (Nat.le_of_ble_eq_true rfl) (by decide +kernel : decode cX11_init 110 = .ok (.invokespecial 64, 3)) (fun R M hD hk => ?_)
  have z58 := (hk 58 (by omega)).1.trans z58
  have z60 := (hk 60 (by omega)).1.trans z60
  refine q_putR h hD (r := 61) (st := .object "MangleTown$Mangle") (Or.inl ⟨_, rfl⟩) (by omega) (by omega) f_Main_65 ⟨rfl, by omega, by omega⟩ rfl rfl rfl rfl (by decide +kernel : decode cX11_init 113 = .ok (.putfield 65, 3)) (fun R hD hk => ?_)
  have z58 := (hk 58 (by omega)).trans z58
  have z60 := (hk 60 (by omega)).trans z60
  refine r_aloadn h (q := 0) 0 rfl (by decide +kernel : decode cX11_init 116 = .ok (.aload_n 0, 1)) ?_
  refine r_new h hD.2.2.2.1 kN_Main_69 (show shC (61 + 1) = _ from rfl) (by omega) ⟨by omega, trivial⟩ ⟨by omega, trivial⟩ (by decide +kernel : decode cX11_init 117 = .ok (.new 69, 3)) (fun hB2 => ?_)
  refine r_dup h rfl (by decide +kernel : decode cX11_init 120 = .ok (.dup, 1)) ?_
  refine q_initN hO hD 68 (as := []) (i_Rows (⟨rfl, by omega, by decide⟩ : At shC NN (61 + 1) (.inl 2)) upr_at upr_at hB2) kI_Main_71 (by decide) (by omega) (by omega) rfl (fun c h1 h2 => (MTM_z (by omega) (by omega) (by omega)).symm) rfl ⟨by omega, trivial⟩ ⟨by omega, by omega, trivial⟩ (Nat.le_of_ble_eq_true rfl) (by decide +kernel : decode cX11_init 121 = .ok (.invokespecial 71, 3)) (fun R M hD hk => ?_)
  have z58 := (hk 58 (by omega)).1.trans z58
  have z60 := (hk 60 (by omega)).1.trans z60
  refine q_putR h hD (r := 62) (st := .object "MangleTown$Rows") (Or.inl ⟨_, rfl⟩) (by omega) (by omega) f_Main_72 ⟨rfl, by omega, by omega⟩ rfl rfl rfl rfl (by decide +kernel : decode cX11_init 124 = .ok (.putfield 72, 3)) (fun R hD hk => ?_)
  have z58 := (hk 58 (by omega)).trans z58
  have z60 := (hk 60 (by omega)).trans z60
  refine r_aloadn h (q := 0) 0 rfl (by decide +kernel : decode cX11_init 127 = .ok (.aload_n 0, 1)) ?_
  refine r_new h hD.2.2.2.1 kN_Main_76 (show shC (68 + 1) = _ from rfl) (by omega) ⟨by omega, trivial⟩ ⟨by omega, trivial⟩ (by decide +kernel : decode cX11_init 128 = .ok (.new 76, 3)) (fun hB2 => ?_)
  refine r_dup h rfl (by decide +kernel : decode cX11_init 131 = .ok (.dup, 1)) ?_
  refine q_initN hO hD 71 (as := []) (i_Secrets (⟨rfl, by omega, by decide⟩ : At shC NN (68 + 1) (.inl 3)) upr_at upr_at hB2) kI_Main_78 (by decide) (by omega) (by omega) rfl (fun c h1 h2 => (MTM_z (by omega) (by omega) (by omega)).symm) rfl ⟨by omega, trivial⟩ ⟨by omega, by omega, trivial⟩ (Nat.le_of_ble_eq_true rfl) (by decide +kernel : decode cX11_init 132 = .ok (.invokespecial 78, 3)) (fun R M hD hk => ?_)
  have z58 := (hk 58 (by omega)).1.trans z58
  have z60 := (hk 60 (by omega)).1.trans z60
  refine q_putR h hD (r := 69) (st := .object "MangleTown$Secrets") (Or.inl ⟨_, rfl⟩) (by omega) (by omega) f_Main_79 ⟨rfl, by omega, by omega⟩ rfl rfl rfl rfl (by decide +kernel : decode cX11_init 135 = .ok (.putfield 79, 3)) (fun R hD hk => ?_)
  have z58 := (hk 58 (by omega)).trans z58
  have z60 := (hk 60 (by omega)).trans z60
  refine r_aloadn h (q := 0) 0 rfl (by decide +kernel : decode cX11_init 138 = .ok (.aload_n 0, 1)) ?_
  refine r_bipush h (v := 7) (by decide) (by decide +kernel : decode cX11_init 139 = .ok (.bipush 7, 2)) ?_
  refine q_newL h hD (N := 7) 72 rfl ka_long rfl (MTM_z (by omega) (by omega) (by omega)) (by decide) (by omega) ⟨by omega, trivial⟩ ⟨by omega, trivial⟩ (by decide +kernel : decode cX11_init 141 = .ok (.newarray .long, 2)) (fun R M hD hk => ?_)
  have z58 := (hk 58 (by omega)).1.trans z58
  have z60 := (hk 60 (by omega)).1.trans z60
  refine q_putR h hD (r := 72) (st := .array .long) (Or.inr ⟨_, rfl⟩) (by omega) (by omega) f_Main_83 ⟨rfl, by omega, by omega⟩ rfl rfl rfl rfl (by decide +kernel : decode cX11_init 143 = .ok (.putfield 83, 3)) (fun R hD hk => ?_)
  have z58 := (hk 58 (by omega)).trans z58
  have z60 := (hk 60 (by omega)).trans z60
  exact kk _ _ hD z58 z60
