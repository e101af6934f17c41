theorem kO_Mod : Cond.methodLink "MangleTownModel" 1 Lib.objectInit ∈ TB ∧ Cond.instanceMethod Lib.objectInit ∈ TB ∧ Cond.code Lib.objectInit ⟨#[0xb1]⟩ 1 none ∈ TB := ⟨(inT6 32 rfl rfl), (inT1 33 rfl rfl), (inT1 34 rfl rfl)⟩
def FMD : Nat → Nat := (up1 (up1 (up1 (up1 (up1 (up1 (up1 (up1 (up1 (up1 (up1 (up1 (up1 (up1 (up1 (up1 (up1 (up1 (up1 (up1 (up1 (up1 (up1 (up1 (up1 (up1 (up1 (up1 (up1 (up1 (up1 (up1 (up1 (up1 (up1 (up1 (up1 (up1 (up1 (up1 (up1 (up1 (up1 (up1 zr 2 2) 10 3) 11 4) 12 5) 13 6) 14 7) 15 8) 16 9) 17 10) 18 11) 19 12) 20 13) 24 14) 25 15) 26 16) 27 17) 28 18) 29 19) 30 20) 31 21) 32 22) 33 23) 34 24) 35 25) 37 26) 38 27) 39 28) 40 29) 41 30) 42 31) 43 32) 44 33) 45 34) 46 35) 47 36) 48 37) 49 38) 52 39) 53 40) 56 41) 57 42) 58 43) 59 44) 60 45)
set_option maxHeartbeats 4000000 in
set_option maxRecDepth 100000 in
theorem iD_0 {K : Nat → Rr → Nat → List (Nat × AV) → List AV → Mm → Prop} {Q9 : Option AV → Rr → Mm → Prop} {R : Rr} {M : Mm} (h : EK shM yX12_init cX12_init 1 none 8 1 45 Q9 K) (hR : R 1 = zr) (hM : M 1 = z0) (hB : RB shM 1 R M) (kk : ∀ R' M', MDp shM RRM (fun _ => z0) 1 45 R M FMD z0 R' M' → K 45 R' 360 [(0, vr 1)] [] M') : K 1 R 0 [(0, vr 1)] [] M := by
  have hD : MDp shM RRM (fun _ => z0) 1 1 R M zr z0 R M := MDp.start (by omega) hR hM hB
  refine r_aloadn h (q := 0) 0 rfl (by decide +kernel : decode cX12_init 0 = .ok (.aload_n 0, 1)) ?_
  refine r_objInit h kO_Mod (by decide) (by decide) (by decide +kernel : decode cX12_init 1 = .ok (.invokespecial 1, 3)) ?_
  refine r_aloadn h (q := 0) 0 rfl (by decide +kernel : decode cX12_init 4 = .ok (.aload_n 0, 1)) ?_
  refine r_sipush h (v := 1000) (by decide) (by decide +kernel : decode cX12_init 5 = .ok (.sipush 1000, 3)) ?_
  refine q_newI h hD (N := 1000) 2 rfl ka_int rfl rfl (by decide) (by omega) ⟨by omega, trivial⟩ ⟨by omega, trivial⟩ (by decide +kernel : decode cX12_init 8 = .ok (.newarray .int, 2)) (fun R M hD _ => ?_)
  refine q_putR h hD (r := 2) (st := .array .int) (Or.inr ⟨_, rfl⟩) (by omega) (by omega) f_Mod_7 ⟨rfl, by omega, by omega⟩ rfl rfl rfl rfl (by decide +kernel : decode cX12_init 10 = .ok (.putfield 7, 3)) (fun R hD _ => ?_)
  refine r_aloadn h (q := 0) 0 rfl (by decide +kernel : decode cX12_init 13 = .ok (.aload_n 0, 1)) ?_
  refine r_bipush h (v := 8) (by decide) (by decide +kernel : decode cX12_init 14 = .ok (.bipush 8, 2)) ?_
  refine q_newI h hD (N := 8) 3 rfl ka_int rfl rfl (by decide) (by omega) ⟨by omega, trivial⟩ ⟨by omega, trivial⟩ (by decide +kernel : decode cX12_init 16 = .ok (.newarray .int, 2)) (fun R M hD _ => ?_)
  refine q_putR h hD (r := 3) (st := .array .int) (Or.inr ⟨_, rfl⟩) (by omega) (by omega) f_Mod_13 ⟨rfl, by omega, by omega⟩ rfl rfl rfl rfl (by decide +kernel : decode cX12_init 18 = .ok (.putfield 13, 3)) (fun R hD _ => ?_)
  refine r_aloadn h (q := 0) 0 rfl (by decide +kernel : decode cX12_init 21 = .ok (.aload_n 0, 1)) ?_
  refine r_bipush h (v := 14) (by decide) (by decide +kernel : decode cX12_init 22 = .ok (.bipush 14, 2)) ?_
  refine q_newL h hD (N := 14) 4 rfl ka_long rfl rfl (by decide) (by omega) ⟨by omega, trivial⟩ ⟨by omega, trivial⟩ (by decide +kernel : decode cX12_init 24 = .ok (.newarray .long, 2)) (fun R M hD _ => ?_)
  refine q_putR h hD (r := 4) (st := .array .long) (Or.inr ⟨_, rfl⟩) (by omega) (by omega) f_Mod_16 ⟨rfl, by omega, by omega⟩ rfl rfl rfl rfl (by decide +kernel : decode cX12_init 26 = .ok (.putfield 16, 3)) (fun R hD _ => ?_)
  refine r_aloadn h (q := 0) 0 rfl (by decide +kernel : decode cX12_init 29 = .ok (.aload_n 0, 1)) ?_
  refine r_bipush h (v := 14) (by decide) (by decide +kernel : decode cX12_init 30 = .ok (.bipush 14, 2)) ?_
  refine q_newI h hD (N := 14) 5 rfl ka_int rfl rfl (by decide) (by omega) ⟨by omega, trivial⟩ ⟨by omega, trivial⟩ (by decide +kernel : decode cX12_init 32 = .ok (.newarray .int, 2)) (fun R M hD _ => ?_)
  refine q_putR h hD (r := 5) (st := .array .int) (Or.inr ⟨_, rfl⟩) (by omega) (by omega) f_Mod_20 ⟨rfl, by omega, by omega⟩ rfl rfl rfl rfl (by decide +kernel : decode cX12_init 34 = .ok (.putfield 20, 3)) (fun R hD _ => ?_)
  refine r_aloadn h (q := 0) 0 rfl (by decide +kernel : decode cX12_init 37 = .ok (.aload_n 0, 1)) ?_
  refine r_bipush h (v := 14) (by decide) (by decide +kernel : decode cX12_init 38 = .ok (.bipush 14, 2)) ?_
  refine q_newI h hD (N := 14) 6 rfl ka_int rfl rfl (by decide) (by omega) ⟨by omega, trivial⟩ ⟨by omega, trivial⟩ (by decide +kernel : decode cX12_init 40 = .ok (.newarray .int, 2)) (fun R M hD _ => ?_)
  refine q_putR h hD (r := 6) (st := .array .int) (Or.inr ⟨_, rfl⟩) (by omega) (by omega) f_Mod_23 ⟨rfl, by omega, by omega⟩ rfl rfl rfl rfl (by decide +kernel : decode cX12_init 42 = .ok (.putfield 23, 3)) (fun R hD _ => ?_)
  refine r_aloadn h (q := 0) 0 rfl (by decide +kernel : decode cX12_init 45 = .ok (.aload_n 0, 1)) ?_
  refine r_bipush h (v := 14) (by decide) (by decide +kernel : decode cX12_init 46 = .ok (.bipush 14, 2)) ?_
  refine q_newI h hD (N := 14) 7 rfl ka_int rfl rfl (by decide) (by omega) ⟨by omega, trivial⟩ ⟨by omega, trivial⟩ (by decide +kernel : decode cX12_init 48 = .ok (.newarray .int, 2)) (fun R M hD _ => ?_)
  refine q_putR h hD (r := 7) (st := .array .int) (Or.inr ⟨_, rfl⟩) (by omega) (by omega) f_Mod_26 ⟨rfl, by omega, by omega⟩ rfl rfl rfl rfl (by decide +kernel : decode cX12_init 50 = .ok (.putfield 26, 3)) (fun R hD _ => ?_)
  refine r_aloadn h (q := 0) 0 rfl (by decide +kernel : decode cX12_init 53 = .ok (.aload_n 0, 1)) ?_
  refine r_bipush h (v := 14) (by decide) (by decide +kernel : decode cX12_init 54 = .ok (.bipush 14, 2)) ?_
  refine q_newI h hD (N := 14) 8 rfl ka_int rfl rfl (by decide) (by omega) ⟨by omega, trivial⟩ ⟨by omega, trivial⟩ (by decide +kernel : decode cX12_init 56 = .ok (.newarray .int, 2)) (fun R M hD _ => ?_)
  refine q_putR h hD (r := 8) (st := .array .int) (Or.inr ⟨_, rfl⟩) (by omega) (by omega) f_Mod_29 ⟨rfl, by omega, by omega⟩ rfl rfl rfl rfl (by decide +kernel : decode cX12_init 58 = .ok (.putfield 29, 3)) (fun R hD _ => ?_)
  refine r_aloadn h (q := 0) 0 rfl (by decide +kernel : decode cX12_init 61 = .ok (.aload_n 0, 1)) ?_
  refine r_bipush h (v := 14) (by decide) (by decide +kernel : decode cX12_init 62 = .ok (.bipush 14, 2)) ?_
  refine q_newI h hD (N := 14) 9 rfl ka_int rfl rfl (by decide) (by omega) ⟨by omega, trivial⟩ ⟨by omega, trivial⟩ (by decide +kernel : decode cX12_init 64 = .ok (.newarray .int, 2)) (fun R M hD _ => ?_)
  refine q_putR h hD (r := 9) (st := .array .int) (Or.inr ⟨_, rfl⟩) (by omega) (by omega) f_Mod_32 ⟨rfl, by omega, by omega⟩ rfl rfl rfl rfl (by decide +kernel : decode cX12_init 66 = .ok (.putfield 32, 3)) (fun R hD _ => ?_)
  refine r_aloadn h (q := 0) 0 rfl (by decide +kernel : decode cX12_init 69 = .ok (.aload_n 0, 1)) ?_
  refine r_bipush h (v := 24) (by decide) (by decide +kernel : decode cX12_init 70 = .ok (.bipush 24, 2)) ?_
  refine q_newI h hD (N := 24) 10 rfl ka_int rfl rfl (by decide) (by omega) ⟨by omega, trivial⟩ ⟨by omega, trivial⟩ (by decide +kernel : decode cX12_init 72 = .ok (.newarray .int, 2)) (fun R M hD _ => ?_)
  refine q_putR h hD (r := 10) (st := .array .int) (Or.inr ⟨_, rfl⟩) (by omega) (by omega) f_Mod_35 ⟨rfl, by omega, by omega⟩ rfl rfl rfl rfl (by decide +kernel : decode cX12_init 74 = .ok (.putfield 35, 3)) (fun R hD _ => ?_)
  refine r_aloadn h (q := 0) 0 rfl (by decide +kernel : decode cX12_init 77 = .ok (.aload_n 0, 1)) ?_
  refine r_iconst h (v := 4) (by decide +kernel : decode cX12_init 78 = .ok (.iconst 4, 1)) ?_
  refine q_newI h hD (N := 4) 11 rfl ka_int rfl rfl (by decide) (by omega) ⟨by omega, trivial⟩ ⟨by omega, trivial⟩ (by decide +kernel : decode cX12_init 79 = .ok (.newarray .int, 2)) (fun R M hD _ => ?_)
  refine q_putR h hD (r := 11) (st := .array .int) (Or.inr ⟨_, rfl⟩) (by omega) (by omega) f_Mod_38 ⟨rfl, by omega, by omega⟩ rfl rfl rfl rfl (by decide +kernel : decode cX12_init 81 = .ok (.putfield 38, 3)) (fun R hD _ => ?_)
  refine r_aloadn h (q := 0) 0 rfl (by decide +kernel : decode cX12_init 84 = .ok (.aload_n 0, 1)) ?_
  refine r_iconst h (v := 4) (by decide +kernel : decode cX12_init 85 = .ok (.iconst 4, 1)) ?_
  refine q_newI h hD (N := 4) 12 rfl ka_int rfl rfl (by decide) (by omega) ⟨by omega, trivial⟩ ⟨by omega, trivial⟩ (by decide +kernel : decode cX12_init 86 = .ok (.newarray .int, 2)) (fun R M hD _ => ?_)
  refine q_putR h hD (r := 12) (st := .array .int) (Or.inr ⟨_, rfl⟩) (by omega) (by omega) f_Mod_41 ⟨rfl, by omega, by omega⟩ rfl rfl rfl rfl (by decide +kernel : decode cX12_init 88 = .ok (.putfield 41, 3)) (fun R hD _ => ?_)
  refine r_aloadn h (q := 0) 0 rfl (by decide +kernel : decode cX12_init 91 = .ok (.aload_n 0, 1)) ?_
  refine r_sipush h (v := 2000) (by decide) (by decide +kernel : decode cX12_init 92 = .ok (.sipush 2000, 3)) ?_
  refine q_newI h hD (N := 2000) 13 rfl ka_int rfl rfl (by decide) (by omega) ⟨by omega, trivial⟩ ⟨by omega, trivial⟩ (by decide +kernel : decode cX12_init 95 = .ok (.newarray .int, 2)) (fun R M hD _ => ?_)
  refine q_putR h hD (r := 13) (st := .array .int) (Or.inr ⟨_, rfl⟩) (by omega) (by omega) f_Mod_44 ⟨rfl, by omega, by omega⟩ rfl rfl rfl rfl (by decide +kernel : decode cX12_init 97 = .ok (.putfield 44, 3)) (fun R hD _ => ?_)
  refine r_aloadn h (q := 0) 0 rfl (by decide +kernel : decode cX12_init 100 = .ok (.aload_n 0, 1)) ?_
  refine r_bipush h (v := 7) (by decide) (by decide +kernel : decode cX12_init 101 = .ok (.bipush 7, 2)) ?_
  refine q_newI h hD (N := 7) 14 rfl ka_int rfl rfl (by decide) (by omega) ⟨by omega, trivial⟩ ⟨by omega, trivial⟩ (by decide +kernel : decode cX12_init 103 = .ok (.newarray .int, 2)) (fun R M hD _ => ?_)
  refine q_putR h hD (r := 14) (st := .array .int) (Or.inr ⟨_, rfl⟩) (by omega) (by omega) f_Mod_47 ⟨rfl, by omega, by omega⟩ rfl rfl rfl rfl (by decide +kernel : decode cX12_init 105 = .ok (.putfield 47, 3)) (fun R hD _ => ?_)
  refine r_aloadn h (q := 0) 0 rfl (by decide +kernel : decode cX12_init 108 = .ok (.aload_n 0, 1)) ?_
  refine r_bipush h (v := 7) (by decide) (by decide +kernel : decode cX12_init 109 = .ok (.bipush 7, 2)) ?_
  refine q_newZ h hD (N := 7) 15 rfl ka_boolean rfl rfl (by decide) (by omega) ⟨by omega, trivial⟩ ⟨by omega, trivial⟩ (by decide +kernel : decode cX12_init 111 = .ok (.newarray .boolean, 2)) (fun R M hD _ => ?_)
  refine q_putR h hD (r := 15) (st := .array .boolean) (Or.inr ⟨_, rfl⟩) (by omega) (by omega) f_Mod_50 ⟨rfl, by omega, by omega⟩ rfl rfl rfl rfl (by decide +kernel : decode cX12_init 113 = .ok (.putfield 50, 3)) (fun R hD _ => ?_)
  refine r_aloadn h (q := 0) 0 rfl (by decide +kernel : decode cX12_init 116 = .ok (.aload_n 0, 1)) ?_
  refine r_bipush h (v := 7) (by decide) (by decide +kernel : decode cX12_init 117 = .ok (.bipush 7, 2)) ?_
  refine q_newI h hD (N := 7) 16 rfl ka_int rfl rfl (by decide) (by omega) ⟨by omega, trivial⟩ ⟨by omega, trivial⟩ (by decide +kernel : decode cX12_init 119 = .ok (.newarray .int, 2)) (fun R M hD _ => ?_)
  refine q_putR h hD (r := 16) (st := .array .int) (Or.inr ⟨_, rfl⟩) (by omega) (by omega) f_Mod_54 ⟨rfl, by omega, by omega⟩ rfl rfl rfl rfl (by decide +kernel : decode cX12_init 121 = .ok (.putfield 54, 3)) (fun R hD _ => ?_)
  refine r_aloadn h (q := 0) 0 rfl (by decide +kernel : decode cX12_init 124 = .ok (.aload_n 0, 1)) ?_
  refine r_bipush h (v := 7) (by decide) (by decide +kernel : decode cX12_init 125 = .ok (.bipush 7, 2)) ?_
  refine q_newI h hD (N := 7) 17 rfl ka_int rfl rfl (by decide) (by omega) ⟨by omega, trivial⟩ ⟨by omega, trivial⟩ (by decide +kernel : decode cX12_init 127 = .ok (.newarray .int, 2)) (fun R M hD _ => ?_)
  refine q_putR h hD (r := 17) (st := .array .int) (Or.inr ⟨_, rfl⟩) (by omega) (by omega) f_Mod_57 ⟨rfl, by omega, by omega⟩ rfl rfl rfl rfl (by decide +kernel : decode cX12_init 129 = .ok (.putfield 57, 3)) (fun R hD _ => ?_)
  refine r_aloadn h (q := 0) 0 rfl (by decide +kernel : decode cX12_init 132 = .ok (.aload_n 0, 1)) ?_
  refine r_bipush h (v := 7) (by decide) (by decide +kernel : decode cX12_init 133 = .ok (.bipush 7, 2)) ?_
  refine q_newI h hD (N := 7) 18 rfl ka_int rfl rfl (by decide) (by omega) ⟨by omega, trivial⟩ ⟨by omega, trivial⟩ (by decide +kernel : decode cX12_init 135 = .ok (.newarray .int, 2)) (fun R M hD _ => ?_)
  refine q_putR h hD (r := 18) (st := .array .int) (Or.inr ⟨_, rfl⟩) (by omega) (by omega) f_Mod_60 ⟨rfl, by omega, by omega⟩ rfl rfl rfl rfl (by decide +kernel : decode cX12_init 137 = .ok (.putfield 60, 3)) (fun R hD _ => ?_)
  refine r_aloadn h (q := 0) 0 rfl (by decide +kernel : decode cX12_init 140 = .ok (.aload_n 0, 1)) ?_
  refine r_bipush h (v := 7) (by decide) (by decide +kernel : decode cX12_init 141 = .ok (.bipush 7, 2)) ?_
  refine q_newI h hD (N := 7) 19 rfl ka_int rfl rfl (by decide) (by omega) ⟨by omega, trivial⟩ ⟨by omega, trivial⟩ (by decide +kernel : decode cX12_init 143 = .ok (.newarray .int, 2)) (fun R M hD _ => ?_)
  refine q_putR h hD (r := 19) (st := .array .int) (Or.inr ⟨_, rfl⟩) (by omega) (by omega) f_Mod_63 ⟨rfl, by omega, by omega⟩ rfl rfl rfl rfl (by decide +kernel : decode cX12_init 145 = .ok (.putfield 63, 3)) (fun R hD _ => ?_)
  refine r_aloadn h (q := 0) 0 rfl (by decide +kernel : decode cX12_init 148 = .ok (.aload_n 0, 1)) ?_
  refine r_bipush h (v := 7) (by decide) (by decide +kernel : decode cX12_init 149 = .ok (.bipush 7, 2)) ?_
  refine q_newI h hD (N := 7) 20 rfl ka_int rfl rfl (by decide) (by omega) ⟨by omega, trivial⟩ ⟨by omega, trivial⟩ (by decide +kernel : decode cX12_init 151 = .ok (.newarray .int, 2)) (fun R M hD _ => ?_)
  refine q_putR h hD (r := 20) (st := .array .int) (Or.inr ⟨_, rfl⟩) (by omega) (by omega) f_Mod_66 ⟨rfl, by omega, by omega⟩ rfl rfl rfl rfl (by decide +kernel : decode cX12_init 153 = .ok (.putfield 66, 3)) (fun R hD _ => ?_)
  refine r_aloadn h (q := 0) 0 rfl (by decide +kernel : decode cX12_init 156 = .ok (.aload_n 0, 1)) ?_
  refine r_bipush h (v := 7) (by decide) (by decide +kernel : decode cX12_init 157 = .ok (.bipush 7, 2)) ?_
  refine q_newI h hD (N := 7) 21 rfl ka_int rfl rfl (by decide) (by omega) ⟨by omega, trivial⟩ ⟨by omega, trivial⟩ (by decide +kernel : decode cX12_init 159 = .ok (.newarray .int, 2)) (fun R M hD _ => ?_)
  refine q_putR h hD (r := 21) (st := .array .int) (Or.inr ⟨_, rfl⟩) (by omega) (by omega) f_Mod_69 ⟨rfl, by omega, by omega⟩ rfl rfl rfl rfl (by decide +kernel : decode cX12_init 161 = .ok (.putfield 69, 3)) (fun R hD _ => ?_)
  refine r_aloadn h (q := 0) 0 rfl (by decide +kernel : decode cX12_init 164 = .ok (.aload_n 0, 1)) ?_
  refine r_bipush h (v := 7) (by decide) (by decide +kernel : decode cX12_init 165 = .ok (.bipush 7, 2)) ?_
  refine q_newI h hD (N := 7) 22 rfl ka_int rfl rfl (by decide) (by omega) ⟨by omega, trivial⟩ ⟨by omega, trivial⟩ (by decide +kernel : decode cX12_init 167 = .ok (.newarray .int, 2)) (fun R M hD _ => ?_)
  refine q_putR h hD (r := 22) (st := .array .int) (Or.inr ⟨_, rfl⟩) (by omega) (by omega) f_Mod_72 ⟨rfl, by omega, by omega⟩ rfl rfl rfl rfl (by decide +kernel : decode cX12_init 169 = .ok (.putfield 72, 3)) (fun R hD _ => ?_)
  refine r_aloadn h (q := 0) 0 rfl (by decide +kernel : decode cX12_init 172 = .ok (.aload_n 0, 1)) ?_
  refine r_bipush h (v := 7) (by decide) (by decide +kernel : decode cX12_init 173 = .ok (.bipush 7, 2)) ?_
  refine q_newI h hD (N := 7) 23 rfl ka_int rfl rfl (by decide) (by omega) ⟨by omega, trivial⟩ ⟨by omega, trivial⟩ (by decide +kernel : decode cX12_init 175 = .ok (.newarray .int, 2)) (fun R M hD _ => ?_)
  refine q_putR h hD (r := 23) (st := .array .int) (Or.inr ⟨_, rfl⟩) (by omega) (by omega) f_Mod_75 ⟨rfl, by omega, by omega⟩ rfl rfl rfl rfl (by decide +kernel : decode cX12_init 177 = .ok (.putfield 75, 3)) (fun R hD _ => ?_)
  refine r_aloadn h (q := 0) 0 rfl (by decide +kernel : decode cX12_init 180 = .ok (.aload_n 0, 1)) ?_
  refine r_bipush h (v := 7) (by decide) (by decide +kernel : decode cX12_init 181 = .ok (.bipush 7, 2)) ?_
  refine q_newI h hD (N := 7) 24 rfl ka_int rfl rfl (by decide) (by omega) ⟨by omega, trivial⟩ ⟨by omega, trivial⟩ (by decide +kernel : decode cX12_init 183 = .ok (.newarray .int, 2)) (fun R M hD _ => ?_)
  refine q_putR h hD (r := 24) (st := .array .int) (Or.inr ⟨_, rfl⟩) (by omega) (by omega) f_Mod_78 ⟨rfl, by omega, by omega⟩ rfl rfl rfl rfl (by decide +kernel : decode cX12_init 185 = .ok (.putfield 78, 3)) (fun R hD _ => ?_)
  refine r_aloadn h (q := 0) 0 rfl (by decide +kernel : decode cX12_init 188 = .ok (.aload_n 0, 1)) ?_
  refine r_bipush h (v := 20) (by decide) (by decide +kernel : decode cX12_init 189 = .ok (.bipush 20, 2)) ?_
  refine q_newI h hD (N := 20) 25 rfl ka_int rfl rfl (by decide) (by omega) ⟨by omega, trivial⟩ ⟨by omega, trivial⟩ (by decide +kernel : decode cX12_init 191 = .ok (.newarray .int, 2)) (fun R M hD _ => ?_)
  refine q_putR h hD (r := 25) (st := .array .int) (Or.inr ⟨_, rfl⟩) (by omega) (by omega) f_Mod_81 ⟨rfl, by omega, by omega⟩ rfl rfl rfl rfl (by decide +kernel : decode cX12_init 193 = .ok (.putfield 81, 3)) (fun R hD _ => ?_)
  refine r_aloadn h (q := 0) 0 rfl (by decide +kernel : decode cX12_init 196 = .ok (.aload_n 0, 1)) ?_
  refine r_bipush h (v := 6) (by decide) (by decide +kernel : decode cX12_init 197 = .ok (.bipush 6, 2)) ?_
  refine q_newI h hD (N := 6) 26 rfl ka_int rfl rfl (by decide) (by omega) ⟨by omega, trivial⟩ ⟨by omega, trivial⟩ (by decide +kernel : decode cX12_init 199 = .ok (.newarray .int, 2)) (fun R M hD _ => ?_)
  refine q_putR h hD (r := 26) (st := .array .int) (Or.inr ⟨_, rfl⟩) (by omega) (by omega) f_Mod_84 ⟨rfl, by omega, by omega⟩ rfl rfl rfl rfl (by decide +kernel : decode cX12_init 201 = .ok (.putfield 84, 3)) (fun R hD _ => ?_)
  refine r_aloadn h (q := 0) 0 rfl (by decide +kernel : decode cX12_init 204 = .ok (.aload_n 0, 1)) ?_
  refine r_sipush h (v := 240) (by decide) (by decide +kernel : decode cX12_init 205 = .ok (.sipush 240, 3)) ?_
  refine q_newI h hD (N := 240) 27 rfl ka_int rfl rfl (by decide) (by omega) ⟨by omega, trivial⟩ ⟨by omega, trivial⟩ (by decide +kernel : decode cX12_init 208 = .ok (.newarray .int, 2)) (fun R M hD _ => ?_)
  refine q_putR h hD (r := 27) (st := .array .int) (Or.inr ⟨_, rfl⟩) (by omega) (by omega) f_Mod_87 ⟨rfl, by omega, by omega⟩ rfl rfl rfl rfl (by decide +kernel : decode cX12_init 210 = .ok (.putfield 87, 3)) (fun R hD _ => ?_)
  refine r_aloadn h (q := 0) 0 rfl (by decide +kernel : decode cX12_init 213 = .ok (.aload_n 0, 1)) ?_
  refine r_sipush h (v := 240) (by decide) (by decide +kernel : decode cX12_init 214 = .ok (.sipush 240, 3)) ?_
  refine q_newI h hD (N := 240) 28 rfl ka_int rfl rfl (by decide) (by omega) ⟨by omega, trivial⟩ ⟨by omega, trivial⟩ (by decide +kernel : decode cX12_init 217 = .ok (.newarray .int, 2)) (fun R M hD _ => ?_)
  refine q_putR h hD (r := 28) (st := .array .int) (Or.inr ⟨_, rfl⟩) (by omega) (by omega) f_Mod_90 ⟨rfl, by omega, by omega⟩ rfl rfl rfl rfl (by decide +kernel : decode cX12_init 219 = .ok (.putfield 90, 3)) (fun R hD _ => ?_)
  refine r_aloadn h (q := 0) 0 rfl (by decide +kernel : decode cX12_init 222 = .ok (.aload_n 0, 1)) ?_
  refine r_sipush h (v := 240) (by decide) (by decide +kernel : decode cX12_init 223 = .ok (.sipush 240, 3)) ?_
  refine q_newI h hD (N := 240) 29 rfl ka_int rfl rfl (by decide) (by omega) ⟨by omega, trivial⟩ ⟨by omega, trivial⟩ (by decide +kernel : decode cX12_init 226 = .ok (.newarray .int, 2)) (fun R M hD _ => ?_)
  refine q_putR h hD (r := 29) (st := .array .int) (Or.inr ⟨_, rfl⟩) (by omega) (by omega) f_Mod_93 ⟨rfl, by omega, by omega⟩ rfl rfl rfl rfl (by decide +kernel : decode cX12_init 228 = .ok (.putfield 93, 3)) (fun R hD _ => ?_)
  refine r_aloadn h (q := 0) 0 rfl (by decide +kernel : decode cX12_init 231 = .ok (.aload_n 0, 1)) ?_
  refine r_iconst h (v := 5) (by decide +kernel : decode cX12_init 232 = .ok (.iconst 5, 1)) ?_
  refine q_newI h hD (N := 5) 30 rfl ka_int rfl rfl (by decide) (by omega) ⟨by omega, trivial⟩ ⟨by omega, trivial⟩ (by decide +kernel : decode cX12_init 233 = .ok (.newarray .int, 2)) (fun R M hD _ => ?_)
  refine q_putR h hD (r := 30) (st := .array .int) (Or.inr ⟨_, rfl⟩) (by omega) (by omega) f_Mod_96 ⟨rfl, by omega, by omega⟩ rfl rfl rfl rfl (by decide +kernel : decode cX12_init 235 = .ok (.putfield 96, 3)) (fun R hD _ => ?_)
  refine r_aloadn h (q := 0) 0 rfl (by decide +kernel : decode cX12_init 238 = .ok (.aload_n 0, 1)) ?_
  refine r_iconst h (v := 5) (by decide +kernel : decode cX12_init 239 = .ok (.iconst 5, 1)) ?_
  refine q_newI h hD (N := 5) 31 rfl ka_int rfl rfl (by decide) (by omega) ⟨by omega, trivial⟩ ⟨by omega, trivial⟩ (by decide +kernel : decode cX12_init 240 = .ok (.newarray .int, 2)) (fun R M hD _ => ?_)
  refine q_putR h hD (r := 31) (st := .array .int) (Or.inr ⟨_, rfl⟩) (by omega) (by omega) f_Mod_99 ⟨rfl, by omega, by omega⟩ rfl rfl rfl rfl (by decide +kernel : decode cX12_init 242 = .ok (.putfield 99, 3)) (fun R hD _ => ?_)
  refine r_aloadn h (q := 0) 0 rfl (by decide +kernel : decode cX12_init 245 = .ok (.aload_n 0, 1)) ?_
  refine r_bipush h (v := 40) (by decide) (by decide +kernel : decode cX12_init 246 = .ok (.bipush 40, 2)) ?_
  refine q_newI h hD (N := 40) 32 rfl ka_int rfl rfl (by decide) (by omega) ⟨by omega, trivial⟩ ⟨by omega, trivial⟩ (by decide +kernel : decode cX12_init 248 = .ok (.newarray .int, 2)) (fun R M hD _ => ?_)
  refine q_putR h hD (r := 32) (st := .array .int) (Or.inr ⟨_, rfl⟩) (by omega) (by omega) f_Mod_102 ⟨rfl, by omega, by omega⟩ rfl rfl rfl rfl (by decide +kernel : decode cX12_init 250 = .ok (.putfield 102, 3)) (fun R hD _ => ?_)
  refine r_aloadn h (q := 0) 0 rfl (by decide +kernel : decode cX12_init 253 = .ok (.aload_n 0, 1)) ?_
  refine r_bipush h (v := 40) (by decide) (by decide +kernel : decode cX12_init 254 = .ok (.bipush 40, 2)) ?_
  refine q_newI h hD (N := 40) 33 rfl ka_int rfl rfl (by decide) (by omega) ⟨by omega, trivial⟩ ⟨by omega, trivial⟩ (by decide +kernel : decode cX12_init 256 = .ok (.newarray .int, 2)) (fun R M hD _ => ?_)
  refine q_putR h hD (r := 33) (st := .array .int) (Or.inr ⟨_, rfl⟩) (by omega) (by omega) f_Mod_105 ⟨rfl, by omega, by omega⟩ rfl rfl rfl rfl (by decide +kernel : decode cX12_init 258 = .ok (.putfield 105, 3)) (fun R hD _ => ?_)
  refine r_aloadn h (q := 0) 0 rfl (by decide +kernel : decode cX12_init 261 = .ok (.aload_n 0, 1)) ?_
  refine r_bipush h (v := 33) (by decide) (by decide +kernel : decode cX12_init 262 = .ok (.bipush 33, 2)) ?_
  refine q_newI h hD (N := 33) 34 rfl ka_int rfl rfl (by decide) (by omega) ⟨by omega, trivial⟩ ⟨by omega, trivial⟩ (by decide +kernel : decode cX12_init 264 = .ok (.newarray .int, 2)) (fun R M hD _ => ?_)
  refine q_putR h hD (r := 34) (st := .array .int) (Or.inr ⟨_, rfl⟩) (by omega) (by omega) f_Mod_108 ⟨rfl, by omega, by omega⟩ rfl rfl rfl rfl (by decide +kernel : decode cX12_init 266 = .ok (.putfield 108, 3)) (fun R hD _ => ?_)
  refine r_aloadn h (q := 0) 0 rfl (by decide +kernel : decode cX12_init 269 = .ok (.aload_n 0, 1)) ?_
  refine r_bipush h (v := 33) (by decide) (by decide +kernel : decode cX12_init 270 = .ok (.bipush 33, 2)) ?_
  refine q_newI h hD (N := 33) 35 rfl ka_int rfl rfl (by decide) (by omega) ⟨by omega, trivial⟩ ⟨by omega, trivial⟩ (by decide +kernel : decode cX12_init 272 = .ok (.newarray .int, 2)) (fun R M hD _ => ?_)
  refine q_putR h hD (r := 35) (st := .array .int) (Or.inr ⟨_, rfl⟩) (by omega) (by omega) f_Mod_111 ⟨rfl, by omega, by omega⟩ rfl rfl rfl rfl (by decide +kernel : decode cX12_init 274 = .ok (.putfield 111, 3)) (fun R hD _ => ?_)
  refine r_aloadn h (q := 0) 0 rfl (by decide +kernel : decode cX12_init 277 = .ok (.aload_n 0, 1)) ?_
  refine r_sipush h (v := 132) (by decide) (by decide +kernel : decode cX12_init 278 = .ok (.sipush 132, 3)) ?_
  refine q_newI h hD (N := 132) 36 rfl ka_int rfl rfl (by decide) (by omega) ⟨by omega, trivial⟩ ⟨by omega, trivial⟩ (by decide +kernel : decode cX12_init 281 = .ok (.newarray .int, 2)) (fun R M hD _ => ?_)
  refine q_putR h hD (r := 36) (st := .array .int) (Or.inr ⟨_, rfl⟩) (by omega) (by omega) f_Mod_114 ⟨rfl, by omega, by omega⟩ rfl rfl rfl rfl (by decide +kernel : decode cX12_init 283 = .ok (.putfield 114, 3)) (fun R hD _ => ?_)
  refine r_aloadn h (q := 0) 0 rfl (by decide +kernel : decode cX12_init 286 = .ok (.aload_n 0, 1)) ?_
  refine r_sipush h (v := 528) (by decide) (by decide +kernel : decode cX12_init 287 = .ok (.sipush 528, 3)) ?_
  refine q_newI h hD (N := 528) 37 rfl ka_int rfl rfl (by decide) (by omega) ⟨by omega, trivial⟩ ⟨by omega, trivial⟩ (by decide +kernel : decode cX12_init 290 = .ok (.newarray .int, 2)) (fun R M hD _ => ?_)
  refine q_putR h hD (r := 37) (st := .array .int) (Or.inr ⟨_, rfl⟩) (by omega) (by omega) f_Mod_117 ⟨rfl, by omega, by omega⟩ rfl rfl rfl rfl (by decide +kernel : decode cX12_init 292 = .ok (.putfield 117, 3)) (fun R hD _ => ?_)
  refine r_aloadn h (q := 0) 0 rfl (by decide +kernel : decode cX12_init 295 = .ok (.aload_n 0, 1)) ?_
  refine r_iconst h (v := 4) (by decide +kernel : decode cX12_init 296 = .ok (.iconst 4, 1)) ?_
  refine q_newZ h hD (N := 4) 38 rfl ka_boolean rfl rfl (by decide) (by omega) ⟨by omega, trivial⟩ ⟨by omega, trivial⟩ (by decide +kernel : decode cX12_init 297 = .ok (.newarray .boolean, 2)) (fun R M hD _ => ?_)
  refine q_putR h hD (r := 38) (st := .array .boolean) (Or.inr ⟨_, rfl⟩) (by omega) (by omega) f_Mod_120 ⟨rfl, by omega, by omega⟩ rfl rfl rfl rfl (by decide +kernel : decode cX12_init 299 = .ok (.putfield 120, 3)) (fun R hD _ => ?_)
  refine r_aloadn h (q := 0) 0 rfl (by decide +kernel : decode cX12_init 302 = .ok (.aload_n 0, 1)) ?_
  refine r_bipush h (v := 7) (by decide) (by decide +kernel : decode cX12_init 303 = .ok (.bipush 7, 2)) ?_
  refine q_newI h hD (N := 7) 39 rfl ka_int rfl rfl (by decide) (by omega) ⟨by omega, trivial⟩ ⟨by omega, trivial⟩ (by decide +kernel : decode cX12_init 305 = .ok (.newarray .int, 2)) (fun R M hD _ => ?_)
  refine q_putR h hD (r := 39) (st := .array .int) (Or.inr ⟨_, rfl⟩) (by omega) (by omega) f_Mod_123 ⟨rfl, by omega, by omega⟩ rfl rfl rfl rfl (by decide +kernel : decode cX12_init 307 = .ok (.putfield 123, 3)) (fun R hD _ => ?_)
  refine r_aloadn h (q := 0) 0 rfl (by decide +kernel : decode cX12_init 310 = .ok (.aload_n 0, 1)) ?_
  refine r_bipush h (v := 7) (by decide) (by decide +kernel : decode cX12_init 311 = .ok (.bipush 7, 2)) ?_
  refine q_newI h hD (N := 7) 40 rfl ka_int rfl rfl (by decide) (by omega) ⟨by omega, trivial⟩ ⟨by omega, trivial⟩ (by decide +kernel : decode cX12_init 313 = .ok (.newarray .int, 2)) (fun R M hD _ => ?_)
  refine q_putR h hD (r := 40) (st := .array .int) (Or.inr ⟨_, rfl⟩) (by omega) (by omega) f_Mod_126 ⟨rfl, by omega, by omega⟩ rfl rfl rfl rfl (by decide +kernel : decode cX12_init 315 = .ok (.putfield 126, 3)) (fun R hD _ => ?_)
  refine r_aloadn h (q := 0) 0 rfl (by decide +kernel : decode cX12_init 318 = .ok (.aload_n 0, 1)) ?_
  refine r_bipush h (v := 7) (by decide) (by decide +kernel : decode cX12_init 319 = .ok (.bipush 7, 2)) ?_
  refine q_newI h hD (N := 7) 41 rfl ka_int rfl rfl (by decide) (by omega) ⟨by omega, trivial⟩ ⟨by omega, trivial⟩ (by decide +kernel : decode cX12_init 321 = .ok (.newarray .int, 2)) (fun R M hD _ => ?_)
  refine q_putR h hD (r := 41) (st := .array .int) (Or.inr ⟨_, rfl⟩) (by omega) (by omega) f_Mod_129 ⟨rfl, by omega, by omega⟩ rfl rfl rfl rfl (by decide +kernel : decode cX12_init 323 = .ok (.putfield 129, 3)) (fun R hD _ => ?_)
  refine r_aloadn h (q := 0) 0 rfl (by decide +kernel : decode cX12_init 326 = .ok (.aload_n 0, 1)) ?_
  refine r_sipush h (v := 128) (by decide) (by decide +kernel : decode cX12_init 327 = .ok (.sipush 128, 3)) ?_
  refine q_newI h hD (N := 128) 42 rfl ka_int rfl rfl (by decide) (by omega) ⟨by omega, trivial⟩ ⟨by omega, trivial⟩ (by decide +kernel : decode cX12_init 330 = .ok (.newarray .int, 2)) (fun R M hD _ => ?_)
  refine q_putR h hD (r := 42) (st := .array .int) (Or.inr ⟨_, rfl⟩) (by omega) (by omega) f_Mod_132 ⟨rfl, by omega, by omega⟩ rfl rfl rfl rfl (by decide +kernel : decode cX12_init 332 = .ok (.putfield 132, 3)) (fun R hD _ => ?_)
  refine r_aloadn h (q := 0) 0 rfl (by decide +kernel : decode cX12_init 335 = .ok (.aload_n 0, 1)) ?_
  refine r_sipush h (v := 128) (by decide) (by decide +kernel : decode cX12_init 336 = .ok (.sipush 128, 3)) ?_
  refine q_newI h hD (N := 128) 43 rfl ka_int rfl rfl (by decide) (by omega) ⟨by omega, trivial⟩ ⟨by omega, trivial⟩ (by decide +kernel : decode cX12_init 339 = .ok (.newarray .int, 2)) (fun R M hD _ => ?_)
  refine q_putR h hD (r := 43) (st := .array .int) (Or.inr ⟨_, rfl⟩) (by omega) (by omega) f_Mod_135 ⟨rfl, by omega, by omega⟩ rfl rfl rfl rfl (by decide +kernel : decode cX12_init 341 = .ok (.putfield 135, 3)) (fun R hD _ => ?_)
  refine r_aloadn h (q := 0) 0 rfl (by decide +kernel : decode cX12_init 344 = .ok (.aload_n 0, 1)) ?_
  refine r_bipush h (v := 49) (by decide) (by decide +kernel : decode cX12_init 345 = .ok (.bipush 49, 2)) ?_
  refine q_newI h hD (N := 49) 44 rfl ka_int rfl rfl (by decide) (by omega) ⟨by omega, trivial⟩ ⟨by omega, trivial⟩ (by decide +kernel : decode cX12_init 347 = .ok (.newarray .int, 2)) (fun R M hD _ => ?_)
  refine q_putR h hD (r := 44) (st := .array .int) (Or.inr ⟨_, rfl⟩) (by omega) (by omega) f_Mod_138 ⟨rfl, by omega, by omega⟩ rfl rfl rfl rfl (by decide +kernel : decode cX12_init 349 = .ok (.putfield 138, 3)) (fun R hD _ => ?_)
  refine r_aloadn h (q := 0) 0 rfl (by decide +kernel : decode cX12_init 352 = .ok (.aload_n 0, 1)) ?_
  refine r_bipush h (v := 7) (by decide) (by decide +kernel : decode cX12_init 353 = .ok (.bipush 7, 2)) ?_
  refine q_newL h hD (N := 7) 45 rfl ka_long rfl rfl (by decide) (by omega) ⟨by omega, trivial⟩ ⟨by omega, trivial⟩ (by decide +kernel : decode cX12_init 355 = .ok (.newarray .long, 2)) (fun R M hD _ => ?_)
  refine q_putR h hD (r := 45) (st := .array .long) (Or.inr ⟨_, rfl⟩) (by omega) (by omega) f_Mod_141 ⟨rfl, by omega, by omega⟩ rfl rfl rfl rfl (by decide +kernel : decode cX12_init 357 = .ok (.putfield 141, 3)) (fun R hD _ => ?_)
  exact kk _ _ hD
