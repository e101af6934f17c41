theorem ka_int : Cond.arrayClass .int ∈ TB := (inT1 120 rfl rfl)
theorem ka_long : Cond.arrayClass .long ∈ TB := (inT1 119 rfl rfl)
theorem ka_byte : Cond.arrayClass .byte ∈ TB := (inT1 93 rfl rfl)
theorem ka_boolean : Cond.arrayClass .boolean ∈ TB := (inT2 91 rfl rfl)
theorem kO_Mangle : Cond.methodLink "MangleTown$Mangle" 3 Lib.objectInit ∈ TB ∧ Cond.instanceMethod Lib.objectInit ∈ TB ∧ Cond.code Lib.objectInit ⟨#[0xb1]⟩ 1 none ∈ TB := ⟨(inT2 63 rfl rfl), (inT1 33 rfl rfl), (inT1 34 rfl rfl)⟩
theorem k2_1 : ∀ k, k < 7 → (kd 1)[k]? = some 2 → False := by decide
theorem kO_Secrets : Cond.methodLink "MangleTown$Secrets" 3 Lib.objectInit ∈ TB ∧ Cond.instanceMethod Lib.objectInit ∈ TB ∧ Cond.code Lib.objectInit ⟨#[0xb1]⟩ 1 none ∈ TB := ⟨(inT2 127 rfl rfl), (inT1 33 rfl rfl), (inT1 34 rfl rfl)⟩
theorem k2_3 : ∀ k, k < 5 → (kd 3)[k]? = some 2 → k = 3 ∨ k = 4 := by decide
theorem kO_State : Cond.methodLink "MangleTown$State" 3 Lib.objectInit ∈ TB ∧ Cond.instanceMethod Lib.objectInit ∈ TB ∧ Cond.code Lib.objectInit ⟨#[0xb1]⟩ 1 none ∈ TB := ⟨(inT1 215 rfl rfl), (inT1 33 rfl rfl), (inT1 34 rfl rfl)⟩
theorem k2_5 : ∀ k, k < 9 → (kd 5)[k]? = some 2 → k = 0 ∨ k = 1 ∨ k = 2 ∨ k = 3 := by decide
theorem kO_Years : Cond.methodLink "MangleTown$Years" 3 Lib.objectInit ∈ TB ∧ Cond.instanceMethod Lib.objectInit ∈ TB ∧ Cond.code Lib.objectInit ⟨#[0xb1]⟩ 1 none ∈ TB := ⟨(inT1 190 rfl rfl), (inT1 33 rfl rfl), (inT1 34 rfl rfl)⟩
theorem k2_8 : ∀ k, k < 4 → (kd 8)[k]? = some 2 → k = 0 ∨ k = 1 ∨ k = 2 := by decide
theorem kO_Rows : Cond.methodLink "MangleTown$Rows" 3 Lib.objectInit ∈ TB ∧ Cond.instanceMethod Lib.objectInit ∈ TB ∧ Cond.code Lib.objectInit ⟨#[0xb1]⟩ 1 none ∈ TB := ⟨(inT2 97 rfl rfl), (inT1 33 rfl rfl), (inT1 34 rfl rfl)⟩
theorem k2_2 : ∀ k, k < 7 → (kd 2)[k]? = some 2 → k = 0 ∨ k = 2 ∨ k = 3 ∨ k = 4 ∨ k = 5 ∨ k = 6 := by decide
theorem kO_Law : Cond.methodLink "MangleTown$Law" 5 Lib.objectInit ∈ TB ∧ Cond.instanceMethod Lib.objectInit ∈ TB ∧ Cond.code Lib.objectInit ⟨#[0xb1]⟩ 1 none ∈ TB := ⟨(inT1 105 rfl rfl), (inT1 33 rfl rfl), (inT1 34 rfl rfl)⟩
theorem k2_0 : ∀ k, k < 4 → (kd 0)[k]? = some 2 → k = 1 ∨ k = 2 := by decide
theorem kO_Tape : Cond.methodLink "MangleTown$Tape" 3 Lib.objectInit ∈ TB ∧ Cond.instanceMethod Lib.objectInit ∈ TB ∧ Cond.code Lib.objectInit ⟨#[0xb1]⟩ 1 none ∈ TB := ⟨(inT1 40 rfl rfl), (inT1 33 rfl rfl), (inT1 34 rfl rfl)⟩
theorem k2_6 : ∀ k, k < 12 → (kd 6)[k]? = some 2 → k = 0 := by decide
theorem kO_Standing : Cond.methodLink "MangleTown$Standing" 3 Lib.objectInit ∈ TB ∧ Cond.instanceMethod Lib.objectInit ∈ TB ∧ Cond.code Lib.objectInit ⟨#[0xb1]⟩ 1 none ∈ TB := ⟨(inT2 25 rfl rfl), (inT1 33 rfl rfl), (inT1 34 rfl rfl)⟩
theorem kN_Standing_9 : NW "MangleTown$Standing" 9 5 := ⟨cin_5, (inT2 26 rfl rfl), (inT1 211 rfl rfl), (inT1 8 rfl rfl), by decide⟩
theorem kI_Standing_11 : MLN "MangleTown$Standing" 11 yX6_init cX6_init 1 0 := ⟨by decide +kernel, (inT1 8 rfl rfl), (inT1 214 rfl rfl), by decide +kernel, by decide, rfl, (inT1 213 rfl rfl)⟩
theorem kN_Standing_18 : NW "MangleTown$Standing" 18 8 := ⟨cin_8, (inT2 28 rfl rfl), (inT1 186 rfl rfl), (inT1 7 rfl rfl), by decide⟩
theorem kI_Standing_20 : MLN "MangleTown$Standing" 20 yX10_init cX10_init 1 0 := ⟨by decide +kernel, (inT1 7 rfl rfl), (inT1 189 rfl rfl), by decide +kernel, by decide, rfl, (inT1 188 rfl rfl)⟩
theorem k2_4 : ∀ k, k < 6 → (kd 4)[k]? = some 2 → k = 0 ∨ k = 1 ∨ k = 2 ∨ k = 3 := by decide
set_option maxHeartbeats 1000000 in
theorem i_Mangle {b : Nat} {R : Rr} {M : Mm} (hb : At shC NN b (.inl 1)) (hR : R b = zr) (hM : M b = z0) (hB : RB shC b R M) : MSo shC yX2_init cX2_init 1 none 2 b b R [vr b] M (QN (MD shC RRC (fun _ => z0) b b R M)) := by
  refine MSo_ofK (by decide +kernel) (Nat.le_of_ble_eq_true rfl) fun K h => ?_
  have h1 := hb.2.1
  have hD : MDp shC RRC (fun _ => z0) b b R M zr z0 R M := MDp.start (by omega) hR hM hB
  show K b R 0 [(0, vr b)] [] M
  refine r_aloadn h (q := 0) 0 rfl (by decide +kernel : decode cX2_init 0 = .ok (.aload_n 0, 1)) ?_
  refine r_objInit h kO_Mangle (by decide) (by decide) (by decide +kernel : decode cX2_init 1 = .ok (.invokespecial 3, 3)) ?_
  refine r_vret h rfl (by decide +kernel : decode cX2_init 4 = .ok (.return_, 1)) rfl ⟨rfl, hD.done (fun ci9 e9 k9 hk9 => ?_) rfl⟩
  rw [hb.1] at e9
  cases e9
  exact (k2_1 k9 (List.getElem?_eq_some_iff.mp hk9).1 hk9).elim
set_option maxHeartbeats 1000000 in
theorem i_Secrets {b : Nat} {R : Rr} {M : Mm} (hb : At shC NN b (.inl 3)) (hR : R b = zr) (hM : M b = z0) (hB : RB shC b R M) : MSo shC yX4_init cX4_init 1 none 2 b (b + 2) R [vr b] M (QN (MD shC RRC (fun _ => z0) b (b + 2) R M)) := by
  refine MSo_ofK (by decide +kernel) (Nat.le_of_ble_eq_true rfl) fun K h => ?_
  have h1 := hb.2.1
  have hD : MDp shC RRC (fun _ => z0) b b R M zr z0 R M := MDp.start (by omega) hR hM hB
  show K b R 0 [(0, vr b)] [] M
  refine r_aloadn h (q := 0) 0 rfl (by decide +kernel : decode cX4_init 0 = .ok (.aload_n 0, 1)) ?_
  refine r_objInit h kO_Secrets (by decide) (by decide) (by decide +kernel : decode cX4_init 1 = .ok (.invokespecial 3, 3)) ?_
  refine r_aloadn h (q := 0) 0 rfl (by decide +kernel : decode cX4_init 4 = .ok (.aload_n 0, 1)) ?_
  refine r_bipush h (v := 7) (by decide) (by decide +kernel : decode cX4_init 5 = .ok (.bipush 7, 2)) ?_
  refine q_newI h hD (N := 7) (b + 1) rfl ka_int (at_3_3 hb).1 rfl (by decide) (by omega) ⟨by omega, trivial⟩ ⟨by omega, trivial⟩ (by decide +kernel : decode cX4_init 7 = .ok (.newarray .int, 2)) (fun R M hD _ => ?_)
  refine q_putR h hD (r := (b + 1)) (st := .array .int) (Or.inr ⟨_, rfl⟩) (by omega) (by omega) f_Secrets_9 ⟨hb.1, hb.2.1, by omega⟩ rfl rfl rfl rfl (by decide +kernel : decode cX4_init 9 = .ok (.putfield 9, 3)) (fun R hD _ => ?_)
  refine r_aloadn h (q := 0) 0 rfl (by decide +kernel : decode cX4_init 12 = .ok (.aload_n 0, 1)) ?_
  refine r_bipush h (v := 7) (by decide) (by decide +kernel : decode cX4_init 13 = .ok (.bipush 7, 2)) ?_
  refine q_newI h hD (N := 7) (b + 2) rfl ka_int (at_3_4 hb).1 rfl (by decide) (by omega) ⟨by omega, trivial⟩ ⟨by omega, trivial⟩ (by decide +kernel : decode cX4_init 15 = .ok (.newarray .int, 2)) (fun R M hD _ => ?_)
  refine q_putR h hD (r := (b + 2)) (st := .array .int) (Or.inr ⟨_, rfl⟩) (by omega) (by omega) f_Secrets_15 ⟨hb.1, hb.2.1, by omega⟩ rfl rfl rfl rfl (by decide +kernel : decode cX4_init 17 = .ok (.putfield 15, 3)) (fun R hD _ => ?_)
  refine r_vret h rfl (by decide +kernel : decode cX4_init 20 = .ok (.return_, 1)) rfl ⟨rfl, hD.done (fun ci9 e9 k9 hk9 => ?_) rfl⟩
  rw [hb.1] at e9
  cases e9
  rcases k2_3 k9 (List.getElem?_eq_some_iff.mp hk9).1 hk9 with rfl | rfl
  · rw [rr_3_3 hb]; rfl
  · rw [rr_3_4 hb]; rfl
set_option maxHeartbeats 1000000 in
theorem i_State {b : Nat} {R : Rr} {M : Mm} (hb : At shC NN b (.inl 5)) (hR : R b = zr) (hM : M b = z0) (hB : RB shC b R M) : MSo shC yX6_init cX6_init 1 none 2 b (b + 4) R [vr b] M (QN (MD shC RRC (fun _ => z0) b (b + 4) R M)) := by
  refine MSo_ofK (by decide +kernel) (Nat.le_of_ble_eq_true rfl) fun K h => ?_
  have h1 := hb.2.1
  have hD : MDp shC RRC (fun _ => z0) b b R M zr z0 R M := MDp.start (by omega) hR hM hB
  show K b R 0 [(0, vr b)] [] M
  refine r_aloadn h (q := 0) 0 rfl (by decide +kernel : decode cX6_init 0 = .ok (.aload_n 0, 1)) ?_
  refine r_objInit h kO_State (by decide) (by decide) (by decide +kernel : decode cX6_init 1 = .ok (.invokespecial 3, 3)) ?_
  refine r_aloadn h (q := 0) 0 rfl (by decide +kernel : decode cX6_init 4 = .ok (.aload_n 0, 1)) ?_
  refine r_bipush h (v := 7) (by decide) (by decide +kernel : decode cX6_init 5 = .ok (.bipush 7, 2)) ?_
  refine q_newI h hD (N := 7) (b + 1) rfl ka_int (at_5_0 hb).1 rfl (by decide) (by omega) ⟨by omega, trivial⟩ ⟨by omega, trivial⟩ (by decide +kernel : decode cX6_init 7 = .ok (.newarray .int, 2)) (fun R M hD _ => ?_)
  refine q_putR h hD (r := (b + 1)) (st := .array .int) (Or.inr ⟨_, rfl⟩) (by omega) (by omega) f_State_9 ⟨hb.1, hb.2.1, by omega⟩ rfl rfl rfl rfl (by decide +kernel : decode cX6_init 9 = .ok (.putfield 9, 3)) (fun R hD _ => ?_)
  refine r_aloadn h (q := 0) 0 rfl (by decide +kernel : decode cX6_init 12 = .ok (.aload_n 0, 1)) ?_
  refine r_bipush h (v := 7) (by decide) (by decide +kernel : decode cX6_init 13 = .ok (.bipush 7, 2)) ?_
  refine q_newI h hD (N := 7) (b + 2) rfl ka_int (at_5_1 hb).1 rfl (by decide) (by omega) ⟨by omega, trivial⟩ ⟨by omega, trivial⟩ (by decide +kernel : decode cX6_init 15 = .ok (.newarray .int, 2)) (fun R M hD _ => ?_)
  refine q_putR h hD (r := (b + 2)) (st := .array .int) (Or.inr ⟨_, rfl⟩) (by omega) (by omega) f_State_15 ⟨hb.1, hb.2.1, by omega⟩ rfl rfl rfl rfl (by decide +kernel : decode cX6_init 17 = .ok (.putfield 15, 3)) (fun R hD _ => ?_)
  refine r_aloadn h (q := 0) 0 rfl (by decide +kernel : decode cX6_init 20 = .ok (.aload_n 0, 1)) ?_
  refine r_bipush h (v := 7) (by decide) (by decide +kernel : decode cX6_init 21 = .ok (.bipush 7, 2)) ?_
  refine q_newI h hD (N := 7) (b + 3) rfl ka_int (at_5_2 hb).1 rfl (by decide) (by omega) ⟨by omega, trivial⟩ ⟨by omega, trivial⟩ (by decide +kernel : decode cX6_init 23 = .ok (.newarray .int, 2)) (fun R M hD _ => ?_)
  refine q_putR h hD (r := (b + 3)) (st := .array .int) (Or.inr ⟨_, rfl⟩) (by omega) (by omega) f_State_18 ⟨hb.1, hb.2.1, by omega⟩ rfl rfl rfl rfl (by decide +kernel : decode cX6_init 25 = .ok (.putfield 18, 3)) (fun R hD _ => ?_)
  refine r_aloadn h (q := 0) 0 rfl (by decide +kernel : decode cX6_init 28 = .ok (.aload_n 0, 1)) ?_
  refine r_bipush h (v := 7) (by decide) (by decide +kernel : decode cX6_init 29 = .ok (.bipush 7, 2)) ?_
  refine q_newI h hD (N := 7) (b + 4) rfl ka_int (at_5_3 hb).1 rfl (by decide) (by omega) ⟨by omega, trivial⟩ ⟨by omega, trivial⟩ (by decide +kernel : decode cX6_init 31 = .ok (.newarray .int, 2)) (fun R M hD _ => ?_)
  refine q_putR h hD (r := (b + 4)) (st := .array .int) (Or.inr ⟨_, rfl⟩) (by omega) (by omega) f_State_21 ⟨hb.1, hb.2.1, by omega⟩ rfl rfl rfl rfl (by decide +kernel : decode cX6_init 33 = .ok (.putfield 21, 3)) (fun R hD _ => ?_)
  refine r_vret h rfl (by decide +kernel : decode cX6_init 36 = .ok (.return_, 1)) rfl ⟨rfl, hD.done (fun ci9 e9 k9 hk9 => ?_) rfl⟩
  rw [hb.1] at e9
  cases e9
  rcases k2_5 k9 (List.getElem?_eq_some_iff.mp hk9).1 hk9 with rfl | rfl | rfl | rfl
  · rw [rr_5_0 hb]; rfl
  · rw [rr_5_1 hb]; rfl
  · rw [rr_5_2 hb]; rfl
  · rw [rr_5_3 hb]; rfl
set_option maxHeartbeats 1000000 in
theorem i_Years {b : Nat} {R : Rr} {M : Mm} (hb : At shC NN b (.inl 8)) (hR : R b = zr) (hM : M b = z0) (hB : RB shC b R M) : MSo shC yX10_init cX10_init 1 none 2 b (b + 3) R [vr b] M (QN (MD shC RRC (fun _ => z0) b (b + 3) R M)) := by
  refine MSo_ofK (by decide +kernel) (Nat.le_of_ble_eq_true rfl) fun K h => ?_
  have h1 := hb.2.1
  have hD : MDp shC RRC (fun _ => z0) b b R M zr z0 R M := MDp.start (by omega) hR hM hB
  show K b R 0 [(0, vr b)] [] M
  refine r_aloadn h (q := 0) 0 rfl (by decide +kernel : decode cX10_init 0 = .ok (.aload_n 0, 1)) ?_
  refine r_objInit h kO_Years (by decide) (by decide) (by decide +kernel : decode cX10_init 1 = .ok (.invokespecial 3, 3)) ?_
  refine r_aloadn h (q := 0) 0 rfl (by decide +kernel : decode cX10_init 4 = .ok (.aload_n 0, 1)) ?_
  refine r_bipush h (v := 40) (by decide) (by decide +kernel : decode cX10_init 5 = .ok (.bipush 40, 2)) ?_
  refine q_newI h hD (N := 40) (b + 1) rfl ka_int (at_8_0 hb).1 rfl (by decide) (by omega) ⟨by omega, trivial⟩ ⟨by omega, trivial⟩ (by decide +kernel : decode cX10_init 7 = .ok (.newarray .int, 2)) (fun R M hD _ => ?_)
  refine q_putR h hD (r := (b + 1)) (st := .array .int) (Or.inr ⟨_, rfl⟩) (by omega) (by omega) f_Years_11 ⟨hb.1, hb.2.1, by omega⟩ rfl rfl rfl rfl (by decide +kernel : decode cX10_init 9 = .ok (.putfield 11, 3)) (fun R hD _ => ?_)
  refine r_aloadn h (q := 0) 0 rfl (by decide +kernel : decode cX10_init 12 = .ok (.aload_n 0, 1)) ?_
  refine r_bipush h (v := 40) (by decide) (by decide +kernel : decode cX10_init 13 = .ok (.bipush 40, 2)) ?_
  refine q_newI h hD (N := 40) (b + 2) rfl ka_int (at_8_1 hb).1 rfl (by decide) (by omega) ⟨by omega, trivial⟩ ⟨by omega, trivial⟩ (by decide +kernel : decode cX10_init 15 = .ok (.newarray .int, 2)) (fun R M hD _ => ?_)
  refine q_putR h hD (r := (b + 2)) (st := .array .int) (Or.inr ⟨_, rfl⟩) (by omega) (by omega) f_Years_15 ⟨hb.1, hb.2.1, by omega⟩ rfl rfl rfl rfl (by decide +kernel : decode cX10_init 17 = .ok (.putfield 15, 3)) (fun R hD _ => ?_)
  refine r_aloadn h (q := 0) 0 rfl (by decide +kernel : decode cX10_init 20 = .ok (.aload_n 0, 1)) ?_
  refine r_bipush h (v := 40) (by decide) (by decide +kernel : decode cX10_init 21 = .ok (.bipush 40, 2)) ?_
  refine q_newI h hD (N := 40) (b + 3) rfl ka_int (at_8_2 hb).1 rfl (by decide) (by omega) ⟨by omega, trivial⟩ ⟨by omega, trivial⟩ (by decide +kernel : decode cX10_init 23 = .ok (.newarray .int, 2)) (fun R M hD _ => ?_)
  refine q_putR h hD (r := (b + 3)) (st := .array .int) (Or.inr ⟨_, rfl⟩) (by omega) (by omega) f_Years_18 ⟨hb.1, hb.2.1, by omega⟩ rfl rfl rfl rfl (by decide +kernel : decode cX10_init 25 = .ok (.putfield 18, 3)) (fun R hD _ => ?_)
  refine r_vret h rfl (by decide +kernel : decode cX10_init 28 = .ok (.return_, 1)) rfl ⟨rfl, hD.done (fun ci9 e9 k9 hk9 => ?_) rfl⟩
  rw [hb.1] at e9
  cases e9
  rcases k2_8 k9 (List.getElem?_eq_some_iff.mp hk9).1 hk9 with rfl | rfl | rfl
  · rw [rr_8_0 hb]; rfl
  · rw [rr_8_1 hb]; rfl
  · rw [rr_8_2 hb]; rfl
set_option maxHeartbeats 1000000 in
theorem i_Rows {b : Nat} {R : Rr} {M : Mm} (hb : At shC NN b (.inl 2)) (hR : R b = zr) (hM : M b = z0) (hB : RB shC b R M) : MSo shC yX3_init cX3_init 1 none 2 b (b + 6) R [vr b] M (QN (MD shC RRC (fun _ => z0) b (b + 6) R M)) := by
  refine MSo_ofK (by decide +kernel) (Nat.le_of_ble_eq_true rfl) fun K h => ?_
  have h1 := hb.2.1
  have hD : MDp shC RRC (fun _ => z0) b b R M zr z0 R M := MDp.start (by omega) hR hM hB
  show K b R 0 [(0, vr b)] [] M
  refine r_aloadn h (q := 0) 0 rfl (by decide +kernel : decode cX3_init 0 = .ok (.aload_n 0, 1)) ?_
  refine r_objInit h kO_Rows (by decide) (by decide) (by decide +kernel : decode cX3_init 1 = .ok (.invokespecial 3, 3)) ?_
  refine r_aloadn h (q := 0) 0 rfl (by decide +kernel : decode cX3_init 4 = .ok (.aload_n 0, 1)) ?_
  refine r_bipush h (v := 7) (by decide) (by decide +kernel : decode cX3_init 5 = .ok (.bipush 7, 2)) ?_
  refine q_newI h hD (N := 7) (b + 1) rfl ka_int (at_2_0 hb).1 rfl (by decide) (by omega) ⟨by omega, trivial⟩ ⟨by omega, trivial⟩ (by decide +kernel : decode cX3_init 7 = .ok (.newarray .int, 2)) (fun R M hD _ => ?_)
  refine q_putR h hD (r := (b + 1)) (st := .array .int) (Or.inr ⟨_, rfl⟩) (by omega) (by omega) f_Rows_9 ⟨hb.1, hb.2.1, by omega⟩ rfl rfl rfl rfl (by decide +kernel : decode cX3_init 9 = .ok (.putfield 9, 3)) (fun R hD _ => ?_)
  refine r_aloadn h (q := 0) 0 rfl (by decide +kernel : decode cX3_init 12 = .ok (.aload_n 0, 1)) ?_
  refine r_bipush h (v := 56) (by decide) (by decide +kernel : decode cX3_init 13 = .ok (.bipush 56, 2)) ?_
  refine q_newI h hD (N := 56) (b + 2) rfl ka_int (at_2_2 hb).1 rfl (by decide) (by omega) ⟨by omega, trivial⟩ ⟨by omega, trivial⟩ (by decide +kernel : decode cX3_init 15 = .ok (.newarray .int, 2)) (fun R M hD _ => ?_)
  refine q_putR h hD (r := (b + 2)) (st := .array .int) (Or.inr ⟨_, rfl⟩) (by omega) (by omega) f_Rows_15 ⟨hb.1, hb.2.1, by omega⟩ rfl rfl rfl rfl (by decide +kernel : decode cX3_init 17 = .ok (.putfield 15, 3)) (fun R hD _ => ?_)
  refine r_aloadn h (q := 0) 0 rfl (by decide +kernel : decode cX3_init 20 = .ok (.aload_n 0, 1)) ?_
  refine r_sipush h (v := 1024) (by decide) (by decide +kernel : decode cX3_init 21 = .ok (.sipush 1024, 3)) ?_
  refine q_newI h hD (N := 1024) (b + 3) rfl ka_int (at_2_3 hb).1 rfl (by decide) (by omega) ⟨by omega, trivial⟩ ⟨by omega, trivial⟩ (by decide +kernel : decode cX3_init 24 = .ok (.newarray .int, 2)) (fun R M hD _ => ?_)
  refine q_putR h hD (r := (b + 3)) (st := .array .int) (Or.inr ⟨_, rfl⟩) (by omega) (by omega) f_Rows_18 ⟨hb.1, hb.2.1, by omega⟩ rfl rfl rfl rfl (by decide +kernel : decode cX3_init 26 = .ok (.putfield 18, 3)) (fun R hD _ => ?_)
  refine r_aloadn h (q := 0) 0 rfl (by decide +kernel : decode cX3_init 29 = .ok (.aload_n 0, 1)) ?_
  refine r_sipush h (v := 128) (by decide) (by decide +kernel : decode cX3_init 30 = .ok (.sipush 128, 3)) ?_
  refine q_newI h hD (N := 128) (b + 4) rfl ka_int (at_2_4 hb).1 rfl (by decide) (by omega) ⟨by omega, trivial⟩ ⟨by omega, trivial⟩ (by decide +kernel : decode cX3_init 33 = .ok (.newarray .int, 2)) (fun R M hD _ => ?_)
  refine q_putR h hD (r := (b + 4)) (st := .array .int) (Or.inr ⟨_, rfl⟩) (by omega) (by omega) f_Rows_21 ⟨hb.1, hb.2.1, by omega⟩ rfl rfl rfl rfl (by decide +kernel : decode cX3_init 35 = .ok (.putfield 21, 3)) (fun R hD _ => ?_)
  refine r_aloadn h (q := 0) 0 rfl (by decide +kernel : decode cX3_init 38 = .ok (.aload_n 0, 1)) ?_
  refine r_sipush h (v := 128) (by decide) (by decide +kernel : decode cX3_init 39 = .ok (.sipush 128, 3)) ?_
  refine q_newI h hD (N := 128) (b + 5) rfl ka_int (at_2_5 hb).1 rfl (by decide) (by omega) ⟨by omega, trivial⟩ ⟨by omega, trivial⟩ (by decide +kernel : decode cX3_init 42 = .ok (.newarray .int, 2)) (fun R M hD _ => ?_)
  refine q_putR h hD (r := (b + 5)) (st := .array .int) (Or.inr ⟨_, rfl⟩) (by omega) (by omega) f_Rows_24 ⟨hb.1, hb.2.1, by omega⟩ rfl rfl rfl rfl (by decide +kernel : decode cX3_init 44 = .ok (.putfield 24, 3)) (fun R hD _ => ?_)
  refine r_aloadn h (q := 0) 0 rfl (by decide +kernel : decode cX3_init 47 = .ok (.aload_n 0, 1)) ?_
  refine r_bipush h (v := 7) (by decide) (by decide +kernel : decode cX3_init 48 = .ok (.bipush 7, 2)) ?_
  refine q_newI h hD (N := 7) (b + 6) rfl ka_int (at_2_6 hb).1 rfl (by decide) (by omega) ⟨by omega, trivial⟩ ⟨by omega, trivial⟩ (by decide +kernel : decode cX3_init 50 = .ok (.newarray .int, 2)) (fun R M hD _ => ?_)
  refine q_putR h hD (r := (b + 6)) (st := .array .int) (Or.inr ⟨_, rfl⟩) (by omega) (by omega) f_Rows_27 ⟨hb.1, hb.2.1, by omega⟩ rfl rfl rfl rfl (by decide +kernel : decode cX3_init 52 = .ok (.putfield 27, 3)) (fun R hD _ => ?_)
  refine r_vret h rfl (by decide +kernel : decode cX3_init 55 = .ok (.return_, 1)) rfl ⟨rfl, hD.done (fun ci9 e9 k9 hk9 => ?_) rfl⟩
  rw [hb.1] at e9
  cases e9
  rcases k2_2 k9 (List.getElem?_eq_some_iff.mp hk9).1 hk9 with rfl | rfl | rfl | rfl | rfl | rfl
  · rw [rr_2_0 hb]; rfl
  · rw [rr_2_2 hb]; rfl
  · rw [rr_2_3 hb]; rfl
  · rw [rr_2_4 hb]; rfl
  · rw [rr_2_5 hb]; rfl
  · rw [rr_2_6 hb]; rfl
set_option maxHeartbeats 1000000 in
theorem i_Law {b : Nat} {R : Rr} {M : Mm} {x1 : Int} (hx1 : x1 = 0 ∨ x1 = 1) (hb : At shC NN b (.inl 0)) (hR : R b = zr) (hM : M b = z0) (hB : RB shC b R M) : MSg shC yX1_init cX1_init 2 none 2 b (b + 2) R [vr b, vi x1] M (QN (MD shC RRC (fun c => if c = b then up1 z0 0 x1 else z0) b (b + 2) R M)) := by
  refine MSg_of (by decide +kernel) (Nat.le_of_ble_eq_true rfl) fun K h => ?_
  have h1 := hb.2.1
  have hD : MDp shC RRC (fun c => if c = b then up1 z0 0 x1 else z0) b b R M zr z0 R M := MDp.start (by omega) hR hM hB
  show K b R 0 [(0, vr b), (1, vi x1)] [] M
  refine r_aloadn h (q := 0) 0 rfl (by decide +kernel : decode cX1_init 0 = .ok (.aload_n 0, 1)) ?_
  refine r_objInit h kO_Law (by decide) (by decide) (by decide +kernel : decode cX1_init 1 = .ok (.invokespecial 5, 3)) ?_
  refine r_aloadn h (q := 0) 0 rfl (by decide +kernel : decode cX1_init 4 = .ok (.aload_n 0, 1)) ?_
  refine r_sipush h (v := 1000) (by decide) (by decide +kernel : decode cX1_init 5 = .ok (.sipush 1000, 3)) ?_
  refine q_newI h hD (N := 1000) (b + 1) rfl ka_int (at_0_1 hb).1 (if_neg (by omega)) (by decide) (by omega) ⟨by omega, trivial⟩ ⟨by omega, trivial⟩ (by decide +kernel : decode cX1_init 8 = .ok (.newarray .int, 2)) (fun R M hD _ => ?_)
  refine q_putR h hD (r := (b + 1)) (st := .array .int) (Or.inr ⟨_, rfl⟩) (by omega) (by omega) f_Law_11 ⟨hb.1, hb.2.1, by omega⟩ rfl rfl rfl rfl (by decide +kernel : decode cX1_init 10 = .ok (.putfield 11, 3)) (fun R hD _ => ?_)
  refine r_aloadn h (q := 0) 0 rfl (by decide +kernel : decode cX1_init 13 = .ok (.aload_n 0, 1)) ?_
  refine r_bipush h (v := 24) (by decide) (by decide +kernel : decode cX1_init 14 = .ok (.bipush 24, 2)) ?_
  refine q_newI h hD (N := 24) (b + 2) rfl ka_int (at_0_2 hb).1 (if_neg (by omega)) (by decide) (by omega) ⟨by omega, trivial⟩ ⟨by omega, trivial⟩ (by decide +kernel : decode cX1_init 16 = .ok (.newarray .int, 2)) (fun R M hD _ => ?_)
  refine q_putR h hD (r := (b + 2)) (st := .array .int) (Or.inr ⟨_, rfl⟩) (by omega) (by omega) f_Law_15 ⟨hb.1, hb.2.1, by omega⟩ rfl rfl rfl rfl (by decide +kernel : decode cX1_init 18 = .ok (.putfield 15, 3)) (fun R hD _ => ?_)
  refine r_aloadn h (q := 0) 0 rfl (by decide +kernel : decode cX1_init 21 = .ok (.aload_n 0, 1)) ?_
  refine r_iloadn h (q := 1) 1 rfl (by decide +kernel : decode cX1_init 22 = .ok (.iload_n 1, 1)) ?_
  refine r_putZF h hx1 f_Law_18 ⟨hb.1, hb.2.1, by omega⟩ rfl rfl rfl rfl (by decide +kernel : decode cX1_init 23 = .ok (.putfield 18, 3)) ?_
  have hD := hD.putI (k := 0) (v := x1) (Or.inr (fun ci9 e9 => by rw [hb.1] at e9; cases e9; decide))
  revert hD
  generalize upr M b (up1 (M b) 0 x1) = M
  intro hD
  refine r_vret h rfl (by decide +kernel : decode cX1_init 26 = .ok (.return_, 1)) rfl ⟨rfl, hD.done (fun ci9 e9 k9 hk9 => ?_) (if_pos rfl).symm⟩
  rw [hb.1] at e9
  cases e9
  rcases k2_0 k9 (List.getElem?_eq_some_iff.mp hk9).1 hk9 with rfl | rfl
  · rw [rr_0_1 hb]; rfl
  · rw [rr_0_2 hb]; rfl
set_option maxHeartbeats 1000000 in
theorem i_Tape {b : Nat} {R : Rr} {M : Mm} (hb : At shC NN b (.inl 6)) (hR : R b = zr) (hM : M b = z0) (hB : RB shC b R M) : MSo shC yX7_init cX7_init 1 none 2 b (b + 1) R [vr b] M (QN (MD shC RRC (fun c => if c = b then up1 z0 6 (((0 : Nat) : Int) + 1) else z0) b (b + 1) R M)) := by
  refine MSo_ofK (by decide +kernel) (Nat.le_of_ble_eq_true rfl) fun K h => ?_
  have h1 := hb.2.1
  have hD : MDp shC RRC (fun c => if c = b then up1 z0 6 (((0 : Nat) : Int) + 1) else z0) b b R M zr z0 R M := MDp.start (by omega) hR hM hB
  show K b R 0 [(0, vr b)] [] M
  refine r_aloadn h (q := 0) 0 rfl (by decide +kernel : decode cX7_init 0 = .ok (.aload_n 0, 1)) ?_
  refine r_objInit h kO_Tape (by decide) (by decide) (by decide +kernel : decode cX7_init 1 = .ok (.invokespecial 3, 3)) ?_
  refine r_aloadn h (q := 0) 0 rfl (by decide +kernel : decode cX7_init 4 = .ok (.aload_n 0, 1)) ?_
  refine r_sipush h (v := 1000) (by decide) (by decide +kernel : decode cX7_init 5 = .ok (.sipush 1000, 3)) ?_
  refine q_newB h hD (N := 1000) (b + 1) rfl ka_byte (at_6_0 hb).1 (if_neg (by omega)) (by decide) (by omega) ⟨by omega, trivial⟩ ⟨by omega, trivial⟩ (by decide +kernel : decode cX7_init 8 = .ok (.newarray .byte, 2)) (fun R M hD _ => ?_)
  refine q_putR h hD (r := (b + 1)) (st := .array .byte) (Or.inr ⟨_, rfl⟩) (by omega) (by omega) f_Tape_9 ⟨hb.1, hb.2.1, by omega⟩ rfl rfl rfl rfl (by decide +kernel : decode cX7_init 10 = .ok (.putfield 9, 3)) (fun R hD _ => ?_)
  refine r_aloadn h (q := 0) 0 rfl (by decide +kernel : decode cX7_init 13 = .ok (.aload_n 0, 1)) ?_
  refine r_getS h zF_0 rfl (inT1 41 rfl rfl) (by decide +kernel : decode cX7_init 14 = .ok (.getstatic 15, 3)) ?_
  refine r_putE h (r := 0) f_Tape_21 ⟨hb.1, hb.2.1, by omega⟩ rfl rfl (by decide +kernel : decode cX7_init 17 = .ok (.putfield 21, 3)) ?_
  have hD := hD.putI (k := 6) (v := (((0 : Nat) : Int) + 1)) (Or.inr (fun ci9 e9 => by rw [hb.1] at e9; cases e9; decide))
  revert hD
  generalize upr M b (up1 (M b) 6 (((0 : Nat) : Int) + 1)) = M
  intro hD
  refine r_vret h rfl (by decide +kernel : decode cX7_init 20 = .ok (.return_, 1)) rfl ⟨rfl, hD.done (fun ci9 e9 k9 hk9 => ?_) (if_pos rfl).symm⟩
  rw [hb.1] at e9
  cases e9
  rcases k2_6 k9 (List.getElem?_eq_some_iff.mp hk9).1 hk9 with rfl
  · rw [rr_6_0 hb]; rfl
set_option maxHeartbeats 1000000 in
theorem i_Standing {b : Nat} {R : Rr} {M : Mm} (hb : At shC NN b (.inl 4)) (hR : R b = zr) (hM : M b = z0) (hB : RB shC b R M) : MSo shC yX5_init cX5_init 1 none 3 b (b + 11) R [vr b] M (QN (MD shC RRC (fun c => if c = b then up1 z0 5 (-1) else z0) b (b + 11) R M)) := by
  refine MSo_of (by decide +kernel) (Nat.le_of_ble_eq_true rfl) fun K hO => ?_
  have h := hO.ek
  have h1 := hb.2.1
  have hD : MDp shC RRC (fun c => if c = b then up1 z0 5 (-1) else z0) b b R M zr z0 R M := MDp.start (by omega) hR hM hB
  show K b R 0 [(0, vr b)] [] M
  refine r_aloadn h (q := 0) 0 rfl (by decide +kernel : decode cX5_init 0 = .ok (.aload_n 0, 1)) ?_
  refine r_objInit h kO_Standing (by decide) (by decide) (by decide +kernel : decode cX5_init 1 = .ok (.invokespecial 3, 3)) ?_
  refine r_aloadn h (q := 0) 0 rfl (by decide +kernel : decode cX5_init 4 = .ok (.aload_n 0, 1)) ?_
  refine r_new h hD.2.2.2.1 kN_Standing_9 (show shC (b + 1) = _ from (at_4_0 hb).1) (by omega) ⟨by omega, trivial⟩ ⟨by omega, trivial⟩ (by decide +kernel : decode cX5_init 5 = .ok (.new 9, 3)) (fun hB2 => ?_)
  refine r_dup h rfl (by decide +kernel : decode cX5_init 8 = .ok (.dup, 1)) ?_
  refine q_initN hO hD (b + 5) (as := []) (i_State (at_4_0 hb : At shC NN (b + 1) (.inl 5)) upr_at upr_at hB2) kI_Standing_11 (by decide) (by omega) (by omega) rfl (fun c hc1 hc2 => ((if_neg (by omega))).symm) rfl ⟨by omega, trivial⟩ ⟨by omega, by omega, trivial⟩ (Nat.le_of_ble_eq_true rfl) (by decide +kernel : decode cX5_init 9 = .ok (.invokespecial 11, 3)) (fun R M hD _ => ?_)
  refine q_putR h hD (r := (b + 1)) (st := .object "MangleTown$State") (Or.inl ⟨_, rfl⟩) (by omega) (by omega) f_Standing_12 ⟨hb.1, hb.2.1, by omega⟩ rfl rfl rfl rfl (by decide +kernel : decode cX5_init 12 = .ok (.putfield 12, 3)) (fun R hD _ => ?_)
  refine r_aloadn h (q := 0) 0 rfl (by decide +kernel : decode cX5_init 15 = .ok (.aload_n 0, 1)) ?_
  refine r_new h hD.2.2.2.1 kN_Standing_18 (show shC ((b + 5) + 1) = _ from (at_4_1 hb).1) (by omega) ⟨by omega, trivial⟩ ⟨by omega, trivial⟩ (by decide +kernel : decode cX5_init 16 = .ok (.new 18, 3)) (fun hB2 => ?_)
  refine r_dup h rfl (by decide +kernel : decode cX5_init 19 = .ok (.dup, 1)) ?_
  refine q_initN hO hD (b + 9) (as := []) (i_Years (at_4_1 hb : At shC NN ((b + 5) + 1) (.inl 8)) upr_at upr_at hB2) kI_Standing_20 (by decide) (by omega) (by omega) rfl (fun c hc1 hc2 => ((if_neg (by omega))).symm) rfl ⟨by omega, trivial⟩ ⟨by omega, by omega, trivial⟩ (Nat.le_of_ble_eq_true rfl) (by decide +kernel : decode cX5_init 20 = .ok (.invokespecial 20, 3)) (fun R M hD _ => ?_)
  refine q_putR h hD (r := (b + 6)) (st := .object "MangleTown$Years") (Or.inl ⟨_, rfl⟩) (by omega) (by omega) f_Standing_21 ⟨hb.1, hb.2.1, by omega⟩ rfl rfl rfl rfl (by decide +kernel : decode cX5_init 23 = .ok (.putfield 21, 3)) (fun R hD _ => ?_)
  refine r_aloadn h (q := 0) 0 rfl (by decide +kernel : decode cX5_init 26 = .ok (.aload_n 0, 1)) ?_
  refine r_bipush h (v := 8) (by decide) (by decide +kernel : decode cX5_init 27 = .ok (.bipush 8, 2)) ?_
  refine q_newI h hD (N := 8) (b + 10) rfl ka_int (at_4_2 hb).1 (if_neg (by omega)) (by decide) (by omega) ⟨by omega, trivial⟩ ⟨by omega, trivial⟩ (by decide +kernel : decode cX5_init 29 = .ok (.newarray .int, 2)) (fun R M hD _ => ?_)
  refine q_putR h hD (r := (b + 10)) (st := .array .int) (Or.inr ⟨_, rfl⟩) (by omega) (by omega) f_Standing_25 ⟨hb.1, hb.2.1, by omega⟩ rfl rfl rfl rfl (by decide +kernel : decode cX5_init 31 = .ok (.putfield 25, 3)) (fun R hD _ => ?_)
  refine r_aloadn h (q := 0) 0 rfl (by decide +kernel : decode cX5_init 34 = .ok (.aload_n 0, 1)) ?_
  refine r_bipush h (v := 8) (by decide) (by decide +kernel : decode cX5_init 35 = .ok (.bipush 8, 2)) ?_
  refine q_newI h hD (N := 8) (b + 11) rfl ka_int (at_4_3 hb).1 (if_neg (by omega)) (by decide) (by omega) ⟨by omega, trivial⟩ ⟨by omega, trivial⟩ (by decide +kernel : decode cX5_init 37 = .ok (.newarray .int, 2)) (fun R M hD _ => ?_)
  refine q_putR h hD (r := (b + 11)) (st := .array .int) (Or.inr ⟨_, rfl⟩) (by omega) (by omega) f_Standing_29 ⟨hb.1, hb.2.1, by omega⟩ rfl rfl rfl rfl (by decide +kernel : decode cX5_init 39 = .ok (.putfield 29, 3)) (fun R hD _ => ?_)
  refine r_aloadn h (q := 0) 0 rfl (by decide +kernel : decode cX5_init 42 = .ok (.aload_n 0, 1)) ?_
  refine r_iconst h (v := (-1)) (by decide +kernel : decode cX5_init 43 = .ok (.iconst (-1), 1)) ?_
  refine r_putI h f_Standing_32 ⟨hb.1, hb.2.1, by omega⟩ rfl rfl (by decide +kernel : decode cX5_init 44 = .ok (.putfield 32, 3)) ?_
  have hD := hD.putI (k := 5) (v := (-1)) (Or.inr (fun ci9 e9 => by rw [hb.1] at e9; cases e9; decide))
  revert hD
  generalize upr M b (up1 (M b) 5 (-1)) = M
  intro hD
  refine r_vret h rfl (by decide +kernel : decode cX5_init 47 = .ok (.return_, 1)) rfl ⟨rfl, hD.done (fun ci9 e9 k9 hk9 => ?_) (if_pos rfl).symm⟩
  rw [hb.1] at e9
  cases e9
  rcases k2_4 k9 (List.getElem?_eq_some_iff.mp hk9).1 hk9 with rfl | rfl | rfl | rfl
  · rw [rr_4_0 hb]; rfl
  · rw [rr_4_1 hb]; rfl
  · rw [rr_4_2 hb]; rfl
  · rw [rr_4_3 hb]; rfl
