theorem kO_Town : Cond.methodLink "MangleTown$Town" 3 Lib.objectInit ∈ TB ∧ Cond.instanceMethod Lib.objectInit ∈ TB ∧ Cond.code Lib.objectInit ⟨#[0xb1]⟩ 1 none ∈ TB := ⟨(inT1 99 rfl rfl), (inT1 33 rfl rfl), (inT1 34 rfl rfl)⟩
theorem kN_Town_34 : NW "MangleTown$Town" 34 0 := ⟨cin_0, (inT1 100 rfl rfl), (inT1 101 rfl rfl), (inT1 6 rfl rfl), by decide⟩
theorem kI_Town_36 : MLI "MangleTown$Town" 36 yX1_init cX1_init 2 1 := ⟨⟨(inT1 102 rfl rfl), (inT1 6 rfl rfl), (inT1 104 rfl rfl), by decide +kernel, by decide⟩, rfl, (inT1 103 rfl rfl)⟩
theorem mG_Town_46 : MLV "MangleTown$Town" 46 yX8_forgetAll cX8_forgetAll 1 none 0 7 := ⟨⟨(inT1 121 rfl rfl), (inT1 5 rfl rfl), (inT1 124 rfl rfl), by decide +kernel, by decide⟩, (inT1 123 rfl rfl), (inP1 0 rfl), rfl⟩
theorem k2_7 : ∀ k, k < 14 → (kd 7)[k]? = some 2 → k = 0 ∨ k = 1 ∨ k = 2 ∨ k = 3 ∨ k = 4 ∨ k = 5 ∨ k = 6 ∨ k = 7 ∨ k = 8 := by decide
theorem g_forget {n b : Nat} {R : Rr} {M : Mm} {P : Mm → Prop} (hb : At shC n b (.inl 0)) (H : ∀ M1 : Mm, M1 = (upr M b (up1 (M b) 3 0)) → P M1) : MSg shC yX1_forget cX1_forget 1 none 1 n n R [vr b] M (QV R P) := by
  refine MSg_of (by decide +kernel) (Nat.le_of_ble_eq_true rfl) fun K h => ?_
  show K n R 0 [(0, vr b)] [] M
  refine r_aloadn h (q := 0) 0 rfl (by decide +kernel : decode cX1_forget 0 = .ok (.aload_n 0, 1)) ?_
  refine r_iconst h (v := 0) (by decide +kernel : decode cX1_forget 1 = .ok (.iconst 0, 1)) ?_
  refine r_putI h f_Law_22 hb rfl rfl (by decide +kernel : decode cX1_forget 2 = .ok (.putfield 22, 3)) ?_
  have H := H _ rfl
  revert H
  generalize (upr M b (up1 (M b) 3 0)) = M1
  intro H
  exact r_vret h rfl (by decide +kernel : decode cX1_forget 5 = .ok (.return_, 1)) rfl ⟨rfl, rfl, H⟩
set_option maxHeartbeats 4000000 in
theorem g_forgetAll {n b : Nat} {R : Rr} {M : Mm} {P : Mm → Prop} (hb : At shC n b (.inl 7)) (s7 : At shC n (b + 7) (.inr (0, 12))) (s8 : At shC n (b + 8) (.inl 0)) (s11 : At shC n (b + 11) (.inl 0)) (r6 : R b 6 = b + 7) (r7 : R b 7 = b + 8) (r8 : R b 8 = b + 11)
    (H : ∀ M1 : Mm, M1 = (upr M b (up1 (M b) 9 0)) → ∀ M2 : Mm, M2 = (upr M1 b (up1 (M1 b) 10 5)) → ∀ M3 : Mm, M3 = (upr M2 b (up1 (M2 b) 11 3)) → ∀ M4 : Mm, M4 = (upr M3 (b + 7) (up1 (M3 (b + 7)) 0 1)) → ∀ M5 : Mm, M5 = (upr M4 b (up1 (M4 b) 12 1)) → ∃ P6 : Mm → Prop, MSg shC yX1_forget cX1_forget 1 none 1 n n R [vr (b + 8)] M5 (QV R P6) ∧ ∀ M6 : Mm, P6 M6 → ∃ P7 : Mm → Prop, MSg shC yX1_forget cX1_forget 1 none 1 n n R [vr (b + 11)] M6 (QV R P7) ∧ ∀ M7 : Mm, P7 M7 → ∀ M8 : Mm, M8 = (upr M7 b (up1 (M7 b) 13 0)) → P M8) : MSg shC yX8_forgetAll cX8_forgetAll 1 none 2 n n R [vr b] M (QV R P) := by
  refine MSg_of (by decide +kernel) (Nat.le_of_ble_eq_true rfl) fun K h => ?_
  show K n R 0 [(0, vr b)] [] M
  refine r_aloadn h (q := 0) 0 rfl (by decide +kernel : decode cX8_forgetAll 0 = .ok (.aload_n 0, 1)) ?_
  refine r_iconst h (v := 0) (by decide +kernel : decode cX8_forgetAll 1 = .ok (.iconst 0, 1)) ?_
  refine r_putI h f_Town_49 hb rfl rfl (by decide +kernel : decode cX8_forgetAll 2 = .ok (.putfield 49, 3)) ?_
  have H := H _ rfl
  revert H
  generalize (upr M b (up1 (M b) 9 0)) = M1
  intro H
  refine r_aloadn h (q := 0) 0 rfl (by decide +kernel : decode cX8_forgetAll 5 = .ok (.aload_n 0, 1)) ?_
  refine r_iconst h (v := 5) (by decide +kernel : decode cX8_forgetAll 6 = .ok (.iconst 5, 1)) ?_
  refine r_putI h f_Town_53 hb rfl rfl (by decide +kernel : decode cX8_forgetAll 7 = .ok (.putfield 53, 3)) ?_
  have H := H _ rfl
  revert H
  generalize (upr M1 b (up1 (M1 b) 10 5)) = M2
  intro H
  refine r_aloadn h (q := 0) 0 rfl (by decide +kernel : decode cX8_forgetAll 10 = .ok (.aload_n 0, 1)) ?_
  refine r_iconst h (v := 3) (by decide +kernel : decode cX8_forgetAll 11 = .ok (.iconst 3, 1)) ?_
  refine r_putI h f_Town_56 hb rfl rfl (by decide +kernel : decode cX8_forgetAll 12 = .ok (.putfield 56, 3)) ?_
  have H := H _ rfl
  revert H
  generalize (upr M2 b (up1 (M2 b) 11 3)) = M3
  intro H
  refine r_aloadn h (q := 0) 0 rfl (by decide +kernel : decode cX8_forgetAll 15 = .ok (.aload_n 0, 1)) ?_
  refine r_getR h (r := (b + 7)) f_Town_31 hb r6 (by omega) (by decide +kernel : decode cX8_forgetAll 16 = .ok (.getfield 31, 3)) ?_
  refine r_iconst h (v := 0) (by decide +kernel : decode cX8_forgetAll 19 = .ok (.iconst 0, 1)) ?_
  refine r_iconst h (v := 1) (by decide +kernel : decode cX8_forgetAll 20 = .ok (.iconst 1, 1)) ?_
  refine r_iast h 0 rfl s7 (by decide) (by decide) (by decide +kernel : decode cX8_forgetAll 21 = .ok (.iastore, 1)) ?_
  have H := H _ rfl
  revert H
  generalize (upr M3 (b + 7) (up1 (M3 (b + 7)) 0 1)) = M4
  intro H
  refine r_aloadn h (q := 0) 0 rfl (by decide +kernel : decode cX8_forgetAll 22 = .ok (.aload_n 0, 1)) ?_
  refine r_iconst h (v := 1) (by decide +kernel : decode cX8_forgetAll 23 = .ok (.iconst 1, 1)) ?_
  refine r_putI h f_Town_59 hb rfl rfl (by decide +kernel : decode cX8_forgetAll 24 = .ok (.putfield 59, 3)) ?_
  have H := H _ rfl
  revert H
  generalize (upr M4 b (up1 (M4 b) 12 1)) = M5
  intro H
  refine r_aloadn h (q := 0) 0 rfl (by decide +kernel : decode cX8_forgetAll 27 = .ok (.aload_n 0, 1)) ?_
  refine r_getR h (r := (b + 8)) f_Town_39 hb r7 (by omega) (by decide +kernel : decode cX8_forgetAll 28 = .ok (.getfield 39, 3)) ?_
  obtain ⟨P6, hSP6, H⟩ := H
  refine r_callV h (as := []) (S := []) (b := (b + 8)) m_Town_62 hSP6 (by decide) (Nat.le_refl _) rfl s8 rfl (Nat.le_of_ble_eq_true rfl) (by decide +kernel : decode cX8_forgetAll 31 = .ok (.invokevirtual 62, 3)) ?_
  rintro _ R9 M6 ⟨hR9, rfl, hP⟩
  rw [hR9]
  have H := H M6 hP
  show K n R _ _ [] _
  refine r_aloadn h (q := 0) 0 rfl (by decide +kernel : decode cX8_forgetAll 34 = .ok (.aload_n 0, 1)) ?_
  refine r_getR h (r := (b + 11)) f_Town_43 hb r8 (by omega) (by decide +kernel : decode cX8_forgetAll 35 = .ok (.getfield 43, 3)) ?_
  obtain ⟨P7, hSP7, H⟩ := H
  refine r_callV h (as := []) (S := []) (b := (b + 11)) m_Town_62 hSP7 (by decide) (Nat.le_refl _) rfl s11 rfl (Nat.le_of_ble_eq_true rfl) (by decide +kernel : decode cX8_forgetAll 38 = .ok (.invokevirtual 62, 3)) ?_
  rintro _ R9 M7 ⟨hR9, rfl, hP⟩
  rw [hR9]
  have H := H M7 hP
  show K n R _ _ [] _
  refine r_aloadn h (q := 0) 0 rfl (by decide +kernel : decode cX8_forgetAll 41 = .ok (.aload_n 0, 1)) ?_
  refine r_iconst h (v := 0) (by decide +kernel : decode cX8_forgetAll 42 = .ok (.iconst 0, 1)) ?_
  refine r_putI h f_Town_65 hb rfl rfl (by decide +kernel : decode cX8_forgetAll 43 = .ok (.putfield 65, 3)) ?_
  have H := H _ rfl
  revert H
  generalize (upr M7 b (up1 (M7 b) 13 0)) = M8
  intro H
  exact r_vret h rfl (by decide +kernel : decode cX8_forgetAll 46 = .ok (.return_, 1)) rfl ⟨rfl, rfl, H⟩
def GT : Nat → Int := up1 (up1 (up1 z0 10 5) 11 3) 12 1
def MTu (b : Nat) : Mm := fun c => if c = b + 11 then up1 z0 0 1 else z0
def MTT (b : Nat) : Mm := fun c => if c = b then GT else if c = b + 7 then up1 z0 0 1 else if c = b + 11 then up1 z0 0 1 else z0
theorem up1_z {k : Nat} : up1 z0 k 0 = z0 := by
  funext j
  show (if j = k then (0 : Int) else 0) = 0
  split <;> rfl
theorem up1_same {f : Nat → Int} {k : Nat} {v : Int} (h : f k = v) : up1 f k v = f := by
  funext j
  show (if j = k then v else f j) = f j
  split
  · rename_i e; rw [e, h]
  · rfl
theorem RB.memo {sh : Sh} {n : Nat} {R : Rr} {M M' : Mm} (h : RB sh n R M) (e : ∀ c, M' c = M c ∨ ∀ ci, sh c = .inl ci → ∀ k, (kd ci).getD k 0 ≠ 3) : RB sh n R M' := by
  intro c h1 h2 k
  obtain ⟨a, b⟩ := h c h1 h2 k
  refine ⟨a, fun z => ?_⟩
  rcases e c with e | e
  · rw [e]; exact b z
  · obtain ⟨ci, z1, z2⟩ := z
    exact absurd z2 (e ci z1 k)
theorem no3_7 : ∀ k, (kd 7).getD k 0 ≠ 3 := by
  intro k
  by_cases h : k < 14
  · revert k; decide
  · have e : (kd 7)[k]? = none := List.getElem?_eq_none (by show 14 ≤ k; omega)
    simp [List.getD, e]
theorem no3_0 : ∀ k, (kd 0).getD k 0 ≠ 3 := by
  intro k
  by_cases h : k < 4
  · revert k; decide
  · have e : (kd 0)[k]? = none := List.getElem?_eq_none (by show 4 ≤ k; omega)
    simp [List.getD, e]
/-- forgetAll on a Town that is being made -/
theorem g_fresh {n b : Nat} {R : Rr} {M : Mm} (hb : At shC n b (.inl 7)) (s7 : At shC n (b + 7) (.inr (0, 12))) (s8 : At shC n (b + 8) (.inl 0)) (s11 : At shC n (b + 11) (.inl 0)) (r6 : R b 6 = b + 7) (r7 : R b 7 = b + 8) (r8 : R b 8 = b + 11) (hM : M b = z0) (h7 : M (b + 7) = z0) (h8 : M (b + 8) = z0) (h11 : M (b + 11) = up1 z0 0 1) :
    MSg shC yX8_forgetAll cX8_forgetAll 1 none 2 n n R [vr b] M (QV R (fun M' => (∀ c, c ≠ b → c ≠ b + 7 → c ≠ b + 8 → c ≠ b + 11 → M' c = M c) ∧ M' b = GT ∧ M' (b + 7) = up1 z0 0 1 ∧ M' (b + 8) = z0 ∧ M' (b + 11) = up1 z0 0 1)) := by
  refine g_forgetAll hb s7 s8 s11 r6 r7 r8 ?_
  intro M1 e1 M2 e2 M3 e3 M4 e4 M5 e5
  refine ⟨fun M6 => M6 = upr M5 (b + 8) (up1 (M5 (b + 8)) 3 0), g_forget s8 (fun _ h => h), fun M6 e6 => ⟨fun M7 => M7 = upr M6 (b + 11) (up1 (M6 (b + 11)) 3 0), g_forget s11 (fun _ h => h), fun M7 e7 M8 e8 => ?_⟩⟩
  have n1 : b + 7 ≠ b := by omega
  have n2 : b + 8 ≠ b := by omega
  have n3 : b + 11 ≠ b := by omega
  have b1 : M1 b = z0 := by rw [e1, upr_at, hM, up1_z]
  have b2 : M2 b = up1 z0 10 5 := by rw [e2, upr_at, b1]
  have b3 : M3 b = up1 (up1 z0 10 5) 11 3 := by rw [e3, upr_at, b2]
  have b4 : M4 b = M3 b := by rw [e4, ← upr_ne n1.symm]
  have b5 : M5 b = GT := by rw [e5, upr_at, b4, b3]; rfl
  have b6 : M6 b = M5 b := by rw [e6, ← upr_ne n2.symm]
  have b7 : M7 b = M6 b := by rw [e7, ← upr_ne n3.symm]
  have b8 : M8 b = GT := by rw [e8, upr_at, b7, b6, b5]; exact up1_same rfl
  have o : ∀ c, c ≠ b → c ≠ b + 7 → c ≠ b + 8 → c ≠ b + 11 → M8 c = M c := fun c c1 c2 c3 c4 => by
    rw [e8, ← upr_ne c1, e7, ← upr_ne c4, e6, ← upr_ne c3, e5, ← upr_ne c1, e4, ← upr_ne c2, e3, ← upr_ne c1, e2, ← upr_ne c1, e1, ← upr_ne c1]
  have g3 : ∀ c, c ≠ b → M3 c = M c := fun c c1 => by rw [e3, ← upr_ne c1, e2, ← upr_ne c1, e1, ← upr_ne c1]
  refine ⟨o, b8, ?_, ?_, ?_⟩
  · rw [e8, ← upr_ne n1, e7, ← upr_ne (show b + 7 ≠ b + 11 by omega), e6, ← upr_ne (show b + 7 ≠ b + 8 by omega), e5, ← upr_ne n1, e4, upr_at, g3 _ n1, h7]
  · rw [e8, ← upr_ne n2, e7, ← upr_ne (show b + 8 ≠ b + 11 by omega), e6, upr_at, e5, ← upr_ne n2, e4, ← upr_ne (show b + 8 ≠ b + 7 by omega), g3 _ n2, h8, up1_z]
  · rw [e8, ← upr_ne n3, e7, upr_at, e6, ← upr_ne (show b + 11 ≠ b + 8 by omega), e5, ← upr_ne n3, e4, ← upr_ne (show b + 11 ≠ b + 7 by omega), g3 _ n3, h11]
    exact up1_same rfl
set_option maxHeartbeats 2000000 in
theorem i_Town {b : Nat} {R : Rr} {M : Mm} (hb : At shC NN b (.inl 7)) (hR : R b = zr) (hM : M b = z0) (hB : RB shC b R M) : MSg shC yX8_init cX8_init 1 none 3 b (b + 13) R [vr b] M (QN (MD shC RRC (MTT b) b (b + 13) R M)) := by
  refine MSg_of (by decide +kernel) (Nat.le_of_ble_eq_true rfl) fun K h => ?_
  have h1 := hb.2.1
  have hD : MDp shC RRC (MTu b) b b R M zr z0 R M := MDp.start (by omega) hR hM hB
  show K b R 0 [(0, vr b)] [] M
  refine r_aloadn h (q := 0) 0 rfl (by decide +kernel : decode cX8_init 0 = .ok (.aload_n 0, 1)) ?_
  refine r_objInit h kO_Town (by decide) (by decide) (by decide +kernel : decode cX8_init 1 = .ok (.invokespecial 3, 3)) ?_
  refine r_aloadn h (q := 0) 0 rfl (by decide +kernel : decode cX8_init 4 = .ok (.aload_n 0, 1)) ?_
  refine r_bipush h (v := 7) (by decide) (by decide +kernel : decode cX8_init 5 = .ok (.bipush 7, 2)) ?_
  refine q_newL h hD (N := 7) (b + 1) rfl ka_long (at_7_0 hb).1 (if_neg (by omega)) (by decide) (by omega) ⟨by omega, trivial⟩ ⟨by omega, trivial⟩ (by decide +kernel : decode cX8_init 7 = .ok (.newarray .long, 2)) (fun R M hD _ => ?_)
  refine q_putR h hD (r := (b + 1)) (st := .array .long) (Or.inr ⟨_, rfl⟩) (by omega) (by omega) f_Town_9 ⟨hb.1, hb.2.1, by omega⟩ rfl rfl rfl rfl (by decide +kernel : decode cX8_init 9 = .ok (.putfield 9, 3)) (fun R hD _ => ?_)
  refine r_aloadn h (q := 0) 0 rfl (by decide +kernel : decode cX8_init 12 = .ok (.aload_n 0, 1)) ?_
  refine r_bipush h (v := 7) (by decide) (by decide +kernel : decode cX8_init 13 = .ok (.bipush 7, 2)) ?_
  refine q_newI h hD (N := 7) (b + 2) rfl ka_int (at_7_1 hb).1 (if_neg (by omega)) (by decide) (by omega) ⟨by omega, trivial⟩ ⟨by omega, trivial⟩ (by decide +kernel : decode cX8_init 15 = .ok (.newarray .int, 2)) (fun R M hD _ => ?_)
  refine q_putR h hD (r := (b + 2)) (st := .array .int) (Or.inr ⟨_, rfl⟩) (by omega) (by omega) f_Town_15 ⟨hb.1, hb.2.1, by omega⟩ rfl rfl rfl rfl (by decide +kernel : decode cX8_init 17 = .ok (.putfield 15, 3)) (fun R hD _ => ?_)
  refine r_aloadn h (q := 0) 0 rfl (by decide +kernel : decode cX8_init 20 = .ok (.aload_n 0, 1)) ?_
  refine r_bipush h (v := 7) (by decide) (by decide +kernel : decode cX8_init 21 = .ok (.bipush 7, 2)) ?_
  refine q_newI h hD (N := 7) (b + 3) rfl ka_int (at_7_2 hb).1 (if_neg (by omega)) (by decide) (by omega) ⟨by omega, trivial⟩ ⟨by omega, trivial⟩ (by decide +kernel : decode cX8_init 23 = .ok (.newarray .int, 2)) (fun R M hD _ => ?_)
  refine q_putR h hD (r := (b + 3)) (st := .array .int) (Or.inr ⟨_, rfl⟩) (by omega) (by omega) f_Town_19 ⟨hb.1, hb.2.1, by omega⟩ rfl rfl rfl rfl (by decide +kernel : decode cX8_init 25 = .ok (.putfield 19, 3)) (fun R hD _ => ?_)
  refine r_aloadn h (q := 0) 0 rfl (by decide +kernel : decode cX8_init 28 = .ok (.aload_n 0, 1)) ?_
  refine r_bipush h (v := 7) (by decide) (by decide +kernel : decode cX8_init 29 = .ok (.bipush 7, 2)) ?_
  refine q_newI h hD (N := 7) (b + 4) rfl ka_int (at_7_3 hb).1 (if_neg (by omega)) (by decide) (by omega) ⟨by omega, trivial⟩ ⟨by omega, trivial⟩ (by decide +kernel : decode cX8_init 31 = .ok (.newarray .int, 2)) (fun R M hD _ => ?_)
  refine q_putR h hD (r := (b + 4)) (st := .array .int) (Or.inr ⟨_, rfl⟩) (by omega) (by omega) f_Town_22 ⟨hb.1, hb.2.1, by omega⟩ rfl rfl rfl rfl (by decide +kernel : decode cX8_init 33 = .ok (.putfield 22, 3)) (fun R hD _ => ?_)
  refine r_aloadn h (q := 0) 0 rfl (by decide +kernel : decode cX8_init 36 = .ok (.aload_n 0, 1)) ?_
  refine r_bipush h (v := 7) (by decide) (by decide +kernel : decode cX8_init 37 = .ok (.bipush 7, 2)) ?_
  refine q_newI h hD (N := 7) (b + 5) rfl ka_int (at_7_4 hb).1 (if_neg (by omega)) (by decide) (by omega) ⟨by omega, trivial⟩ ⟨by omega, trivial⟩ (by decide +kernel : decode cX8_init 39 = .ok (.newarray .int, 2)) (fun R M hD _ => ?_)
  refine q_putR h hD (r := (b + 5)) (st := .array .int) (Or.inr ⟨_, rfl⟩) (by omega) (by omega) f_Town_25 ⟨hb.1, hb.2.1, by omega⟩ rfl rfl rfl rfl (by decide +kernel : decode cX8_init 41 = .ok (.putfield 25, 3)) (fun R hD _ => ?_)
  refine r_aloadn h (q := 0) 0 rfl (by decide +kernel : decode cX8_init 44 = .ok (.aload_n 0, 1)) ?_
  refine r_bipush h (v := 7) (by decide) (by decide +kernel : decode cX8_init 45 = .ok (.bipush 7, 2)) ?_
  refine q_newI h hD (N := 7) (b + 6) rfl ka_int (at_7_5 hb).1 (if_neg (by omega)) (by decide) (by omega) ⟨by omega, trivial⟩ ⟨by omega, trivial⟩ (by decide +kernel : decode cX8_init 47 = .ok (.newarray .int, 2)) (fun R M hD _ => ?_)
  refine q_putR h hD (r := (b + 6)) (st := .array .int) (Or.inr ⟨_, rfl⟩) (by omega) (by omega) f_Town_28 ⟨hb.1, hb.2.1, by omega⟩ rfl rfl rfl rfl (by decide +kernel : decode cX8_init 49 = .ok (.putfield 28, 3)) (fun R hD _ => ?_)
  refine r_aloadn h (q := 0) 0 rfl (by decide +kernel : decode cX8_init 52 = .ok (.aload_n 0, 1)) ?_
  refine r_bipush h (v := 12) (by decide) (by decide +kernel : decode cX8_init 53 = .ok (.bipush 12, 2)) ?_
  refine q_newI h hD (N := 12) (b + 7) rfl ka_int (at_7_6 hb).1 (if_neg (by omega)) (by decide) (by omega) ⟨by omega, trivial⟩ ⟨by omega, trivial⟩ (by decide +kernel : decode cX8_init 55 = .ok (.newarray .int, 2)) (fun R M hD _ => ?_)
  refine q_putR h hD (r := (b + 7)) (st := .array .int) (Or.inr ⟨_, rfl⟩) (by omega) (by omega) f_Town_31 ⟨hb.1, hb.2.1, by omega⟩ rfl rfl rfl rfl (by decide +kernel : decode cX8_init 57 = .ok (.putfield 31, 3)) (fun R hD _ => ?_)
  refine r_aloadn h (q := 0) 0 rfl (by decide +kernel : decode cX8_init 60 = .ok (.aload_n 0, 1)) ?_
  refine r_new h hD.2.2.2.1 kN_Town_34 (show shC ((b + 7) + 1) = _ from (at_7_7 hb).1) (by omega) ⟨by omega, trivial⟩ ⟨by omega, trivial⟩ (by decide +kernel : decode cX8_init 61 = .ok (.new 34, 3)) (fun hB2 => ?_)
  refine r_dup h rfl (by decide +kernel : decode cX8_init 64 = .ok (.dup, 1)) ?_
  refine r_iconst h (v := 0) (by decide +kernel : decode cX8_init 65 = .ok (.iconst 0, 1)) ?_
  refine q_init h hD (b + 10) (as := [vi 0]) (i_Law (x1 := 0) (by decide) (at_7_7 hb : At shC NN ((b + 7) + 1) (.inl 0)) upr_at upr_at hB2) kI_Town_36 (by decide) (by omega) (by omega) rfl (by
    intro c hc1 hc2
    show (if c = (b + 7) + 1 then up1 z0 0 0 else z0) = if c = b + 11 then up1 z0 0 1 else z0
    rw [if_neg (show ¬ c = b + 11 by omega), up1_z]
    split <;> rfl) rfl ⟨by omega, trivial⟩ ⟨by omega, by omega, trivial⟩ (Nat.le_of_ble_eq_true rfl) (by decide +kernel : decode cX8_init 66 = .ok (.invokespecial 36, 3)) (fun R M hD _ => ?_)
  refine q_putR h hD (r := (b + 8)) (st := .object "MangleTown$Law") (Or.inl ⟨_, rfl⟩) (by omega) (by omega) f_Town_39 ⟨hb.1, hb.2.1, by omega⟩ rfl rfl rfl rfl (by decide +kernel : decode cX8_init 69 = .ok (.putfield 39, 3)) (fun R hD _ => ?_)
  refine r_aloadn h (q := 0) 0 rfl (by decide +kernel : decode cX8_init 72 = .ok (.aload_n 0, 1)) ?_
  refine r_new h hD.2.2.2.1 kN_Town_34 (show shC ((b + 10) + 1) = _ from (at_7_8 hb).1) (by omega) ⟨by omega, trivial⟩ ⟨by omega, trivial⟩ (by decide +kernel : decode cX8_init 73 = .ok (.new 34, 3)) (fun hB2 => ?_)
  refine r_dup h rfl (by decide +kernel : decode cX8_init 76 = .ok (.dup, 1)) ?_
  refine r_iconst h (v := 1) (by decide +kernel : decode cX8_init 77 = .ok (.iconst 1, 1)) ?_
  refine q_init h hD (b + 13) (as := [vi 1]) (i_Law (x1 := 1) (by decide) (at_7_8 hb : At shC NN ((b + 10) + 1) (.inl 0)) upr_at upr_at hB2) kI_Town_36 (by decide) (by omega) (by omega) rfl (by
    intro c hc1 hc2
    show (if c = (b + 10) + 1 then up1 z0 0 1 else z0) = if c = b + 11 then up1 z0 0 1 else z0
    rfl) rfl ⟨by omega, trivial⟩ ⟨by omega, by omega, trivial⟩ (Nat.le_of_ble_eq_true rfl) (by decide +kernel : decode cX8_init 78 = .ok (.invokespecial 36, 3)) (fun R M hD _ => ?_)
  refine q_putR h hD (r := (b + 11)) (st := .object "MangleTown$Law") (Or.inl ⟨_, rfl⟩) (by omega) (by omega) f_Town_43 ⟨hb.1, hb.2.1, by omega⟩ rfl rfl rfl rfl (by decide +kernel : decode cX8_init 81 = .ok (.putfield 43, 3)) (fun R hD _ => ?_)
  refine r_aloadn h (q := 0) 0 rfl (by decide +kernel : decode cX8_init 84 = .ok (.aload_n 0, 1)) ?_
  obtain ⟨hA, ⟨hF, hG⟩, hE, hB3, hb1, hbn⟩ := id hD
  have l7 := (hE (b + 7) (by omega) (by omega)).2
  have l8 := (hE (b + 8) (by omega) (by omega)).2
  have l11 := (hE (b + 11) (by omega) (by omega)).2
  rw [show MTu b (b + 7) = z0 from if_neg (by omega)] at l7
  rw [show MTu b (b + 8) = z0 from if_neg (by omega)] at l8
  rw [show MTu b (b + 11) = up1 z0 0 1 from if_pos rfl] at l11
  have t7 := at_7_6 hb
  have t8 := at_7_7 hb
  have t11 := at_7_8 hb
  refine r_callV h (as := []) (S := []) (b := b) mG_Town_46 (g_fresh ⟨hb.1, hb.2.1, by omega⟩ ⟨t7.1, t7.2.1, by omega⟩ ⟨t8.1, t8.2.1, by omega⟩ ⟨t11.1, t11.2.1, by omega⟩ (by rw [hF]; rfl) (by rw [hF]; rfl) (by rw [hF]; rfl) hG l7 l8 l11) (by decide) (Nat.le_refl _) rfl ⟨hb.1, hb.2.1, by omega⟩ rfl (Nat.le_of_ble_eq_true rfl) (by decide +kernel : decode cX8_init 85 = .ok (.invokevirtual 46, 3)) ?_
  rintro _ R9 M' ⟨hR9, rfl, o1, o2, o3, o4, o5⟩
  rw [hR9]
  refine r_vret h rfl (by decide +kernel : decode cX8_init 88 = .ok (.return_, 1)) rfl ⟨rfl, fun c hc => ⟨(hA c hc).1, (o1 c (by omega) (by omega) (by omega) (by omega)).trans (hA c hc).2⟩, fun c c1 c2 => ⟨?_, ?_⟩, hB3.memo (fun c => ?_)⟩
  · by_cases e : c = b
    · subst e
      intro ci9 e9 k9 hk9
      rw [hb.1] at e9
      cases e9
      rw [hF]
      rcases k2_7 k9 (List.getElem?_eq_some_iff.mp hk9).1 hk9 with rfl | rfl | rfl | rfl | rfl | rfl | rfl | rfl | rfl
      · rw [rr_7_0 hb]; rfl
      · rw [rr_7_1 hb]; rfl
      · rw [rr_7_2 hb]; rfl
      · rw [rr_7_3 hb]; rfl
      · rw [rr_7_4 hb]; rfl
      · rw [rr_7_5 hb]; rfl
      · rw [rr_7_6 hb]; rfl
      · rw [rr_7_7 hb]; rfl
      · rw [rr_7_8 hb]; rfl
    · exact (hE c (by omega) c2).1
  · show M' c = if c = b then GT else if c = b + 7 then up1 z0 0 1 else if c = b + 11 then up1 z0 0 1 else z0
    by_cases e : c = b
    · rw [if_pos e, e]; exact o2
    by_cases e7 : c = b + 7
    · rw [if_neg e, if_pos e7, e7]; exact o3
    by_cases e11 : c = b + 11
    · rw [if_neg e, if_neg e7, if_pos e11, e11]; exact o5
    rw [if_neg e, if_neg e7, if_neg e11]
    by_cases e8 : c = b + 8
    · rw [e8]; exact o4
    rw [o1 c e e7 e8 e11, (hE c (by omega) c2).2]
    exact if_neg e11
  · by_cases e : c = b
    · subst e; exact Or.inr (fun ci9 e9 k => by rw [hb.1] at e9; cases e9; exact no3_7 k)
    by_cases e7 : c = b + 7
    · subst e7; exact Or.inr (fun ci9 e9 k => by rw [t7.1] at e9; cases e9)
    by_cases e8 : c = b + 8
    · subst e8; exact Or.inr (fun ci9 e9 k => by rw [t8.1] at e9; cases e9; exact no3_0 k)
    by_cases e11 : c = b + 11
    · subst e11; exact Or.inr (fun ci9 e9 k => by rw [t11.1] at e9; cases e9; exact no3_0 k)
    exact Or.inl (o1 c e e7 e8 e11)
