/-! the model's constructor to its end, and the first Sim -/
theorem k2_10 : ∀ k, k < 62 → (kd 10)[k]? = some 2 → FMD k = RRM 1 k := by decide +kernel
def akM (c : Nat) : Bool := match shM c with
  | .inl _ => c == 1
  | .inr q => q.1 != 4 && q.1 != 5
theorem akM_ok0 : ∀ c, c ≤ 45 → (c = 0 ∨ akM c = true) := by decide +kernel
theorem akM_ok (c : Nat) (h1 : 1 ≤ c) (h2 : c ≤ 45) : akM c = true := by
  rcases akM_ok0 c h2 with h | h
  · omega
  · exact h
theorem RQ_M {R : Rr} (h : R 1 = FMD) : RQ shM 45 R RRM := by
  intro c c1 c2
  have hk := akM_ok c c1 c2
  unfold akM at hk
  refine ⟨fun ci e k hk2 => ?_, fun t len e ht j hj => ?_⟩
  · rw [e] at hk
    have hc : c = 1 := by simpa using hk
    subst hc
    have e' : (Sum.inl 10 : Nat ⊕ (Nat × Nat)) = .inl ci := e
    cases e'
    rw [h]
    exact k2_10 k (List.getElem?_eq_some_iff.mp hk2).1 hk2
  · rw [e] at hk
    simp only [Bool.and_eq_true, bne_iff_ne] at hk
    rcases ht with rfl | rfl
    · exact absurd rfl hk.1
    · exact absurd rfl hk.2
theorem RM_0 {N : Mm} (h3 : N 3 = up1 (up1 z0 1 5) 2 3) (h11 : N 11 = z0) (h12 : N 12 = z0) : RM (tD D0) N := by
  refine ⟨⟨by rw [h3]; rfl, by rw [h3]; rfl, Or.inl ⟨by rw [h3]; rfl, rfl, rfl⟩⟩, fun h hh => absurd hh (Nat.not_lt_zero _), ?_, Or.inl ⟨by rw [h11, h12]; exact Int.le_refl _, rfl⟩, Or.inl ⟨by rw [h11, h12]; exact Int.le_refl _, rfl⟩⟩
  rw [h11, h12]
  decide
theorem sD_0 {N : Mm} (h3 : N 3 = up1 (up1 z0 1 5) 2 3) (i : Nat) : st0 (dn D0) N i = sD D0 i := by
  unfold st0 sD
  rw [h3]
  show _ = (if i = 1 then (5 : Int) else if 5 ≤ i ∧ i < 5 + 0 then ((i - 5 : Nat) : Int) else if 12 ≤ i ∧ i < 12 + 0 then (0 : Int) else if 19 ≤ i ∧ i < 19 + 0 then (0 : Int) else 0)
  show (if i = 1 then (5 : Int) else if 5 ≤ i ∧ i < 5 + 0 then ((i - 5 : Nat) : Int) else if 12 ≤ i ∧ i < 12 + 0 then N 6 (i - 12) else if 19 ≤ i ∧ i < 19 + 0 then N 7 (i - 19) else 0) = _
  rw [if_neg (show ¬ (12 ≤ i ∧ i < 12 + 0) by omega), if_neg (show ¬ (12 ≤ i ∧ i < 12 + 0) by omega), if_neg (show ¬ (19 ≤ i ∧ i < 19 + 0) by omega), if_neg (show ¬ (19 ≤ i ∧ i < 19 + 0) by omega)]
set_option maxHeartbeats 2000000 in
set_option maxRecDepth 100000 in
theorem iD_360 {K : Nat → Rr → Nat → List (Nat × AV) → List AV → Mm → Prop} {M : Mm} (h : EK shM yX12_init cX12_init 1 none 8 1 45 (QN (fun R' M' => R' = RRM ∧ AtM D0 M' M')) K) (hz : ∀ c, 1 ≤ c → c ≤ 45 → M c = z0) : K 45 RRM 360 [(0, vr 1)] [] M := by
  refine r_aloadn h (q := 0) 0 rfl (by decide +kernel : decode cX12_init 360 = .ok (.aload_n 0, 1)) ?_
  refine r_getR h (r := 3) f_Mod_13 at1M rfl (by decide) (by decide +kernel : decode cX12_init 361 = .ok (.getfield 13, 3)) ?_
  refine r_iconst h (v := 1) (by decide +kernel : decode cX12_init 364 = .ok (.iconst 1, 1)) ?_
  refine r_iconst h (v := 5) (by decide +kernel : decode cX12_init 365 = .ok (.iconst 5, 1)) ?_
  refine r_iast h 1 rfl atM_3 (by decide) (by decide) (by decide +kernel : decode cX12_init 366 = .ok (.iastore, 1)) ?_
  refine r_aloadn h (q := 0) 0 rfl (by decide +kernel : decode cX12_init 367 = .ok (.aload_n 0, 1)) ?_
  refine r_getR h (r := 3) f_Mod_13 at1M rfl (by decide) (by decide +kernel : decode cX12_init 368 = .ok (.getfield 13, 3)) ?_
  refine r_iconst h (v := 2) (by decide +kernel : decode cX12_init 371 = .ok (.iconst 2, 1)) ?_
  refine r_iconst h (v := 3) (by decide +kernel : decode cX12_init 372 = .ok (.iconst 3, 1)) ?_
  refine r_iast h 2 rfl atM_3 (by decide) (by decide) (by decide +kernel : decode cX12_init 373 = .ok (.iastore, 1)) ?_
  refine r_aloadn h (q := 0) 0 rfl (by decide +kernel : decode cX12_init 374 = .ok (.aload_n 0, 1)) ?_
  refine r_getR h (r := 30) f_Mod_96 at1M rfl (by decide) (by decide +kernel : decode cX12_init 375 = .ok (.getfield 96, 3)) ?_
  refine r_iconst h (v := 0) (by decide +kernel : decode cX12_init 378 = .ok (.iconst 0, 1)) ?_
  refine r_iconst h (v := -1) (by decide +kernel : decode cX12_init 379 = .ok (.iconst (-1), 1)) ?_
  refine r_iast h 0 rfl atM_30 (by decide) (by decide) (by decide +kernel : decode cX12_init 380 = .ok (.iastore, 1)) ?_
  refine r_aloadn h (q := 0) 0 rfl (by decide +kernel : decode cX12_init 381 = .ok (.aload_n 0, 1)) ?_
  show K 45 RRM 382 [(0, vr 1)] [vr 1] (upr (upr (upr M 3 (up1 (M 3) 1 5)) 3 (up1 (upr M 3 (up1 (M 3) 1 5) 3) 2 3)) 30 (up1 (upr (upr M 3 (up1 (M 3) 1 5)) 3 (up1 (upr M 3 (up1 (M 3) 1 5) 3) 2 3) 30) 0 (-1)))
  generalize hN : (upr (upr (upr M 3 (up1 (M 3) 1 5)) 3 (up1 (upr M 3 (up1 (M 3) 1 5) 3) 2 3)) 30 (up1 (upr (upr M 3 (up1 (M 3) 1 5)) 3 (up1 (upr M 3 (up1 (M 3) 1 5) 3) 2 3) 30) 0 (-1))) = N
  have e3 : N 3 = up1 (up1 z0 1 5) 2 3 := by
    rw [← hN, upr_eq, if_neg (by omega), upr_eq, if_pos rfl, upr_eq, if_pos rfl, hz 3 (by omega) (by omega)]
  have e30 : N 30 = up1 z0 0 (-1) := by
    rw [← hN, upr_eq, if_pos rfl, upr_eq, if_neg (by omega), upr_eq, if_neg (by omega), hz 30 (by omega) (by omega)]
  have ez : ∀ c, 1 ≤ c → c ≤ 45 → c ≠ 3 → c ≠ 30 → N c = z0 := fun c c1 c2 c3 c4 => by
    rw [← hN, upr_eq, if_neg c4, upr_eq, if_neg c3, upr_eq, if_neg c3, hz c c1 c2]
  have r0 : RM (tD D0) N := RM_0 e3 (ez 11 (by omega) (by omega) (by omega) (by omega)) (ez 12 (by omega) (by omega) (by omega) (by omega))
  refine r_callV h (as := []) (S := []) (b := 1) m_Mod_144 (m_fresh r0 (WT_D (WD0 (fun _ => 0, 0)))) (by decide) (Nat.le_refl _) rfl at1M rfl (Nat.le_of_ble_eq_true rfl) (by decide +kernel : decode cX12_init 382 = .ok (.invokevirtual 144, 3)) ?_
  rintro _ _ N' ⟨rfl, rfl, s1, -, f4⟩
  have g3 : N' 3 = up1 (up1 z0 1 5) 2 3 := (f4.1 3 (by omega) (by omega)).trans e3
  have gz : ∀ c, 1 ≤ c → c ≤ 45 → c ≠ 1 → c ≠ 3 → c ≠ 30 → c ≠ 34 → N' c = z0 := fun c c1 c2 c0 c3 c4 c5 => (f4.1 c c0 c5).trans (ez c c1 c2 c3 c4)
  have g1 : ∀ k, N' 1 k = 0 := fun k => (f4.2 k (fun z => z)).trans (by rw [ez 1 (by omega) (by omega) (by omega) (by omega)])
  show K 45 RRM 385 [(0, vr 1)] [] N'
  refine r_vret h rfl (by decide +kernel : decode cX12_init 385 = .ok (.return_, 1)) rfl ⟨rfl, rfl, RM_0 g3 (gz 11 (by omega) (by omega) (by omega) (by omega) (by omega) (by omega)) (gz 12 (by omega) (by omega) (by omega) (by omega) (by omega) (by omega)), fun q hq => absurd hq (Nat.not_lt_zero _), sD_0 g3, fun j hj => (s1 j hj).trans (sD_0 e3 j), ?_, ?_, ?_, g1 50, g1 1, fun i hi => ?_⟩
  · rw [gz 26 (by omega) (by omega) (by omega) (by omega) (by omega) (by omega)]
  · rw [f4.1 30 (by omega) (by omega), e30]; rfl
  · rw [gz 31 (by omega) (by omega) (by omega) (by omega) (by omega) (by omega)]
  · rw [gz 38 (by omega) (by omega) (by omega) (by omega) (by omega) (by omega)]
theorem i_Mod {R : Rr} {M : Mm} (hR : R 1 = zr) (hM : M 1 = z0) (hB : RB shM 1 R M) : MSg shM yX12_init cX12_init 1 none 8 1 45 R [vr 1] M (QN (fun R' M' => R' = RRM ∧ AtM D0 M' M')) := by
  refine MSg_of (by decide +kernel) (Nat.le_of_ble_eq_true rfl) fun K h => ?_
  show K 1 R 0 [(0, vr 1)] [] M
  refine iD_0 h hR hM hB (fun R' M' hD => ?_)
  obtain ⟨-, ⟨hF, hG⟩, hE, -⟩ := hD
  refine r_RQ h (RQ_M hF) (iD_360 h (fun c c1 c2 => ?_))
  by_cases e : c = 1
  · subst e; exact hG
  · exact (hE c (by omega) c2).2
/-- a new object on both sides -/
theorem sim_0 {M N : Mm} (h : MC0 M) (hN : AtM D0 N N) : Sim (tD D0) 4 0 M N := by
  obtain ⟨M0, ⟨h1, h2⟩, s36, s42, hy, fr⟩ := h
  obtain ⟨b1, b2, b3, b4, b5, b6, b7, b8, b9, b10⟩ := hN
  have hw : WD (fun _ => 0, 0) D0 := WD0 _
  have hW : WX ((fun _ => 0, 0) : TX) := ⟨by decide, fun i hi => absurd hi (Nat.not_lt_zero _)⟩
  have wf := WF_D hw
  have hn : dn D0 ≤ 7 := hw.1
  have e1 : M 1 = GMM := (fr 1 (by omega) (by omega)).trans h1
  have d4 : DC D0 4 M := (MTT_4 (Or.inl rfl) h2).fr (fun i hi => fr _ (by omega) (by omega))
  have d18 : DC D0 18 M := (MTT_4 (Or.inr rfl) h2).fr (fun i hi => fr _ (by omega) (by omega))
  have e2 : M 2 1 = 0 := by rw [fr 2 (by omega) (by omega), h2 2 (by omega) (by omega)]; rfl
  have e59 : ∀ i, M 59 i = 0 := fun i => by rw [fr 59 (by omega) (by omega), h2 59 (by omega) (by omega)]; rfl
  refine ⟨WT_D hw, ⟨Or.inl rfl, by rw [e1]; rfl, by rw [e1]; rfl, RT_D hW atC_4 hw d4, b1, fun q hq => absurd hq (Nat.not_lt_zero _), d4.2.2.2.2.2.1, d4.2.2.2.2.2.2, d18.2.2.2.2.2.1, d18.2.2.2.2.2.2⟩, ⟨s36.cg hn (fun i _ => b3 i), wf.cg hn (fun i _ => b3 i)⟩, ⟨s42.cg hn b4, wf.cg hn b4⟩, SimP_0 e2 b9, ⟨0, hy.1, b5, by omega, fun i hi => absurd hi (Nat.not_lt_zero _)⟩, ⟨⟨by rw [hy.2.2, b6], by rw [hy.2.2]; decide, by rw [hy.2.2]; decide⟩, 0, hy.2.1, b7, by omega, fun i hi => absurd hi (Nat.not_lt_zero _)⟩, ⟨0, 0, by rw [e1]; rfl, by rw [e1]; rfl, b8, by omega, by omega, fun i hi => absurd hi (Nat.not_lt_zero _)⟩, fun i hi => ⟨by rw [e59 i, b10 i hi], Or.inl (b10 i hi), fun z => by rw [b10 i hi] at z; cases z⟩⟩
