theorem m_fresh {t : TT} {N : Mm} (hT : RM t N) (hW : WT t) : S_Mod_fresh N (fun N' => (∀ j, j < 33 → N' 34 j = st0 (tn t) N j) ∧ (∀ j, 33 ≤ j → N' 34 j = N 34 j) ∧ FrM (fun c => c = 34) (fun _ => False) N N') := by
  have hn := hW.1
  refine e_Mod_fresh N fun K hK => w_Mod_fresh_0 hK N ?_
  have k35 : ∀ k, k ≤ tn t → ∀ N1 : Mm, (∀ j, j < 33 → N1 34 j = st0 k N j) → (∀ j, 33 ≤ j → N1 34 j = N 34 j) → FrM (fun c => c = 34) (fun _ => False) N N1 → K NM RRM 35 [(0, vr 1), (1, vi (k : Int))] [] N1 := by
    refine up_ind ?_ ?_
    · intro N1 h1 h9 hf
      refine w_Mod_fresh_35 hK _ N1 ?_
      rw [hf.1 3 (by omega) (by omega), hT.1.1]
      exact ⟨by omega, by omega, fun _ => ⟨h1, h9, hf⟩, fun z => absurd (Int.le_refl _) z⟩
    · intro k hk ih N1 h1 h9 hf
      refine w_Mod_fresh_35 hK _ N1 ?_
      rw [hf.1 3 (by omega) (by omega), hT.1.1]
      refine ⟨by omega, by omega, fun z => by omega, fun _ => ⟨by omega, ?_⟩⟩
      rintro N2 rfl
      refine ⟨by omega, by omega, ?_⟩
      rintro N3 rfl
      refine ⟨by omega, by omega, ?_⟩
      rintro N4 rfl
      refine ih _ (fun j hj => ?_) (fun j hj => by rw [upr_eq, if_pos rfl, up1_eq, if_neg (by omega), upr_eq, if_pos rfl, up1_eq, if_neg (by omega), upr_eq, if_pos rfl, up1_eq, if_neg (by omega), h9 j hj]) (((hf.tr (FrM.up rfl (by omega))).tr (FrM.up rfl (by omega))).tr (FrM.up rfl (by omega)))
      have t1 : ((5 : Int) + k).toNat = 5 + k := by omega
      have t2 : ((12 : Int) + k).toNat = 12 + k := by omega
      have t3 : ((19 : Int) + k).toNat = 19 + k := by omega
      rw [t1, t2, t3, Int.toNat_natCast]
      have e6 : ∀ g : Nat → Int, (upr N1 34 g) 6 = N 6 := fun g => by rw [upr_eq, if_neg (by omega), hf.1 6 (by omega) (by omega)]
      have e7 : ∀ g g' : Nat → Int, (upr (upr N1 34 g) 34 g') 7 = N 7 := fun g g' => by rw [upr_eq, if_neg (by omega), upr_eq, if_neg (by omega), hf.1 7 (by omega) (by omega)]
      rw [e6, e7, upr_eq _ 34 _ 34, if_pos rfl, up1_eq, upr_eq _ 34 _ 34, if_pos rfl, up1_eq, upr_eq _ 34 _ 34, if_pos rfl, up1_eq, h1 j hj]
      unfold st0
      by_cases a : j = 19 + k
      · subst a
        rw [if_pos rfl, if_neg (by omega), if_neg (by omega), if_neg (by omega), if_pos (by omega)]; congr 1; omega
      · rw [if_neg a]
        by_cases b : j = 12 + k
        · subst b
          rw [if_pos rfl, if_neg (by omega), if_neg (by omega), if_pos (by omega)]; congr 1; omega
        · rw [if_neg b]
          by_cases c : j = 5 + k
          · subst c
            rw [if_pos rfl, if_neg (by omega), if_pos (by omega)]; congr 1; omega
          · rw [if_neg c]
            by_cases c1 : j = 1
            · rw [if_pos c1, if_pos c1]
            · rw [if_neg c1, if_neg c1]
              by_cases c2 : 5 ≤ j ∧ j < 5 + k
              · rw [if_pos c2, if_pos (by omega)]
              · rw [if_neg c2, if_neg (show ¬ (5 ≤ j ∧ j < 5 + (k + 1)) by omega)]
                by_cases c3 : 12 ≤ j ∧ j < 12 + k
                · rw [if_pos c3, if_pos (by omega)]
                · rw [if_neg c3, if_neg (show ¬ (12 ≤ j ∧ j < 12 + (k + 1)) by omega)]
                  by_cases c4 : 19 ≤ j ∧ j < 19 + k
                  · rw [if_pos c4, if_pos (by omega)]
                  · rw [if_neg c4, if_neg (show ¬ (19 ≤ j ∧ j < 19 + (k + 1)) by omega)]
  have k2 : ∀ k, k ≤ 33 → ∀ N1 : Mm, (∀ j, j < 33 → N1 34 j = if j < k then 0 else N 34 j) → (∀ j, 33 ≤ j → N1 34 j = N 34 j) → FrM (fun c => c = 34) (fun _ => False) N N1 → K NM RRM 2 [(0, vr 1), (1, vi (k : Int))] [] N1 := by
    refine up_ind ?_ ?_
    · intro N1 h1 h9 hf
      refine w_Mod_fresh_2 hK _ N1 ⟨by decide, fun _ => ?_, fun z => absurd (by decide) z⟩
      rintro N2 rfl
      refine k35 0 (by omega) _ (fun j hj => ?_) (fun j hj => by rw [upr_eq, if_pos rfl, up1_eq, if_neg (by omega), h9 j hj]) (hf.tr (FrM.up rfl (by omega)))
      rw [upr_eq, if_pos rfl, up1_eq, hf.1 3 (by omega) (by omega)]
      unfold st0
      by_cases c1 : j = 1
      · rw [if_pos c1, if_pos c1]
      · rw [if_neg c1, if_neg c1, if_neg (by omega), if_neg (by omega), if_neg (by omega), h1 j hj, if_pos hj]
    · intro k hk ih N1 h1 h9 hf
      refine w_Mod_fresh_2 hK _ N1 ⟨by omega, fun z => by omega, fun _ => ⟨by omega, ?_⟩⟩
      rintro N2 rfl
      refine ih _ (fun j hj => ?_) (fun j hj => by rw [upr_eq, if_pos rfl, up1_eq, if_neg (by omega), h9 j hj]) (hf.tr (FrM.up rfl (by omega)))
      rw [upr_eq, if_pos rfl, up1_eq, Int.toNat_natCast]
      by_cases e : j = k
      · rw [if_pos e, if_pos (by omega)]
      · rw [if_neg e, h1 j hj]
        by_cases c : j < k
        · rw [if_pos c, if_pos (by omega)]
        · rw [if_neg c, if_neg (by omega)]
  exact k2 0 (by omega) N (fun j _ => by rw [if_neg (by omega)]) (fun _ _ => rfl) FrM.rf
def jdg (t : TT) (D H X : Nat → Int) (σ0 : Nat → Int) : Nat → (Nat → Int) × Int × Int
  | 0 => (σ0, -1, -1)
  | i + 1 => ((lnS t (jdg t D H X σ0 i).1 (D i) (H i) (X i)).1, if (lnS t (jdg t D H X σ0 i).1 (D i) (H i) (X i)).2 = true then (jdg t D H X σ0 i).2.1 else if (jdg t D H X σ0 i).2.1 = -1 then (i : Int) else (jdg t D H X σ0 i).2.1, if D i = 2 ∧ (jdg t D H X σ0 i).2.2 = -1 ∧ 0 < shN t (jdg t D H X σ0 i).1 then (i : Int) else (jdg t D H X σ0 i).2.2)
theorem jdg_ok {t : TT} {D H X : Nat → Int} {σ0 : Nat → Int} {B : Nat} (hW : WT t) (hw : WF (tn t) B σ0) : ∀ i, (∀ j, j < i → okL (tn t) (D j) (H j) (X j)) → (WF (tn t) (B + i) (jdg t D H X σ0 i).1 ∧ (-1 ≤ (jdg t D H X σ0 i).2.1 ∧ (jdg t D H X σ0 i).2.1 < (i : Int)) ∧ (-1 ≤ (jdg t D H X σ0 i).2.2 ∧ (jdg t D H X σ0 i).2.2 < (i : Int)))
  | 0, _ => ⟨hw, by show (-1 : Int) ≤ -1 ∧ (-1 : Int) < _; omega, by show (-1 : Int) ≤ -1 ∧ (-1 : Int) < _; omega⟩
  | i + 1, h => by
    obtain ⟨a, b, c⟩ := jdg_ok hW hw i (fun j hj => h j (by omega))
    refine ⟨lnS_WF hW a (h i (by omega)), ?_, ?_⟩
    · show -1 ≤ (if _ then _ else if _ then _ else _) ∧ (if _ then _ else if _ then _ else _) < _
      split
      · omega
      · split <;> omega
    · show -1 ≤ (if _ then _ else _) ∧ (if _ then _ else _) < _
      split <;> omega
theorem shN_in (t : TT) (σ : Nat → Int) : 0 ≤ shN t σ ∧ shN t σ ≤ tn t := sm_in (shP_in t σ) _
theorem c_judge {t : TT} {B L : Nat} {σ : Nat → Int} {M : Mm} {b1 b2 b4 : Nat} {D H X : Nat → Int} (hb1 : At shC NN b1 (.inl 7)) (hb2 : At shC NN b2 (.inl 8)) (hb4 : At shC NN b4 (.inl 5)) (hdis : ∀ i j, i < 4 → j < 5 → b2 + i ≠ b4 + j) (hl2 : 32 ≤ b2 ∧ (b2 + 3 < 61 ∨ 61 < b2)) (hT : RT t M b1) (hW : WT t) (hS : RS (tn t) σ M b4) (hw : WF (tn t) B σ) (hB : B < 100000)
    (hL : M b2 3 = (L : Int)) (hL40 : L ≤ 40) (ho : ∀ i, i < L → okL (tn t) (D i) (H i) (X i)) (e1 : ∀ i, i < L → M (b2 + 1) i = D i) (e2 : ∀ i, i < L → D i ≤ 1 → M (b2 + 2) i = H i) (e3 : ∀ i, i < L → D i = 0 ∨ D i = 3 → M (b2 + 3) i = X i) :
    S_Mangle_judge 61 b1 b2 b4 M (fun M' => RS (tn t) (jdg t D H X σ L).1 M' b4 ∧ M' 61 2 = (jdg t D H X σ L).2.1 ∧ M' 61 3 = (jdg t D H X σ L).2.2 ∧ FrC (frD b1 b4) M M') := by
  have hn := hW.1
  have lb1 := town_at hb1
  have lb4 := st_at hb4
  have h61 : ∀ i, i < 4 → ∀ c, c = b2 + i → ¬ frD b1 b4 c := by
    intro i hi c hc hf
    rcases hf with h | h | h | h
    · omega
    · omega
    · omega
    · exact hdis i (c - b4) hi (by omega) (by omega)
  refine e_Mangle_judge 61 b1 b2 b4 M fun K hK => w_Mangle_judge_0 hK 61 atC_61 b1 hb1 b2 hb2 b4 hb4 M ?_
  rintro M1 rfl M2 rfl
  have key : ∀ k, k ≤ L → ∀ M1 : Mm, RS (tn t) (jdg t D H X σ k).1 M1 b4 → RT t M1 b1 → M1 61 2 = (jdg t D H X σ k).2.1 → M1 61 3 = (jdg t D H X σ k).2.2 → FrC (frD b1 b4) M M1 → K NN RRC 13 [(0, vr 61), (1, vr b1), (2, vr b2), (3, vr b4), (4, vi (k : Int))] [] M1 := by
    refine up_ind ?_ ?_
    · intro M1 s1 s2 s3 s4 s5
      refine w_Mangle_judge_13 hK 61 atC_61 b1 hb1 b2 hb2 b4 hb4 _ M1 ?_
      rw [s5 b2 (h61 0 (by omega) _ rfl), hL]
      exact ⟨by omega, by omega, fun _ => ⟨s1, s3, s4, s5⟩, fun z => absurd (Int.le_refl _) z⟩
    · intro k hk ih M1 s1 s2 s3 s4 s5
      obtain ⟨w1, w2, w3⟩ := jdg_ok (D := D) (H := H) (X := X) hW hw k (fun j hj => ho j (by omega))
      have hok := ho k hk
      have hsn := shN_in t (jdg t D H X σ k).1
      have d1 : ∀ G : Mm, FrC (frD b1 b4) M G → G (b2 + 1) k = D k := fun G hG => by rw [hG _ (h61 1 (by omega) _ rfl)]; exact e1 k hk
      have k55 : ∀ M2 : Mm, RS (tn t) (jdg t D H X σ k).1 M2 b4 → RT t M2 b1 → M2 61 2 = (jdg t D H X σ k).2.1 → M2 61 3 = (jdg t D H X σ (k + 1)).2.2 → FrC (frD b1 b4) M M2 → K NN RRC 55 [(0, vr 61), (1, vr b1), (2, vr b2), (3, vr b4), (4, vi (k : Int))] [] M2 := by
        intro M2 r1 r2 r3 r4 r5
        refine w_Mangle_judge_55 hK 61 atC_61 b1 hb1 b2 hb2 b4 hb4 _ M2 ⟨_, c_follow hb1 hb2 hb4 r2 hW r1 w1 (by omega) (by omega) hok (d1 M2 r5) (fun z => by rw [r5 _ (h61 2 (by omega) _ rfl)]; exact e2 k hk z) (fun z => by rw [r5 _ (h61 3 (by omega) _ rfl)]; exact e3 k hk z), ?_⟩
        rintro r M3 ⟨rfl, q1, q2, q3, q4⟩
        refine ⟨zo_rng _, fun z => ih M3 q1 q2 ?_ ?_ (r5.tr q4), fun z => ?_⟩
        · rw [q3 2 (by omega), r3]
          show _ = if _ then _ else _
          rw [if_pos (zo_ne z)]
        · rw [q3 3 (by omega)]; exact r4
        · have zf := zo_0 z
          rw [q3 2 (by omega), r3]
          refine ⟨by omega, fun y => ih M3 q1 q2 ?_ ?_ (r5.tr q4), fun y => ?_⟩
          · rw [q3 2 (by omega), r3]
            show _ = if _ then _ else if _ then _ else _
            rw [if_neg (by rw [zf]; exact Bool.false_ne_true), if_neg y]
          · rw [q3 3 (by omega)]; exact r4
          · rintro M4 rfl
            refine ih _ (q1.fr (fun i hi => by rw [upr_eq, if_neg (by omega)])) (q2.fr (fun i _ _ => by rw [upr_eq, if_neg (by omega)])) ?_ ?_ ((r5.tr q4).tr (FrC.up (Or.inl rfl)))
            · rw [upr_eq, if_pos rfl, up1_eq, if_pos rfl]
              show _ = if _ then _ else if _ then _ else _
              rw [if_neg (by rw [zf]; exact Bool.false_ne_true), if_pos y]
            · rw [upr_eq, if_pos rfl, up1_eq, if_neg (by omega), q3 3 (by omega)]; exact r4
      refine w_Mangle_judge_13 hK 61 atC_61 b1 hb1 b2 hb2 b4 hb4 _ M1 ?_
      rw [s5 b2 (h61 0 (by omega) _ rfl), hL, Int.toNat_natCast, d1 M1 s5, s4]
      refine ⟨by omega, by omega, fun z => by omega, fun _ => ⟨by omega, by have := hok.1; omega, fun z => k55 M1 s1 s2 s3 ?_ s5, fun z => ⟨by omega, fun y => k55 M1 s1 s2 s3 ?_ s5, fun y => ⟨_, c_shunnedBy hb4 hb1 s2 hW s1 w1, ?_⟩⟩⟩⟩
      · rw [s4]; show _ = if _ then _ else _
        rw [if_neg (fun q => z q.1)]
      · rw [s4]; show _ = if _ then _ else _
        rw [if_neg (fun q => y q.2.1)]
      · rintro r M2 ⟨rfl, rfl⟩
        refine ⟨by omega, fun x => k55 M2 s1 s2 s3 ?_ s5, fun x => ?_⟩
        · rw [s4]; show _ = if _ then _ else _
          rw [if_neg (fun q => by omega)]
        · rintro M3 rfl
          refine k55 _ (s1.fr (fun i hi => by rw [upr_eq, if_neg (by omega)])) (s2.fr (fun i _ _ => by rw [upr_eq, if_neg (by omega)])) ?_ ?_ (s5.tr (FrC.up (Or.inl rfl)))
          · rw [upr_eq, if_pos rfl, up1_eq, if_neg (by omega)]; exact s3
          · rw [upr_eq, if_pos rfl, up1_eq, if_pos rfl]; show _ = if _ then _ else _
            rw [if_pos ⟨z, y, by omega⟩]
  refine key 0 (by omega) _ (hS.fr (fun i hi => by rw [upr_eq, if_neg (by omega), upr_eq, if_neg (by omega)])) (hT.fr (fun i _ _ => by rw [upr_eq, if_neg (by omega), upr_eq, if_neg (by omega)])) ?_ ?_ ((FrC.up (Or.inl rfl)).tr (FrC.up (Or.inl rfl)))
  · rw [upr_eq, if_pos rfl, up1_eq, if_neg (by omega), upr_eq, if_pos rfl, up1_eq, if_pos rfl]; rfl
  · rw [upr_eq, if_pos rfl, up1_eq, if_pos rfl]; rfl
