theorem m_goesThrough {t : TT} {B : Nat} {σ : Nat → Int} {N : Mm} {a : Int} {h : Nat} (hT : RM t N) (hW : WT t) (hS : N 34 = σ) (hw : WF (tn t) B σ) (ha : a = -1 ∨ (0 ≤ a ∧ a < tn t)) (hh : h < tn t) :
    S_Mod_goesThrough (h : Int) a N (fun r N' => r = prs t σ h ∧ N' 34 = pr t σ a h ∧ N' 1 51 = N 1 51 + prb t σ a h ∧ FrM (fun c => inW c ∨ c = 25 ∨ c = 34) (fun k => k = 51) N N') := by
  have hn := hW.1
  have w5 := hw.2.2.2.2.1 h hh
  have w2 := hw.2.1
  have w3 := hw.2.2.1
  have hk := hW.2.1 h hh
  have p1 := prs_in (t := t) (σ := σ) (h := h) w5.2.2.2.2.1
  have p2 := prb_in (t := t) (σ := σ) (a := a) (h := h)
  have e12 : ((12 : Int) + (h : Int)).toNat = 12 + h := by omega
  have e19 : ((19 : Int) + (h : Int)).toNat = 19 + h := by omega
  have e26 : ((26 : Int) + (h : Int)).toNat = 26 + h := by omega
  refine e_Mod_goesThrough _ _ N fun K hK => w_Mod_goesThrough_0 hK _ _ N ?_
  refine ⟨_, m_pressedOf hT hW hS hw hh, ?_⟩
  rintro r1 N1 ⟨rfl, hf1⟩
  have hT1 := hT.frM hf1 (by omega) (fun c _ _ => by omega)
  have hS1 : N1 34 = σ := by rw [hf1.1 34 (by omega) (by omega)]; exact hS
  refine ⟨_, m_printedBy hT1 hW hS1 hw ha hh, ?_⟩
  rintro r2 N2 ⟨rfl, hf2⟩
  have hS2 : N2 34 = σ := by rw [hf2.1 34 (by omega) (by omega)]; exact hS1
  have hT2 := hT1.frM hf2 (by omega) (fun c _ _ => by omega)
  refine ⟨by omega, by omega, ?_⟩
  intro N3 h3
  have f3 : FrM (fun c => inW c ∨ c = 25 ∨ c = 34) (fun k => k = 51) N N3 := by
    rw [h3]; exact ((hf1.wk (fun c hc => by omega) (fun _ z => z.elim)).tr (hf2.wk (fun c hc => by omega) (fun _ z => z.elim))).tr (FrM.up (by omega) (by omega))
  have s3 : N3 34 = up1 σ (19 + h) (σ (19 + h) - prs t σ h) := by rw [h3, upr_eq, if_pos rfl, e19, hS2]
  have e32 : N3 34 2 = σ 2 := by rw [s3, up1_eq, if_neg (by omega)]
  rw [e32]
  refine ⟨by omega, ?_⟩
  intro N4 h4
  have f4 : FrM (fun c => inW c ∨ c = 25 ∨ c = 34) (fun k => k = 51) N N4 := by rw [h4]; exact f3.tr (FrM.up (by omega) (by omega))
  have s4 : N4 34 = up1 (up1 σ (19 + h) (σ (19 + h) - prs t σ h)) 2 (min (σ 2 + prs t σ h) 999) := by rw [h4, upr_eq, if_pos rfl, s3, Int.min_comm 999]
  have e42 : N4 34 (26 + h) = σ (26 + h) := by rw [s4, up1_eq, if_neg (by omega), up1_eq, if_neg (by omega)]
  rw [e26, e42]
  refine ⟨by omega, by omega, by omega, ?_⟩
  intro N5 h5
  have f5 : FrM (fun c => inW c ∨ c = 25 ∨ c = 34) (fun k => k = 51) N N5 := by rw [h5]; exact f4.tr (FrM.up (by omega) (by omega))
  have s5 : N5 34 = pr1 t σ a h := by rw [h5, upr_eq, if_pos rfl, s4, Int.min_comm 99]; rfl
  intro N6 h6
  have f6 : FrM (fun c => inW c ∨ c = 25 ∨ c = 34) (fun k => k = 51) N N6 := by rw [h6]; exact f5.tr (FrM.u1 rfl)
  have s6 : N6 34 = pr1 t σ a h := by rw [h6, upr_eq, if_neg (by omega)]; exact s5
  have c5 : N5 1 51 = N 1 51 := by
    rw [h5, upr_eq, if_neg (by omega), h4, upr_eq, if_neg (by omega), h3, upr_eq, if_neg (by omega), hf2.2 51 (fun z => z), hf1.2 51 (fun z => z)]
  have c6 : N6 1 51 = N 1 51 + prb t σ a h := by rw [h6, upr_eq, if_pos rfl, up1_eq, if_pos rfl, c5]
  have hT6 := hT.frM f6 (by omega) (fun c _ _ => by omega)
  have w1 := pr1_WF (t := t) hw hn hh a
  have w12 := w1.2.1
  rw [Int.toNat_natCast, (hT6.2.1 h hh).1]
  have k113 : ∀ N7 : Mm, N7 34 = pr2 t (pr1 t σ a h) h → N7 1 51 = N 1 51 + prb t σ a h → FrM (fun c => inW c ∨ c = 25 ∨ c = 34) (fun k => k = 51) N N7 → K NM RRM 113 [(0, vr 1), (1, vi (h : Int)), (3, vi (prs t σ h))] [] N7 := by
    intro N7 s7 c7 f7
    have hT7 := hT.frM f7 (by omega) (fun c _ _ => by omega)
    have w2' := pr2_WF (t := t) (h := h) w1 hn
    have w25 := w2'.2.2.2.2.1 h hh
    have w22 := w2'.2.1
    refine w_Mod_goesThrough_113 hK _ _ N7 ?_
    rw [Int.toNat_natCast, (hT7.2.1 h hh).1, e12, s7]
    refine ⟨by omega, by omega, fun q => ?_, fun q => ⟨by omega, by omega, by omega, fun q2 => ?_, fun q2 => ⟨by omega, by omega, ?_⟩⟩⟩
    · refine ⟨rfl, ?_, c7, f7⟩
      unfold pr pr3; rw [if_neg (by omega)]
    · refine ⟨rfl, ?_, c7, f7⟩
      unfold pr pr3; rw [if_neg (by omega)]
    · rintro N8 rfl
      refine ⟨rfl, ?_, by rw [upr_eq, if_neg (by omega)]; exact c7, f7.tr (FrM.up (by omega) (by omega))⟩
      unfold pr pr3; rw [if_pos (by omega), upr_eq, if_pos rfl]
  refine ⟨by omega, by omega, fun q => k113 _ ?_ c6 f6, fun q => ?_⟩
  · unfold pr2; rw [if_neg q]; exact s6
  · rw [s6]
    refine ⟨by omega, ?_⟩
    rintro N7 rfl
    refine k113 _ ?_ (by rw [upr_eq, if_neg (by omega)]; exact c6) (f6.tr (FrM.up (by omega) (by omega)))
    unfold pr2; rw [if_pos q, upr_eq, if_pos rfl, Int.min_comm 20]
theorem m_rainNow {t : TT} {B : Nat} {σ : Nat → Int} {N : Mm} (hT : RM t N) (hW : WT t) (hS : N 34 = σ) (hw : WF (tn t) B σ) (hB : B < 1000000) : S_Mod_rainNow N (fun r N' => N' = N ∧ r = rainA t σ) := by
  have h1 := hW.2.2.1
  have h2 := hW.2.2.2.1
  obtain ⟨f, hf⟩ : ∃ f : Nat, σ 0 = (f : Int) := ⟨(σ 0).toNat, by have := hw.1; omega⟩
  have hfb := hw.1.2
  refine W_Mod_rainNow N ?_
  rcases hT.1.2.2 with h9 | h9
  · rw [h9.1]
    refine ⟨by decide, fun q => absurd rfl q, fun _ => ⟨rfl, ?_⟩⟩
    unfold rainA
    rw [h9.2.1, Nat.mod_one]; exact h9.2.2.symm
  · rw [h9.1, hS, hf, remI_pos (by omega) h1 (by omega)]
    have hm := Nat.mod_lt f h1
    refine ⟨by omega, fun q => ⟨by omega, by omega, by omega, rfl, ?_⟩, fun q => by omega⟩
    unfold rainA
    rw [hf, Int.toNat_natCast, Int.toNat_natCast]
    exact h9.2 _ hm
theorem m_runs {t : TT} {B : Nat} {σ : Nat → Int} {N : Mm} (hT : RM t N) (hW : WT t) (hS : N 34 = σ) (hw : WF (tn t) B σ) (hB : B < 1000000) :
    S_Mod_runs N (fun r N' => r = cameR t σ ∧ N' 34 = runS t σ ∧ N' 1 51 = blotR t σ ∧ FrM (fun c => inW c ∨ c = 25 ∨ c = 34) (fun k => k = 51) N N') := by
  have hn := hW.1
  have ok := rl_ok hW hw (tn t) (Nat.le_refl _)
  have hr := rainA_in (t := t) (σ := (rl t σ (tn t)).1) hW
  refine e_Mod_runs N fun K hK => w_Mod_runs_0 hK N ?_
  rintro N1 rfl
  have k81 : ∀ k, k ≤ tn t → ∀ N7 : Mm, N7 34 = rn (rl t σ (tn t)).1 (rainA t (rl t σ (tn t)).1) k → N7 1 51 = blotR t σ → FrM (fun c => inW c ∨ c = 25 ∨ c = 34) (fun k => k = 51) N N7 → K NM RRM 81 [(0, vr 1), (1, vi (cameR t σ)), (3, vi (rainA t (rl t σ (tn t)).1)), (4, vi (k : Int))] [] N7 := by
    refine up_ind ?_ ?_
    · intro N7 s7 c7 f7
      have hT7 := hT.frM f7 (by omega) (fun c _ _ => by omega)
      refine w_Mod_runs_81 hK _ _ _ N7 ?_
      rw [hT7.1.1]
      refine ⟨by omega, by omega, fun _ => ?_, fun q => absurd (Int.le_refl _) q⟩
      rintro N8 rfl
      refine ⟨rfl, ?_, by rw [upr_eq, if_neg (by omega)]; exact c7, f7.tr (FrM.up (by omega) (by omega))⟩
      rw [upr_eq, if_pos rfl, s7]; rfl
    · intro k hk ih N7 s7 c7 f7
      have hT7 := hT.frM f7 (by omega) (fun c _ _ => by omega)
      have wk := rn_WF ok.1 hn hr k (by omega)
      have w5 := wk.2.2.2.2.1 k hk
      have e12 : ((12 : Int) + (k : Int)).toNat = 12 + k := by omega
      have e19 : ((19 : Int) + (k : Int)).toNat = 19 + k := by omega
      refine w_Mod_runs_81 hK _ _ _ N7 ?_
      rw [hT7.1.1, e19, e12, s7]
      refine ⟨by omega, by omega, fun q => by omega, fun q => ⟨by omega, by omega, by omega, ?_⟩⟩
      intro N8 h8
      have s8 : N8 34 = up1 (rn (rl t σ (tn t)).1 (rainA t (rl t σ (tn t)).1) k) (19 + k) (min ((rn (rl t σ (tn t)).1 (rainA t (rl t σ (tn t)).1) k) (19 + k) + rainA t (rl t σ (tn t)).1) 99) := by rw [h8, upr_eq, if_pos rfl, Int.min_comm 99]
      have c8 : N8 1 51 = blotR t σ := by rw [h8, upr_eq, if_neg (by omega)]; exact c7
      have f8 : FrM (fun c => inW c ∨ c = 25 ∨ c = 34) (fun k => k = 51) N N8 := by rw [h8]; exact f7.tr (FrM.up (by omega) (by omega))
      have w8 := wk.wet (by omega : k < 7) hn (v := min ((rn (rl t σ (tn t)).1 (rainA t (rl t σ (tn t)).1) k) (19 + k) + rainA t (rl t σ (tn t)).1) 99) (by omega)
      have hg : gosB (up1 (rn (rl t σ (tn t)).1 (rainA t (rl t σ (tn t)).1) k) (19 + k) (min ((rn (rl t σ (tn t)).1 (rainA t (rl t σ (tn t)).1) k) (19 + k) + rainA t (rl t σ (tn t)).1) 99)) k = gosB (rn (rl t σ (tn t)).1 (rainA t (rl t σ (tn t)).1) k) k := by
        unfold gosB; rw [up1_eq, if_neg (by omega)]
      refine ⟨_, m_isGoing s8 w8 (by omega), ?_⟩
      rintro r N9 ⟨rfl, rfl⟩
      rw [hg]
      refine ⟨zo_rng _, fun q2 => ?_, fun q2 => ?_⟩
      · have g : gosB (rn (rl t σ (tn t)).1 (rainA t (rl t σ (tn t)).1) k) k = true := by simpa using q2
        refine ih N9 ?_ c8 f8
        rw [rn]; unfold rn1; rw [if_pos g]; exact s8
      · have g : ¬ gosB (rn (rl t σ (tn t)).1 (rainA t (rl t σ (tn t)).1) k) k = true := by simpa using q2
        have e8 : N9 34 (12 + k) = (rn (rl t σ (tn t)).1 (rainA t (rl t σ (tn t)).1) k) (12 + k) := by rw [s8, up1_eq, if_neg (by omega)]
        rw [e8]
        refine ⟨by omega, by omega, by omega, ?_⟩
        rintro N10 rfl
        refine ih _ ?_ (by rw [upr_eq, if_neg (by omega)]; exact c8) (f8.tr (FrM.up (by omega) (by omega)))
        rw [rn]; unfold rn1; rw [if_neg g, upr_eq, if_pos rfl, s8, Int.min_comm 20]
  have k11 : ∀ k, k ≤ tn t → ∀ N3 : Mm, N3 34 = (rl t σ k).1 → N3 1 51 = (rl t σ k).2.2.2 → FrM (fun c => inW c ∨ c = 25 ∨ c = 34) (fun k => k = 51) N N3 → K NM RRM 11 [(0, vr 1), (1, vi (rl t σ k).2.2.1), (2, vi (rl t σ k).2.1), (3, vi (k : Int))] [] N3 := by
    refine up_ind ?_ ?_
    · intro N3 s3 c3 f3
      have hT3 := hT.frM f3 (by omega) (fun c _ _ => by omega)
      refine w_Mod_runs_11 hK _ _ _ N3 ?_
      rw [hT3.1.1]
      refine ⟨by omega, by omega, fun _ => ⟨_, m_rainNow hT3 hW s3 ok.1 hB, ?_⟩, fun q => absurd (Int.le_refl _) q⟩
      rintro r N4 ⟨rfl, rfl⟩
      exact k81 0 (by omega) N4 s3 c3 f3
    · intro k hk ih N3 s3 c3 f3
      have hT3 := hT.frM f3 (by omega) (fun c _ _ => by omega)
      obtain ⟨ow, oa, o4, o5, o0, o3⟩ := rl_ok hW hw k (by omega)
      have w5 := ow.2.2.2.2.1 k hk
      have e5 : ((5 : Int) + (k : Int)).toNat = 5 + k := by omega
      refine w_Mod_runs_11 hK _ _ _ N3 ?_
      obtain ⟨h, hh⟩ : ∃ h : Nat, (rl t σ k).1 (5 + k) = (h : Int) := ⟨((rl t σ k).1 (5 + k)).toNat, by omega⟩
      have hlt : h < tn t := by omega
      have ek : ((rl t σ k).1 (5 + k)).toNat = h := by rw [hh, Int.toNat_natCast]
      rw [hT3.1.1, e5, s3, hh, Int.toNat_natCast]
      refine ⟨by omega, by omega, fun q => by omega, fun q => ⟨by omega, _, m_isGoing s3 ow (by omega), ?_⟩⟩
      rintro r N4 ⟨rfl, rfl⟩
      refine ⟨zo_rng _, fun q2 => ?_, fun q2 => ?_⟩
      · have g : gosB (rl t σ k).1 h = true := by simpa using q2
        have e : rl t σ (k + 1) = (pr t (rl t σ k).1 (rl t σ k).2.1 h, if tkind t h = 3 then (rl t σ k).2.1 else (h : Int), (rl t σ k).2.2.1 + prs t (rl t σ k).1 h, (rl t σ k).2.2.2 + prb t (rl t σ k).1 (rl t σ k).2.1 h) := by rw [rl, ek, if_pos g, hh]
        refine ⟨_, m_goesThrough hT3 hW s3 ow oa hlt, ?_⟩
        rintro r3 N5 ⟨rfl, s5, c5, f5⟩
        have f35 := f3.tr f5
        have hT5 := hT.frM f35 (by omega) (fun c _ _ => by omega)
        have hk9 := hW.2.1 h hlt
        have ih2 := ih N5
        rw [e] at ih2
        have ih3 := ih2 s5 (by rw [c5, c3]) f35
        rw [(hT5.2.1 h hlt).1]
        refine ⟨by omega, by omega, fun q3 => ?_, fun q3 => ?_⟩
        · dsimp only at ih3
          rw [if_pos q3] at ih3
          exact ih3
        · dsimp only at ih3
          rw [if_neg q3] at ih3
          exact ih3
      · have g : ¬ gosB (rl t σ k).1 h = true := by simpa using q2
        have e : rl t σ (k + 1) = rl t σ k := by rw [rl, ek, if_neg g]
        have ih2 := ih N4
        rw [e] at ih2
        exact ih2 s3 c3 f3
  refine k11 0 (by omega) _ (by rw [upr_eq, if_neg (by omega)]; exact hS) ?_ (FrM.u1 rfl)
  simp [upr_eq, up1_eq, rl]
