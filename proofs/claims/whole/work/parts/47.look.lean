theorem m_isAsHeard {t : TT} {B : Nat} {σ : Nat → Int} {N : Mm} {s : Nat} {hd : Int} (hT : RM t N) (hW : WT t) (hS : N 34 = σ) (hw : WF (tn t) B σ) (hs : s < 128) (h30 : N 30 0 = hd) (hhd : -1 ≤ hd ∧ hd ≤ 693) :
    S_Mod_isAsHeard (s : Int) N (fun r N' => r = zo (asB t σ hd s) ∧ FrM (fun c => inW c ∨ c = 25) (fun _ => False) N N') := by
  have hn := hW.1
  refine e_Mod_isAsHeard _ N fun K hK => w_Mod_isAsHeard_0 hK _ N ?_
  rw [h30]
  refine ⟨by omega, fun q => ?_, fun q => ⟨?_, FrM.rf⟩⟩
  · have key : ∀ k, k ≤ tn t → ∀ N1 : Mm, FrM (fun c => inW c ∨ c = 25) (fun _ => False) N N1 → K NM RRM 15 [(0, vr 1), (1, vi (s : Int)), (2, vi (sm (suS t σ s) k)), (3, vi (k : Int))] [] N1 := by
      refine up_ind ?_ ?_
      · intro N1 hf
        have hsi := suS_in hw hn s (tn t) (Nat.le_refl _)
        refine w_Mod_isAsHeard_15 hK _ _ _ N1 ?_
        rw [hf.1 3 (by omega) (by omega), hT.1.1, hf.1 30 (by omega) (by omega), h30]
        refine ⟨by omega, by omega, fun _ => ⟨by omega, by omega, fun z => ⟨?_, hf⟩, fun z => ⟨?_, hf⟩⟩, fun z => absurd (Int.le_refl _) z⟩
        · unfold asB; rw [decide_eq_false (by omega)]; rfl
        · unfold asB; rw [decide_eq_true (by omega)]; rfl
      · intro k hk ih N1 hf
        have hb := bitz (a := s) (k := k) (by omega) (by omega)
        refine w_Mod_isAsHeard_15 hK _ _ _ N1 ?_
        rw [hf.1 3 (by omega) (by omega), hT.1.1]
        refine ⟨by omega, by omega, fun z => by omega, fun _ => ⟨fun z => ?_, fun z => ?_⟩⟩
        · have e : sm (suS t σ s) (k + 1) = sm (suS t σ s) k + 0 := by
            show _ + suS t σ s k = _
            unfold suS; rw [if_neg (fun y => z (hb.2.mpr y))]
          have ih2 := ih N1 hf
          rw [e] at ih2; exact ih2
        · refine ⟨_, m_pressedOf (hT.frM hf (by omega) (fun c _ _ => by omega)) hW (by rw [hf.1 34 (by omega) (by omega)]; exact hS) hw hk, ?_⟩
          rintro r N2 ⟨rfl, h2⟩
          have e : sm (suS t σ s) (k + 1) = sm (suS t σ s) k + prs t σ k := by
            show _ + suS t σ s k = _
            unfold suS; rw [if_pos (hb.2.mp z)]
          have ih2 := ih N2 (hf.tr h2)
          rw [e] at ih2; exact ih2
    exact key 0 (by omega) N FrM.rf
  · unfold asB; rw [decide_eq_true (by omega)]; rfl
abbrev inW5 (c : Nat) : Prop := inW c ∨ c = 25
theorem m_sets {t : TT} {B : Nat} {σ : Nat → Int} {N : Mm} {x hd : Int} (hT : RM t N) (hW : WT t) (hS : N 34 = σ) (hw : WF (tn t) B σ) (h30 : N 30 0 = hd) (hhd : -1 ≤ hd ∧ hd ≤ 693) (hx : rng x) :
    S_Mod_sets x N (fun r N' => r = (if 0 ≤ x ∧ x ≤ 2 then (if x = 0 then gcn (gdB t σ hd) (goS (tn t) σ + 1) else if gcn (gdB t σ hd) (goS (tn t) σ + 1) = 0 then -1 else if x = 1 then (gal (gdB t σ hd) (goS (tn t) σ) (goS (tn t) σ + 1) : Int) else (gso (gdB t σ hd) (goS (tn t) σ + 1) : Int)) else -1) ∧ FrM inW5 (fun k => k = 0) N N') := by
  have hn := hW.1
  have hG := goS_lt (σ := σ) hn
  refine e_Mod_sets _ N fun K hK => w_Mod_sets_0 hK _ N ?_
  intro N1 h1
  have hT1 := hT.thr
  have e34 : N1 34 = σ := by rw [h1, s34]; exact hS
  have f1 : FrM inW5 (fun k => k = 0) N N1 := by rw [h1]; exact FrM.u1 rfl
  rw [← h1] at hT1
  refine ⟨_, m_within hx (by omega) (by omega), ?_⟩
  rintro r N2 ⟨rfl, rfl⟩
  refine ⟨zo_rng _, fun q => ?_, fun q => ⟨?_, f1⟩⟩
  · have q1 : 0 ≤ x ∧ x ≤ 2 := by simpa using zo_ne q
    refine ⟨_, m_going hT1 hW e34 hw, ?_⟩
    rintro r N3 ⟨rfl, rfl⟩
    have key : ∀ k, k ≤ goS (tn t) σ + 1 → ∀ N4 : Mm, FrM inW5 (fun _ => False) N3 N4 → K NM RRM 32 [(0, vr 1), (1, vi x), (2, vi (goS (tn t) σ : Int)), (3, vi (gcn (gdB t σ hd) k)), (4, vi (gal (gdB t σ hd) (goS (tn t) σ) k : Int)), (5, vi (gso (gdB t σ hd) k : Int)), (6, vi (k : Int))] [] N4 := by
      refine up_ind ?_ ?_
      · intro N4 hf
        have hc := sm_zo (gdB t σ hd) (goS (tn t) σ + 1)
        have hc2 : rng (gcn (gdB t σ hd) (goS (tn t) σ + 1)) := by unfold gcn; omega
        have hF : FrM inW5 (fun k => k = 0) N N4 := f1.tr (hf.wk (fun _ h => h) (fun _ h => h.elim))
        refine w_Mod_sets_32 hK _ _ _ _ _ _ N4 ⟨by omega, by omega, fun _ => ⟨hc2, fun z => ⟨by omega, fun y => ⟨?_, hF⟩, fun y => ⟨?_, hF⟩⟩, fun z => ⟨by omega, fun y => ⟨by omega, fun w => ⟨?_, hF⟩, fun w => ⟨?_, hF⟩⟩, fun y => ⟨by omega, fun w => absurd y w, fun w => ⟨?_, hF⟩⟩⟩⟩, fun z => by omega⟩
        · rw [if_pos q1, if_neg y, if_pos z]
        · rw [if_pos q1, if_pos y]
        · rw [if_pos q1, if_neg y, if_neg z, if_neg w]
        · rw [if_pos q1, if_neg y, if_neg z, if_pos w]
        · rw [if_pos q1, if_pos y]
      · intro k hk ih N4 hf
        have eA : andI (k : Int) (xorI (goS (tn t) σ : Int) (-1)) = ((adn k (goS (tn t) σ) : Nat) : Int) := by rw [not_nat (by omega), andn_nat (by omega) (by omega)]
        have no : gdB t σ hd k = false → ∀ N5 : Mm, FrM inW5 (fun _ => False) N3 N5 → K NM RRM 32 [(0, vr 1), (1, vi x), (2, vi (goS (tn t) σ : Int)), (3, vi (gcn (gdB t σ hd) k)), (4, vi (gal (gdB t σ hd) (goS (tn t) σ) k : Int)), (5, vi (gso (gdB t σ hd) k : Int)), (6, vi ((k : Int) + 1))] [] N5 := by
          intro h9 N5 hf5
          have ih2 := ih N5 hf5
          rw [gcn_n h9, gal, if_neg (by rw [h9]; exact Bool.false_ne_true), gso, if_neg (by rw [h9]; exact Bool.false_ne_true)] at ih2
          exact ih2
        have hal := gal_le (gdB t σ hd) (goS (tn t) σ) k
        have hso := gso_lt (gdB t σ hd) k (by omega)
        refine w_Mod_sets_32 hK _ _ _ _ _ _ N4 ?_
        rw [eA, andI_nat (by omega) (by omega), orI_nat (by omega) (by omega)]
        refine ⟨by omega, by omega, fun z => by omega, fun _ => ⟨fun z => no ?_ N4 hf, fun z => ?_⟩⟩
        · unfold gdB; rw [decide_eq_false (by omega)]; rfl
        · have hA : adn k (goS (tn t) σ) = 0 := by omega
          refine ⟨_, m_isAsHeard (hT1.frM hf (by omega) (fun c _ _ => by omega)) hW (by rw [hf.1 34 (by omega) (by omega)]; exact e34) hw (by omega) (by rw [hf.1 30 (by omega) (by omega), h1, upr_eq, if_neg (by omega)]; exact h30) hhd, ?_⟩
          rintro r N5 ⟨rfl, h5⟩
          refine ⟨zo_rng _, fun y => ?_, fun y => no ?_ N5 (hf.tr h5)⟩
          · have h9 : gdB t σ hd k = true := by unfold gdB; rw [decide_eq_true hA, zo_ne y]; rfl
            have ih2 := ih N5 (hf.tr h5)
            rw [gcn_y h9, gal, if_pos h9, gso, if_pos h9] at ih2
            exact ih2
          · unfold gdB; rw [zo_0 y]; simp
    exact key 0 (by omega) N3 FrM.rf
  · have q1 : ¬ (0 ≤ x ∧ x ≤ 2) := by simpa using zo_0 q
    rw [if_neg q1]
def lkS (f : Nat → Bool) (G c : Nat) : Nat → Int × Int
  | 0 => ((gcn f c), -1)
  | h + 1 => if max (gti f h c) (gcn f c - gti f h c) < (lkS f G c h).1 then (max (gti f h c) (gcn f c - gti f h c), (h : Int)) else lkS f G c h
theorem lk_in (f : Nat → Bool) (G c : Nat) (hc : c ≤ 128) : ∀ h, 0 ≤ (lkS f G c h).1 ∧ (lkS f G c h).1 ≤ 128
  | 0 => by have := sm_zo f c; show 0 ≤ gcn f c ∧ gcn f c ≤ 128; unfold gcn; omega
  | h + 1 => by
    have h1 := lk_in f G c hc h
    have h2 := sm_zo (fun s => f s && s.testBit h) c
    have h3 : 0 ≤ gti f h c := h2.1
    unfold lkS
    split
    · next q =>
      show 0 ≤ max _ _ ∧ max _ _ ≤ 128
      omega
    · exact h1
theorem c_bestParting {n : Nat} {M : Mm} {f : Nat → Bool} {G c : Nat} (hn : n ≤ 7) (hc : c ≤ 128) (h0 : M 69 0 = gcn f c) (h1 : ∀ h, h < n → M 71 h = gti f h c) : S_Secrets_bestParting 69 (n : Int) M (fun r M' => r = (lkS f G c n).2 ∧ M' = M) := by
  refine e_Secrets_bestParting 69 _ M fun K hK => w_Secrets_bestParting_0 hK 69 atC_69 _ M ?_
  have hcn := sm_zo f c
  have key : ∀ k, k ≤ n → K NN RRC 10 [(0, vr 69), (1, vi (n : Int)), (2, vi (lkS f G c k).1), (3, vi (lkS f G c k).2), (4, vi (k : Int))] [] M := by
    refine up_ind ?_ ?_
    · exact w_Secrets_bestParting_10 hK 69 atC_69 _ _ _ _ M ⟨by omega, by omega, fun _ => ⟨rfl, rfl⟩, fun z => absurd (Int.le_refl _) z⟩
    · intro k hk ih
      have hl := lk_in f G c hc k
      have h2 := sm_zo (fun s => f s && s.testBit k) c
      have h3 : 0 ≤ gti f k c ∧ gti f k c ≤ c := h2
      have h4 : 0 ≤ gcn f c ∧ gcn f c ≤ c := hcn
      refine w_Secrets_bestParting_10 hK 69 atC_69 _ _ _ _ M ?_
      rw [Int.toNat_natCast, show M (69 + 2) k = gti f k c from h1 k hk, h0]
      refine ⟨by omega, by omega, fun z => by omega, fun _ => ⟨by omega, by omega, by omega, by omega, by omega, fun z => ?_, fun z => ?_⟩⟩
      · rw [lkS, if_neg (by omega)] at ih; exact ih
      · rw [lkS, if_pos (by omega)] at ih; exact ih
  have := key 0 (by omega)
  rw [h0]
  exact this
theorem c_sets {t : TT} {tb B : Nat} {M N : Mm} {x : Int} (hx : rng x) (h : Sim t tb B M N) : S_Main_sets x M (PC tb M (if 0 ≤ x ∧ x ≤ 2 then (if x = 0 then gcn (gdB t (N 34) (N 30 0)) (goS (tn t) (N 34) + 1) else if gcn (gdB t (N 34) (N 30 0)) (goS (tn t) (N 34) + 1) = 0 then -1 else if x = 1 then (gal (gdB t (N 34) (N 30 0)) (goS (tn t) (N 34)) (goS (tn t) (N 34) + 1) : Int) else (gso (gdB t (N 34) (N 30 0)) (goS (tn t) (N 34) + 1) : Int)) else -1)) := by
  obtain ⟨hW, hT, hS, hN, hP, hY, hH, -⟩ := h
  have hh := hH.1
  have hG := goS_lt (σ := N 34) hW.1
  refine W_Main_sets _ M ⟨tb, hT.2.1, at_tb hT.1, ?_⟩
  rw [hh.1]
  refine ⟨_, c_weigh hT.1 hT.2.2.2.1 hW hN.1 hN.2 (by omega), ?_⟩
  rintro M1 ⟨g0, g1, g2, g3, g4⟩
  have hF : FrC (scC tb) M M1 := g4.wk (fun c hc => by omega)
  have hc := sm_zo (gdB t (N 34) (N 30 0)) (goS (tn t) (N 34) + 1)
  rw [g0, g1, g2]
  refine ⟨hx, fun a => ⟨hx, fun b => ⟨?_, hF⟩, fun b => ⟨hx, fun c => ⟨?_, hF⟩, fun c => ⟨by unfold gcn; omega, fun d => ⟨hx, fun e => ⟨?_, hF⟩, fun e => ⟨?_, hF⟩⟩, fun d => ⟨?_, hF⟩⟩⟩⟩, fun a => ⟨?_, hF⟩⟩
  · rw [if_neg (by omega)]
  · rw [if_neg (by omega)]
  · rw [if_pos (by omega), if_neg a, if_neg d, if_neg e]
  · rw [if_pos (by omega), if_neg a, if_neg d, if_pos e]
  · rw [if_pos (by omega), if_neg a, if_pos d]
  · rw [if_pos (by omega), if_pos a]
theorem op_sets {t : TT} {tb B : Nat} {M N : Mm} {x : Int} (hx : rng x) (h : Sim t tb B M N) : Op (S_Main_sets x) (S_Mod_sets x) B M N := by
  have h0 := h
  obtain ⟨hW, hT, hS, hN, hP, hY, hH, -⟩ := h
  have hh := hH.1
  refine ⟨_, fun M' => FrC (scC tb) M M', fun N' => FrM inW5 (fun k => k = 0) N N', c_sets hx h0, m_sets hT.2.2.2.2.1 hW rfl hN.2 rfl (by omega) hx, ?_⟩
  intro M' N' a b
  exact ⟨t, tb, (h0.ask a (b.wk (fun c hc => by omega) (fun k hk => by omega)) (fun i _ => by rw [b.1 34 (by omega) (by omega)])).mono (Nat.le_succ _)⟩
theorem c_look {t : TT} {tb B : Nat} {M N : Mm} (h : Sim t tb B M N) : S_Main_look M (PC tb M (lkS (gdB t (N 34) (N 30 0)) 0 (goS (tn t) (N 34) + 1) (tn t)).2) := by
  obtain ⟨hW, hT, hS, hN, hP, hY, hH, -⟩ := h
  have hh := hH.1
  have htb := hT.1
  have hG := goS_lt (σ := N 34) hW.1
  refine W_Main_look M ⟨tb, hT.2.1, at_tb hT.1, ?_⟩
  rw [hh.1]
  refine ⟨_, c_weigh hT.1 hT.2.2.2.1 hW hN.1 hN.2 (by omega), ?_⟩
  rintro M1 ⟨g0, g1, g2, g3, g4⟩
  have hF : FrC (scC tb) M M1 := g4.wk (fun c hc => by omega)
  refine ⟨tb, by rw [hF 1 (by omega)]; exact hT.2.1, at_tb hT.1, ?_⟩
  rw [hF tb (by omega), hT.2.2.2.1.1.1]
  refine ⟨_, c_bestParting (G := 0) hW.1 (by omega) g0 g3, ?_⟩
  rintro r M2 ⟨rfl, rfl⟩
  exact ⟨rfl, hF⟩
theorem m_look {t : TT} {tb B : Nat} {M N : Mm} (h : Sim t tb B M N) : S_Mod_look N (PN N (lkS (gdB t (N 34) (N 30 0)) 0 (goS (tn t) (N 34) + 1) (tn t)).2) := by
  obtain ⟨hW, hT, hS, hN, hP, hY, hH, -⟩ := h
  have hh := hH.1
  have hn := hW.1
  have hG := goS_lt (σ := N 34) hn
  have hw := hN.2
  have hcn := sm_zo (gdB t (N 34) (N 30 0)) (goS (tn t) (N 34) + 1)
  refine e_Mod_look N fun K hK => w_Mod_look_0 hK N ?_
  intro N1 h1
  have hT1 := hT.2.2.2.2.1.thr
  have e34 : N1 34 = N 34 := by rw [h1, s34]
  have f1 : FrM inW5 (fun k => k = 0) N N1 := by rw [h1]; exact FrM.u1 rfl
  rw [← h1] at hT1
  refine ⟨_, m_going hT1 hW e34 hw, ?_⟩
  rintro r N2 ⟨rfl, rfl⟩
  refine ⟨_, m_sets (x := 0) hT1 hW e34 hw (hd := N 30 0) (by rw [f1.1 30 (by omega) (by omega)]) (by omega) (by omega), ?_⟩
  rintro r N3 ⟨rfl, h3⟩
  rw [if_pos (by omega), if_pos rfl]
  have f3 : FrM inW5 (fun k => k = 0) N N3 := f1.tr h3
  have key : ∀ k, k ≤ tn t → ∀ N4 : Mm, FrM inW5 (fun k => k = 0) N N4 → K NM RRM 24 [(0, vr 1), (1, vi (goS (tn t) (N 34) : Int)), (2, vi (gcn (gdB t (N 34) (N 30 0)) (goS (tn t) (N 34) + 1))), (3, vi (lkS (gdB t (N 34) (N 30 0)) 0 (goS (tn t) (N 34) + 1) k).1), (4, vi (lkS (gdB t (N 34) (N 30 0)) 0 (goS (tn t) (N 34) + 1) k).2), (5, vi (k : Int))] [] N4 := by
    refine up_ind ?_ ?_
    · intro N4 hf
      refine w_Mod_look_24 hK _ _ _ _ _ N4 ?_
      rw [hf.1 3 (by omega) (by omega), hT.2.2.2.2.1.1.1]
      exact ⟨by omega, by omega, fun _ => ⟨rfl, hf.wk (fun c hc => by omega) (fun k hk => by omega), fun i _ => by rw [hf.1 34 (by omega) (by omega)]⟩, fun z => absurd (Int.le_refl _) z⟩
    · intro k hk ih N4 hf
      have hl := lk_in (gdB t (N 34) (N 30 0)) 0 (goS (tn t) (N 34) + 1) (by omega) k
      have h2 := sm_zo (fun s => gdB t (N 34) (N 30 0) s && s.testBit k) (goS (tn t) (N 34) + 1)
      have h3 : 0 ≤ gti (gdB t (N 34) (N 30 0)) k (goS (tn t) (N 34) + 1) ∧ gti (gdB t (N 34) (N 30 0)) k (goS (tn t) (N 34) + 1) ≤ ((goS (tn t) (N 34) + 1 : Nat) : Int) := h2
      have h4 : 0 ≤ gcn (gdB t (N 34) (N 30 0)) (goS (tn t) (N 34) + 1) ∧ gcn (gdB t (N 34) (N 30 0)) (goS (tn t) (N 34) + 1) ≤ ((goS (tn t) (N 34) + 1 : Nat) : Int) := hcn
      have k41 : ∀ s, s ≤ goS (tn t) (N 34) + 1 → ∀ N5 : Mm, FrM inW5 (fun k => k = 0) N N5 → K NM RRM 41 [(0, vr 1), (1, vi (goS (tn t) (N 34) : Int)), (2, vi (gcn (gdB t (N 34) (N 30 0)) (goS (tn t) (N 34) + 1))), (3, vi (lkS (gdB t (N 34) (N 30 0)) 0 (goS (tn t) (N 34) + 1) k).1), (4, vi (lkS (gdB t (N 34) (N 30 0)) 0 (goS (tn t) (N 34) + 1) k).2), (5, vi (k : Int)), (6, vi (gti (gdB t (N 34) (N 30 0)) k s)), (7, vi (s : Int))] [] N5 := by
        refine up_ind ?_ ?_
        · intro N5 hf5
          have ih2 := ih N5 hf5
          refine w_Mod_look_41 hK _ _ _ _ _ _ _ N5 ⟨by omega, by omega, fun _ => ⟨by omega, by omega, by omega, fun z => ?_, fun z => ?_⟩, fun z => by omega⟩
          · rw [lkS, if_pos z] at ih2; exact ih2
          · rw [lkS, if_neg z] at ih2; exact ih2
        · intro s hs ih3 N5 hf5
          have eA : andI (s : Int) (xorI (goS (tn t) (N 34) : Int) (-1)) = ((adn s (goS (tn t) (N 34)) : Nat) : Int) := by rw [not_nat (by omega), andn_nat (by omega) (by omega)]
          have hb := bitz (a := s) (k := k) (by omega) (by omega)
          have no : (gdB t (N 34) (N 30 0) s && s.testBit k) = false → ∀ N6 : Mm, FrM inW5 (fun k => k = 0) N N6 → K NM RRM 41 [(0, vr 1), (1, vi (goS (tn t) (N 34) : Int)), (2, vi (gcn (gdB t (N 34) (N 30 0)) (goS (tn t) (N 34) + 1))), (3, vi (lkS (gdB t (N 34) (N 30 0)) 0 (goS (tn t) (N 34) + 1) k).1), (4, vi (lkS (gdB t (N 34) (N 30 0)) 0 (goS (tn t) (N 34) + 1) k).2), (5, vi (k : Int)), (6, vi (gti (gdB t (N 34) (N 30 0)) k s + 0)), (7, vi ((s : Int) + 1))] [] N6 := by
            intro h9 N6 hf6
            have ih4 := ih3 N6 hf6
            have e : gti (gdB t (N 34) (N 30 0)) k (s + 1) = gti (gdB t (N 34) (N 30 0)) k s + 0 := by
              show _ + zo (gdB t (N 34) (N 30 0) s && s.testBit k) = _
              rw [h9]; rfl
            rw [e] at ih4; exact ih4
          refine w_Mod_look_41 hK _ _ _ _ _ _ _ N5 ?_
          rw [eA]
          refine ⟨by omega, by omega, fun z => by omega, fun _ => ⟨fun z => no ?_ N5 hf5, fun z => ⟨fun y => no ?_ N5 hf5, fun y => ?_⟩⟩⟩
          · unfold gdB; rw [decide_eq_false (by omega)]; simp
          · have : s.testBit k = false := by
              cases h9 : s.testBit k
              · rfl
              · exact absurd (hb.2.mpr h9) y
            rw [this]; simp
          · have hA : adn s (goS (tn t) (N 34)) = 0 := by omega
            refine ⟨_, m_isAsHeard (hT.2.2.2.2.1.frM hf5 (by omega) (fun c _ _ => by omega)) hW (by rw [hf5.1 34 (by omega) (by omega)]) hw (by omega) (hd := N 30 0) (by rw [hf5.1 30 (by omega) (by omega)]) (by omega), ?_⟩
            rintro r N6 ⟨rfl, h6⟩
            have hf6 : FrM inW5 (fun k => k = 0) N N6 := hf5.tr (h6.wk (fun _ h => h) (fun _ h => h.elim))
            refine ⟨zo_rng _, fun w => no ?_ N6 hf6, fun w => ?_⟩
            · unfold gdB; rw [zo_0 w]; simp
            · have ih4 := ih3 N6 hf6
              have e : gti (gdB t (N 34) (N 30 0)) k (s + 1) = gti (gdB t (N 34) (N 30 0)) k s + 1 := by
                show _ + zo (gdB t (N 34) (N 30 0) s && s.testBit k) = _
                unfold gdB; rw [decide_eq_true hA, zo_ne w, hb.2.mp y]; rfl
              rw [e] at ih4; exact ih4
      refine w_Mod_look_24 hK _ _ _ _ _ N4 ?_
      rw [hf.1 3 (by omega) (by omega), hT.2.2.2.2.1.1.1]
      exact ⟨by omega, by omega, fun z => by omega, fun _ => k41 0 (by omega) N4 hf⟩
  exact key 0 (by omega) N3 f3
theorem op_look {t : TT} {tb B : Nat} {M N : Mm} (h : Sim t tb B M N) : Op S_Main_look S_Mod_look B M N := Op.ask h (c_look h) (m_look h)
