theorem xr_sub {L G : Nat} (h : ∀ i, L.testBit i = true → G.testBit i = true) : adn (G ^^^ L) G = 0 := by
  rw [adn_zero]
  intro i hi
  rw [Nat.testBit_xor] at hi
  cases a : G.testBit i
  · cases b : L.testBit i
    · rw [a, b] at hi; cases hi
    · rw [h i b] at a; cases a
  · rfl
theorem xr_le {L G : Nat} (h : ∀ i, L.testBit i = true → G.testBit i = true) : G ^^^ L ≤ G := by
  apply Nat.le_of_testBit
  intro i hi
  exact (adn_zero _ _).mp (xr_sub h) i hi
theorem xr_xr {L G : Nat} : G ^^^ (G ^^^ L) = L := by rw [← Nat.xor_assoc, Nat.xor_self, Nat.zero_xor]
theorem c_firstOfLeast {t : TT} {tb : Nat} {σ : Nat → Int} {u : Bool} {G L l : Nat} {M : Mm} (htb : tb = 4 ∨ tb = 18) (hT : RT t M tb) (hW : WT t) (hG : G < 2 ^ tn t) (hLs : ∀ i, L.testBit i = true → G.testBit i = true) (hLt : L < 2 ^ tn t) (h0 : L ≠ 0) (hl : lok (tn t) l) (hd : dp t σ u L l < 9999) (hB : Blo t σ M) (hR : Rst t σ u G 0 M) : S_Rows_firstOfLeast 62 tb ((G ^^^ L : Nat) : Int) (l : Int) (G : Int) (zo u) M (fun r M' => r = (hL t σ u (L, l) : Int) ∧ M' = M) := by
  have hn := hW.1
  have h7 := pw7 hn
  have at7 := at_tb htb
  obtain ⟨p1, p2, p3, p4, p5⟩ := hL_ok hn (by omega) h0 hd
  have hsub := xr_sub hLs
  have hle := xr_le hLs
  have hdi := dp_in (t := t) (σ := σ) (u := u) hn L (by omega) l
  have e65 : M (62 + 3) ((G ^^^ L) * 8 + l) = dp t σ u L l := by
    have := hR (G ^^^ L) (by omega) hle hsub l hl
    rw [xr_xr] at this
    exact this
  refine e_Rows_firstOfLeast 62 tb _ _ _ _ M fun K hK => w_Rows_firstOfLeast_0 hK 62 atC_62 tb at7 _ _ _ _ M ?_
  have key : ∀ k, k ≤ hL t σ u (L, l) → K NN RRC 3 [(0, vr 62), (1, vr tb), (2, vi ((G ^^^ L : Nat) : Int)), (3, vi (l : Int)), (4, vi (G : Int)), (5, vi (zo u)), (6, vi (k : Int))] [] M := by
    have stp : ∀ k, k ≤ hL t σ u (L, l) → (k < hL t σ u (L, l) → K NN RRC 3 [(0, vr 62), (1, vr tb), (2, vi ((G ^^^ L : Nat) : Int)), (3, vi (l : Int)), (4, vi (G : Int)), (5, vi (zo u)), (6, vi ((k : Int) + 1))] [] M) → K NN RRC 3 [(0, vr 62), (1, vr tb), (2, vi ((G ^^^ L : Nat) : Int)), (3, vi (l : Int)), (4, vi (G : Int)), (5, vi (zo u)), (6, vi (k : Int))] [] M := by
      intro k hk nxt
      have hf := free_z (G := G) (S := G ^^^ L) (h := k) (by omega) (by omega) (by omega) hsub
      rw [xr_xr] at hf
      refine w_Rows_firstOfLeast_3 hK 62 atC_62 tb at7 _ _ _ _ _ M ?_
      rw [hT.1.1]
      refine ⟨by omega, by omega, fun z => by omega, fun _ => ⟨fun z => ?_, fun z => ?_⟩⟩
      · refine w_Rows_firstOfLeast_31 hK 62 atC_62 tb at7 _ _ _ _ _ _ M ⟨by decide, fun _ => nxt ?_, fun y => absurd rfl y⟩
        apply Classical.byContradiction
        intro y
        rw [show k = hL t σ u (L, l) by omega, p2] at hf
        have := hf.mp (by rw [show k = hL t σ u (L, l) by omega] at z; exact z)
        cases this
      · have hg : L.testBit k = true := by
          cases e : L.testBit k
          · exact absurd (hf.mpr e) z
          · rfl
        have hgx : (G ^^^ (G ^^^ L)).testBit k = true := by rw [xr_xr]; exact hg
        have hb := xr_free hsub hgx
        refine w_Rows_firstOfLeast_31 hK 62 atC_62 tb at7 _ _ _ _ _ _ M ⟨by decide, fun y => by omega, fun _ => ⟨_, c_restBy (u := u) htb hT hW (by omega) (by omega) (by omega) hb, ?_⟩⟩
        rintro r M1 ⟨rfl, rfl⟩
        have er : rbM t u M1 (G ^^^ L) l k = cst t σ u L l k := by
          have := rbM_eq (u := u) (l := l) hn hG hB (fun S a b c l' d => hR S (by omega) b c l' d) hsub hl (show k < tn t by omega) hgx hb
          rw [xr_xr] at this
          exact this
        have hc := cst_in (t := t) (σ := σ) (u := u) (L := L) (l := l) (h := k) hn (by omega) (by omega)
        rw [show (((G ^^^ L : Nat) : Int) * 8 + (l : Int)).toNat = (G ^^^ L) * 8 + l by omega, e65, er]
        refine ⟨by omega, by omega, by omega, fun y => nxt ?_, fun y => ⟨?_, rfl⟩⟩
        · apply Classical.byContradiction
          intro w
          rw [show k = hL t σ u (L, l) by omega] at y
          exact y p3
        · have e : k = hL t σ u (L, l) := by
            apply Classical.byContradiction
            intro w
            have := p4 k (by omega)
            unfold pL at this
            rw [hg, decide_eq_true y] at this
            cases this
          rw [e]
    refine up_ind ?_ ?_
    · exact stp _ (Nat.le_refl _) (fun y => by omega)
    · intro k hk ih
      exact stp k (by omega) (fun _ => ih)
  exact key 0 (by omega)
theorem c_layBestRow {t : TT} {tb : Nat} {σ : Nat → Int} {u : Bool} {G : Nat} {M : Mm} (htb : tb = 4 ∨ tb = 18) (hT : RT t M tb) (hW : WT t) (hG : G < 2 ^ tn t) (hd : dp t σ u G 7 < 9999) (hB : Blo t σ M) (hR : Rst t σ u G 0 M) : S_Rows_layBestRow 62 tb (G : Int) (zo u) M (fun M' => (∀ j, j < pcN G → M' 63 j = (gro t σ u (G, 7) j : Int)) ∧ (∀ h, h < tn t → G.testBit h = false → M' 63 (pcN G + cnN G h) = (h : Int)) ∧ FrC (fun c => c = 63) M M') := by
  have hn := hW.1
  have h7 := pw7 hn
  have at7 := at_tb htb
  have hall := cnN_all (tn t) (by omega) G hG
  refine e_Rows_layBestRow 62 tb _ _ M fun K hK => w_Rows_layBestRow_0 hK 62 atC_62 tb at7 _ _ M ?_
  have k95 : ∀ k, k ≤ tn t → ∀ M2 : Mm, (∀ j, j < pcN G → M2 63 j = (gro t σ u (G, 7) j : Int)) → (∀ h, h < k → G.testBit h = false → M2 63 (pcN G + cnN G h) = (h : Int)) → FrC (fun c => c = 63) M M2 → K NN RRC 95 [(0, vr 62), (1, vr tb), (2, vi (G : Int)), (6, vi ((pcN G + cnN G k : Nat) : Int)), (7, vi (k : Int))] [] M2 := by
    refine up_ind ?_ ?_
    · intro M2 s1 s2 s3
      refine w_Rows_layBestRow_95 hK 62 atC_62 tb at7 _ _ _ M2 ?_
      rw [s3 tb (by omega), hT.1.1]
      exact ⟨by omega, by omega, fun _ => ⟨s1, s2, s3⟩, fun z => absurd (Int.le_refl _) z⟩
    · intro k hk ih M2 s1 s2 s3
      have hb := bitz (a := G) (k := k) (by omega) (by omega)
      have hm := cnN_mono (G := G) (h := k + 1) (tn t) (by omega)
      rw [cnN] at ih hm
      refine w_Rows_layBestRow_95 hK 62 atC_62 tb at7 _ _ _ M2 ?_
      rw [s3 tb (by omega), hT.1.1]
      refine ⟨by omega, by omega, fun z => by omega, fun _ => ⟨fun z => ?_, fun z => ?_⟩⟩
      · have hg : G.testBit k = true := by
          cases e : G.testBit k
          · exact absurd (hb.1.mpr e) z
          · rfl
        rw [if_pos hg, Nat.add_zero] at ih
        refine ih M2 s1 (fun h h1 h2 => ?_) s3
        by_cases e : h = k
        · rw [e, hg] at h2; cases h2
        · exact s2 h (by omega) h2
      · have hg := hb.1.mp z
        rw [if_neg (by rw [hg]; exact Bool.false_ne_true)] at ih hm
        refine ⟨by omega, fun y => by omega, fun _ => ⟨by omega, ?_⟩⟩
        rintro M3 rfl
        rw [Int.toNat_natCast]
        refine ih _ (fun j hj => ?_) (fun h h1 h2 => ?_) (s3.tr (FrC.up (c := 62 + 1) rfl))
        · rw [upr_eq, if_pos rfl, up1_eq, if_neg (by omega)]; exact s1 j hj
        · rw [upr_eq, if_pos rfl, up1_eq]
          by_cases e : h = k
          · rw [e, if_pos rfl]
          · have hm2 := cnN_mono (G := G) (h := h + 1) k (by omega)
            rw [cnN, if_neg (by rw [h2]; exact Bool.false_ne_true)] at hm2
            rw [if_neg (by omega)]
            exact s2 h (by omega) h2
  have key : ∀ j, j ≤ pcN G → ∀ M2 : Mm, (∀ i, i < j → M2 63 i = (gro t σ u (G, 7) i : Int)) → FrC (fun c => c = 63) M M2 → K NN RRC 13 [(0, vr 62), (1, vr tb), (2, vi (G : Int)), (3, vi (zo u)), (4, vi ((G ^^^ (stq t σ u (G, 7) j).1 : Nat) : Int)), (5, vi ((stq t σ u (G, 7) j).2 : Int)), (6, vi (j : Int)), (7, vi (j : Int))] [] M2 := by
    refine up_ind ?_ ?_
    · intro M2 s1 s2
      obtain ⟨a, b, c, d, e⟩ := stq_ok hn hG hd (pcN G) (Nat.le_refl _)
      have e0 : (stq t σ u (G, 7) (pcN G)).1 = 0 := by
        apply Classical.byContradiction
        intro y
        have := pcN_pos (by omega) y
        omega
      rw [e0, Nat.xor_zero]
      refine w_Rows_layBestRow_13 hK 62 atC_62 tb at7 _ _ _ _ _ _ M2 ?_
      rw [s2 tb (by omega), hT.1.1]
      have fin := k95 0 (by omega) M2 s1 (fun h hh => by omega) s2
      exact ⟨by omega, by omega, fun _ => fin, fun _ => ⟨by omega, by omega, fun _ => fin, fun y => absurd rfl y⟩⟩
    · intro j hj ih M2 s1 s2
      obtain ⟨a, b, c, d, e⟩ := stq_ok hn hG hd j (by omega)
      have h0 : (stq t σ u (G, 7) j).1 ≠ 0 := fun z => by
        rw [z] at b
        have : pcN 0 = 0 := by decide
        omega
      obtain ⟨p1, p2, p3, p4, p5⟩ := hL_ok (l := (stq t σ u (G, 7) j).2) hn (by omega) h0 d
      have hT2 : RT t M2 tb := hT.fr (fun i _ _ => s2 _ (by omega))
      have hle := xr_le e
      have hsub := xr_sub e
      have hkd := hW.2.1 _ p1
      have hne : G ^^^ (stq t σ u (G, 7) j).1 ≠ G := fun y => by
        apply h0
        have := congrArg (fun z => G ^^^ z) y
        simp only [xr_xr, Nat.xor_self] at this
        exact this
      have hgro : gro t σ u (G, 7) j = hL t σ u ((stq t σ u (G, 7) j).1, (stq t σ u (G, 7) j).2) := rfl
      have hb : (G ^^^ (stq t σ u (G, 7) j).1).testBit (hL t σ u ((stq t σ u (G, 7) j).1, (stq t σ u (G, 7) j).2)) = false := by
        rw [Nat.testBit_xor, p2, e _ p2]; rfl
      rw [stq, nx_] at ih
      refine w_Rows_layBestRow_13 hK 62 atC_62 tb at7 _ _ _ _ _ _ M2 ?_
      rw [s2 tb (by omega), hT.1.1]
      refine ⟨by omega, by omega, fun z => by omega, fun _ => ⟨by omega, by omega, fun y => by omega, fun _ => ⟨_, c_firstOfLeast htb hT2 hW hG e a h0 c d (fun l h p q => by rw [s2 64 (by omega)]; exact hB l h p q) (fun S p q r l s => by rw [s2 65 (by omega)]; exact hR S p q r l s), ?_⟩⟩⟩
      rintro r M3 ⟨rfl, rfl⟩
      refine ⟨by omega, fun y => by omega, fun _ => ⟨by omega, ?_⟩⟩
      rintro M4 rfl
      rw [Int.toNat_natCast]
      refine ⟨_, c_isCat at7 (hT2.fr (fun i _ _ => by rw [upr_eq, if_neg (by omega)])) hW p1, ?_⟩
      rintro r M5 ⟨rfl, rfl⟩
      rw [orI_pow (by omega) (by omega) hb, tg_xr]
      have ex : tg (G ^^^ (stq t σ u (G, 7) j).1) (hL t σ u ((stq t σ u (G, 7) j).1, (stq t σ u (G, 7) j).2)) = G ^^^ tg (stq t σ u (G, 7) j).1 (hL t σ u (stq t σ u (G, 7) j)) := tg_xr
      have fin := ih (upr M3 (62 + 1) (up1 (M3 (62 + 1)) j (hL t σ u ((stq t σ u (G, 7) j).1, (stq t σ u (G, 7) j).2) : Int))) (fun i hi => by
        rw [upr_eq, if_pos rfl, up1_eq]
        by_cases y : i = j
        · rw [y, if_pos rfl, hgro]
        · rw [if_neg y]; exact s1 i (by omega)) (s2.tr (FrC.up (c := 62 + 1) rfl))
      refine ⟨zo_rng _, fun z => ?_, fun z => ?_⟩
      · have := zo_0 z
        unfold nxL at fin
        rw [if_neg (by simpa using this)] at fin
        exact fin
      · have := zo_ne z
        unfold nxL at fin
        rw [if_pos (by simpa using this)] at fin
        exact fin
  have := key 0 (by omega) M (fun i hi => by omega) FrC.rf
  rw [stq, Nat.xor_self] at this
  exact this
theorem goS_l2 {n : Nat} {σ : Nat → Int} : goS n σ < 2 ^ n := by
  have := adn_le (2 ^ n - 1) (σ 4).toNat
  have : 1 ≤ 2 ^ n := Nat.one_le_two_pow
  unfold goS; omega
/-- whether there is an order in which none is shunned -/
def unB (t : TT) (σ : Nat → Int) : Bool := cg t (goS (tn t) σ) 7
theorem dp_un {t : TT} {σ : Nat → Int} (hn : tn t ≤ 7) : dp t σ (unB t σ) (goS (tn t) σ) 7 < 9999 := by
  cases c : unB t σ
  · exact dp_f hn _ goS_l2 7
  · exact (dp_t hn _ goS_l2 7).mpr c
theorem c_findBest {t : TT} {tb B : Nat} {σ : Nat → Int} {M : Mm} (htb : tb = 4 ∨ tb = 18) (hT : RT t M tb) (hW : WT t) (hS : RS (tn t) σ M 42) (hw : WF (tn t) B σ) : S_Rows_findBest 62 tb 42 M (fun M' => M' 62 1 = dp t σ (unB t σ) (goS (tn t) σ) 7 ∧ (∀ j, j < pcN (goS (tn t) σ) → M' 63 j = (gro t σ (unB t σ) (goS (tn t) σ, 7) j : Int)) ∧ (∀ h, h < tn t → (goS (tn t) σ).testBit h = false → M' 63 (pcN (goS (tn t) σ) + cnN (goS (tn t) σ) h) = (h : Int)) ∧ FrC (fun c => (62 ≤ c ∧ c ≤ 66) ∨ c = tb + 13) M M') := by
  have hn := hW.1
  have h7 := pw7 hn
  have at7 := at_tb htb
  have hdu := dp_un (t := t) (σ := σ) hn
  have hun : unB t σ = cg t (goS (tn t) σ) 7 := rfl
  have hG := goS_l2 (n := tn t) (σ := σ)
  refine e_Rows_findBest 62 tb 42 M fun K hK => w_Rows_findBest_0 hK 62 atC_62 tb at7 42 atC_42 M ⟨_, c_findLasts htb hT hW, ?_⟩
  rintro M1 ⟨r1, r2⟩
  refine ⟨_, c_findBlots htb (hT.fr (fun i _ _ => r2 _ (by omega))) hW (hS.fr (fun i hi => r2 _ (by omega))) hw, ?_⟩
  rintro M2 ⟨q1, q2⟩
  rw [q2 tb (by omega), r2 tb (by omega), hT.1.1]
  refine ⟨_, c_goingSet atC_42 (hS.fr (fun i hi => by rw [q2 _ (by omega)]; exact r2 _ (by omega))) hw hn, ?_⟩
  rintro r M3 ⟨rfl, rfl⟩
  have hls := ls_lt (t := t) (S := goS (tn t) σ) hn (by omega)
  have key : ∀ k, k ≤ goS (tn t) σ + 1 → ∀ M4 : Mm, Rst t σ (unB t σ) (goS (tn t) σ) k M4 → Blo t σ M4 → FrC (fun c => (62 ≤ c ∧ c ≤ 66) ∨ c = tb + 13) M M4 → K NN RRC 39 [(0, vr 62), (1, vr tb), (3, vi (goS (tn t) σ : Int)), (4, vi (zo (unB t σ))), (5, vi ((k : Int) - 1))] [] M4 := by
    intro k
    induction k with
    | zero =>
      intro _ M4 s1 s2 s3
      refine w_Rows_findBest_39 hK 62 atC_62 tb at7 _ _ _ M4 ⟨by omega, fun _ => ?_, fun z => by omega⟩
      rintro M5 rfl
      have e7 : M4 (62 + 3) 7 = dp t σ (unB t σ) (goS (tn t) σ) 7 := by
        have := s1 0 (by omega) (by omega) ((adn_zero _ _).mpr (fun i hi => by rw [Nat.zero_testBit] at hi; cases hi)) 7 (Or.inl rfl)
        rw [Nat.xor_zero, Nat.zero_mul, Nat.zero_add] at this
        exact this
      refine ⟨_, c_layBestRow htb ((hT.fr (fun i h1 h2 => s3 _ (by omega))).fr (fun i h1 h2 => by rw [upr_eq, if_neg (by omega)])) hW hG hdu (fun l h a b => by rw [upr_eq, if_neg (by omega)]; exact s2 l h a b) (fun S a b c l d => by rw [upr_eq, if_neg (by omega)]; exact s1 S a b c l d), ?_⟩
      rintro M6 ⟨u1, u2, u3⟩
      refine ⟨?_, u1, u2, (s3.tr (FrC.up (c := 62) (by omega))).tr (u3.wk (fun c hc => by omega))⟩
      rw [u3 62 (by omega), upr_eq, if_pos rfl, up1_eq, if_pos rfl, e7]
    | succ k ih =>
      intro hk M4 s1 s2 s3
      rw [show ((k + 1 : Nat) : Int) - 1 = (k : Int) by omega]
      have eA : andI (k : Int) (xorI (goS (tn t) σ : Int) (-1)) = ((adn k (goS (tn t) σ) : Nat) : Int) := by rw [not_nat (by omega), andn_nat (by omega) (by omega)]
      refine w_Rows_findBest_39 hK 62 atC_62 tb at7 _ _ _ M4 ?_
      rw [eA]
      refine ⟨by omega, fun z => by omega, fun _ => ⟨fun z => ih (by omega) M4 (fun S a b c l d => ?_) s2 s3, fun z => ⟨_, c_findRest htb (hT.fr (fun i h1 h2 => s3 _ (by omega))) hW hG (by omega) (by omega) s2 s1, ?_⟩⟩⟩
      · by_cases e : S = k
        · rw [e] at c; omega
        · exact s1 S (by omega) b c l d
      · rintro M5 ⟨u1, u2⟩
        exact ih (by omega) M5 u1 (fun l h a b => by rw [u2 64 (by omega)]; exact s2 l h a b) (s3.tr (u2.wk (fun c hc => by omega)))
  have e66 : M3 (62 + 4) (goS (tn t) σ) = (ls t (goS (tn t) σ) : Int) := by rw [q2 (62 + 4) (by omega)]; exact r1 _ hG
  have st := key (goS (tn t) σ + 1) (Nat.le_refl _) M3 (fun S a b => by omega) q1 ((r2.wk (fun c hc => by omega)).tr (q2.wk (fun c hc => by omega)))
  rw [show ((goS (tn t) σ + 1 : Nat) : Int) - 1 = (goS (tn t) σ : Int) by omega] at st
  rw [Int.toNat_natCast, e66]
  refine ⟨by omega, by omega, fun z => ?_, fun z => ?_⟩
  · have : unB t σ = false := by
      cases c : unB t σ
      · rfl
      · exact absurd ((ls_iff hn (by omega)).mpr (hun ▸ c)) (by omega)
    rw [this] at st
    exact st
  · have : unB t σ = true := (ls_iff hn (by omega)).mp (by omega)
    rw [this] at st
    exact st
def vBest (t : TT) (σ : Nat → Int) (x : Int) : Int := if x = -1 then dp t σ (unB t σ) (goS (tn t) σ) 7 else if 0 ≤ x ∧ x < tn t then (if x < (pcN (goS (tn t) σ) : Int) then (gro t σ (unB t σ) (goS (tn t) σ, 7) x.toNat : Int) else (ngh (goS (tn t) σ) (tn t) (x.toNat - pcN (goS (tn t) σ)) : Int)) else -2
theorem c_best {t : TT} {tb B : Nat} {M N : Mm} {x : Int} (hx : rng x) (h : Sim t tb B M N) : S_Main_best x M (PC tb M (vBest t (N 34) x)) := by
  obtain ⟨hW, hT, hS, hN, -⟩ := h
  have hn := hW.1
  refine e_Main_best _ M fun K hK => w_Main_best_0 hK _ M ?_
  have k16 : (x = -1 ∨ (0 ≤ x ∧ x < tn t)) → K NN RRC 16 [(0, vr 1), (1, vi x)] [] M := by
    intro hq
    refine w_Main_best_16 hK _ M ⟨tb, hT.2.1, at_tb hT.1, _, c_findBest hT.1 hT.2.2.2.1 hW hN.1 hN.2, ?_⟩
    rintro M1 ⟨a1, a2, a3, a4⟩
    refine ⟨hx, fun z => ⟨by omega, ?_, a4.wk (fun c hc => by omega)⟩, fun z => ⟨?_, a4.wk (fun c hc => by omega)⟩⟩
    · unfold vBest
      rw [if_neg z, if_pos (by omega)]
      by_cases c : x < (pcN (goS (tn t) (N 34)) : Int)
      · rw [if_pos c]
        exact a2 _ (by omega)
      · rw [if_neg c]
        have hall := cnN_all (tn t) (by omega) _ (goS_l2 (n := tn t) (σ := N 34))
        obtain ⟨b1, b2, b3, -⟩ := ngh_ok (G := goS (tn t) (N 34)) (n := tn t) (j := x.toNat - pcN (goS (tn t) (N 34))) (by omega)
        have := a3 _ b1 b2
        rw [b3, show pcN (goS (tn t) (N 34)) + (x.toNat - pcN (goS (tn t) (N 34))) = x.toNat by omega] at this
        exact this
    · unfold vBest
      rw [if_pos z]; exact a1
  refine ⟨hx, fun z => k16 (Or.inl z), fun z => ⟨_, c_isHouse hx hT.1 hT.2.1 hT.2.2.2.1 hW, ?_⟩⟩
  rintro r M1 ⟨rfl, rfl⟩
  refine ⟨zo_rng _, fun q => k16 (Or.inr (by simpa using zo_ne q)), fun q => ⟨?_, FrC.rf⟩⟩
  have := zo_0 q
  unfold vBest
  rw [if_neg z, if_neg (by simpa using this)]
