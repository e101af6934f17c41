/-- one place of a run: the state, the one ahead, what came, what was printed -/
abbrev RN : Type := (Nat → Int) × Int × Int × Int
def rl (t : TT) (σ : Nat → Int) : Nat → RN
  | 0 => (σ, -1, 0, 0)
  | k + 1 =>
    if gosB (rl t σ k).1 ((rl t σ k).1 (5 + k)).toNat = true then
      (pr t (rl t σ k).1 (rl t σ k).2.1 ((rl t σ k).1 (5 + k)).toNat,
       if tkind t ((rl t σ k).1 (5 + k)).toNat = 3 then (rl t σ k).2.1 else (rl t σ k).1 (5 + k),
       (rl t σ k).2.2.1 + prs t (rl t σ k).1 ((rl t σ k).1 (5 + k)).toNat,
       (rl t σ k).2.2.2 + prb t (rl t σ k).1 (rl t σ k).2.1 ((rl t σ k).1 (5 + k)).toNat)
    else rl t σ k
def rn1 (σ : Nat → Int) (x : Int) (h : Nat) : Nat → Int :=
  if gosB σ h = true then up1 σ (19 + h) (min (σ (19 + h) + x) 99) else up1 (up1 σ (19 + h) (min (σ (19 + h) + x) 99)) (12 + h) (min (σ (12 + h) + 1) 20)
def rn (σ : Nat → Int) (x : Int) : Nat → Nat → Int
  | 0 => σ
  | k + 1 => rn1 (rn σ x k) x k
def rainA (t : TT) (σ : Nat → Int) : Int := train t ((σ 0).toNat % tnr t)
/-- a whole run -/
def runS (t : TT) (σ : Nat → Int) : Nat → Int :=
  up1 (rn (rl t σ (tn t)).1 (rainA t (rl t σ (tn t)).1) (tn t)) 0 ((rn (rl t σ (tn t)).1 (rainA t (rl t σ (tn t)).1) (tn t)) 0 + 1)
def cameR (t : TT) (σ : Nat → Int) : Int := (rl t σ (tn t)).2.2.1
def blotR (t : TT) (σ : Nat → Int) : Int := (rl t σ (tn t)).2.2.2
theorem rl_ok {t : TT} {B : Nat} {σ : Nat → Int} (hW : WT t) (hw : WF (tn t) B σ) : ∀ k, k ≤ tn t → (WF (tn t) B (rl t σ k).1 ∧ ((rl t σ k).2.1 = -1 ∨ (0 ≤ (rl t σ k).2.1 ∧ (rl t σ k).2.1 < tn t)) ∧ (rl t σ k).1 4 = σ 4 ∧ (∀ p, p < 7 → (rl t σ k).1 (5 + p) = σ (5 + p)) ∧ (rl t σ k).1 0 = σ 0 ∧ (rl t σ k).1 3 = σ 3)
  | 0, _ => ⟨hw, Or.inl rfl, rfl, fun _ _ => rfl, rfl, rfl⟩
  | k + 1, hk => by
    have hn := hW.1
    obtain ⟨h1, h2, h3, h4, h5, h6⟩ := rl_ok hW hw k (by omega)
    have w5 := h1.2.2.2.2.1 k (by omega)
    unfold rl
    split
    · have hp := pr_keep (t := t) (σ := (rl t σ k).1) (a := (rl t σ k).2.1) (h := ((rl t σ k).1 (5 + k)).toNat) (by omega)
      refine ⟨pr_WF h1 hn (by omega) _, ?_, hp.1.trans h3, fun p hp9 => (hp.2.1 p hp9).trans (h4 p hp9), hp.2.2.1.trans h5, hp.2.2.2.trans h6⟩
      dsimp only
      split
      · exact h2
      · right; omega
    · exact ⟨h1, h2, h3, h4, h5, h6⟩
theorem rn1_WF {n B : Nat} {σ : Nat → Int} {x : Int} {h : Nat} (hw : WF n B σ) (hn : n ≤ 7) (hh : h < n) (hx : 0 ≤ x ∧ x ≤ 9) : WF n B (rn1 σ x h) := by
  have w5 := hw.2.2.2.2.1 h hh
  unfold rn1; split
  · exact hw.wet (by omega) hn (by omega)
  · exact (hw.wet (by omega) hn (by omega)).thk (by omega) hn (by omega)
theorem rn_WF {n B : Nat} {σ : Nat → Int} {x : Int} (hw : WF n B σ) (hn : n ≤ 7) (hx : 0 ≤ x ∧ x ≤ 9) : ∀ k, k ≤ n → WF n B (rn σ x k)
  | 0, _ => hw
  | k + 1, hk => rn1_WF (rn_WF hw hn hx k (by omega)) hn (by omega) hx
theorem rainA_in {t : TT} {σ : Nat → Int} (hW : WT t) : 0 ≤ rainA t σ ∧ rainA t σ ≤ 9 := hW.2.2.2.2.1 _ (Nat.mod_lt _ hW.2.2.1)
theorem runS_WF {t : TT} {B : Nat} {σ : Nat → Int} (hW : WT t) (hw : WF (tn t) B σ) : WF (tn t) (B + 1) (runS t σ) :=
  (rn_WF (rl_ok hW hw _ (Nat.le_refl _)).1 hW.1 (rainA_in hW) _ (Nat.le_refl _)).frt
theorem c_floorMod {M : Mm} {a d : Nat} (ha : a < 2147483648) (h0 : 0 < d) (hd : d < 2147483648) : S_JMath_floorMod (a : Int) (d : Int) M (fun r M' => M' = M ∧ r = ((a % d : Nat) : Int)) := by
  refine W_JMath_floorMod _ _ M ?_
  rw [xorI_nat ha hd, remI_pos ha h0 hd]
  refine ⟨by omega, by omega, fun _ => ⟨rfl, rfl⟩, fun q => absurd (Int.natCast_nonneg _) q⟩
theorem c_rainOf {t : TT} {M : Mm} {b a : Nat} (hb : At shC NN b (.inl 7)) (hT : RT t M b) (hW : WT t) (ha : a < 2147483648) : S_Town_rainOf b (a : Int) M (fun r M' => M' = M ∧ r = train t (a % tnr t)) := by
  have h1 := hW.2.2.1
  have h2 := hW.2.2.2.1
  refine W_Town_rainOf b hb _ M ?_
  rw [hT.1.2.2]
  refine ⟨by omega, fun q => by omega, fun q => ⟨_, c_floorMod ha (by omega) (by omega), ?_⟩⟩
  rintro r M1 ⟨rfl, rfl⟩
  have hm := Nat.mod_lt a h1
  rw [Int.toNat_natCast]
  exact ⟨by omega, rfl, hT.2.2.1 _ hm⟩
theorem c_rainOn {n B : Nat} {σ : Nat → Int} {M : Mm} {b h : Nat} {x : Int} (hb : At shC NN b (.inl 5)) (hS : RS n σ M b) (hw : WF n B σ) (hn : n ≤ 7) (hh : h < n) (hx : 0 ≤ x ∧ x ≤ 9) :
    S_State_rainOn b (h : Int) x M (fun M' => RS n (rn1 σ x h) M' b ∧ FrC (inS b) M M') := by
  have w5 := hw.2.2.2.2.1 h hh
  refine W_State_rainOn b hb _ _ M ?_
  rw [Int.toNat_natCast, (hS.2 h hh).2.2.1]
  refine ⟨by omega, by omega, by omega, ?_⟩
  rintro M1 rfl
  have hS1 := hS.wet hn (by omega : h < 7) (min (σ (19 + h) + x) 99)
  have hw1 := hw.wet (by omega : h < 7) hn (v := min (σ (19 + h) + x) 99) (by omega)
  have hg : gosB (up1 σ (19 + h) (min (σ (19 + h) + x) 99)) h = gosB σ h := by
    unfold gosB
    rw [up1_eq, if_neg (by omega)]
  refine ⟨_, c_goes hb hS1 hw1 (by omega), ?_⟩
  rintro r M2 ⟨rfl, rfl⟩
  rw [hg]
  refine ⟨zo_rng _, fun q => ?_, fun q => ?_⟩
  · have q1 : gosB σ h = true := by simpa using q
    refine ⟨?_, FrC.up (by omega)⟩
    unfold rn1; rw [if_pos q1]; exact hS1
  · have q1 : ¬ gosB σ h = true := by simpa using q
    have e : (upr M (b + 2) (up1 (M (b + 2)) h (min (σ (19 + h) + x) 99))) (b + 1) h = σ (12 + h) := by
      rw [upr_eq, if_neg (by omega)]; exact (hS.2 h hh).2.1
    rw [e]
    refine ⟨by omega, by omega, by omega, ?_⟩
    rintro M3 rfl
    refine ⟨?_, (FrC.up (by omega)).tr (FrC.up (by omega))⟩
    unfold rn1; rw [if_neg q1]
    exact hS1.thk hn (by omega) _
theorem c_drawThrough {t : TT} {B : Nat} {σ : Nat → Int} {M : Mm} {b b1 b2 : Nat} (hb : At shC NN b (.inl 1)) (hb1 : At shC NN b1 (.inl 7)) (hb2 : At shC NN b2 (.inl 5)) (hT : RT t M b1) (hW : WT t) (hS : RS (tn t) σ M b2) (hw : WF (tn t) B σ) (hB : B < 1000000) :
    S_Mangle_drawThrough b b1 b2 M (fun M' => RS (tn t) (runS t σ) M' b2 ∧ RT t M' b1 ∧ M' b 0 = cameR t σ ∧ (M' b 1 = blotR t σ ∧ ∀ k, 2 ≤ k → M' b k = M b k) ∧ FrC (fun c => c = b ∨ c = b1 + 10 ∨ c = b1 + 13 ∨ inS b2 c) M M') := by
  have hn := hW.1
  have lb := mangle_at hb
  have lb1 := town_at hb1
  have lb2 := st_at hb2
  refine e_Mangle_drawThrough b b1 b2 M fun K hK => w_Mangle_drawThrough_0 hK b hb b1 hb1 b2 hb2 M ?_
  rintro M1 rfl M2 rfl
  -- the rains
  have k86 : ∀ k, k ≤ tn t → ∀ M7 : Mm, RS (tn t) (rn (rl t σ (tn t)).1 (rainA t (rl t σ (tn t)).1) k) M7 b2 → RT t M7 b1 → M7 b 0 = cameR t σ → (M7 b 1 = blotR t σ ∧ ∀ k, 2 ≤ k → M7 b k = M b k) → FrC (fun c => c = b ∨ c = b1 + 10 ∨ c = b1 + 13 ∨ inS b2 c) M M7 → K NN RRC 86 [(1, vr b1), (2, vr b2), (4, vi (rainA t (rl t σ (tn t)).1)), (5, vi (k : Int))] [] M7 := by
    have ok := rl_ok hW hw (tn t) (Nat.le_refl _)
    refine up_ind ?_ ?_
    · intro M7 hS7 hT7 h70 h71 hf7
      refine w_Mangle_drawThrough_86 hK b1 hb1 b2 hb2 _ _ M7 ?_
      rw [hT7.1.1]
      refine ⟨by omega, by omega, fun _ => ?_, fun q => absurd (Int.le_refl _) q⟩
      rintro M8 rfl
      rw [hS7.1.1]
      exact ⟨hS7.frt _, hT7.fr (fun i h1 h2 => by rw [upr_eq, if_neg (by omega)]), by rw [upr_eq, if_neg (by omega)]; exact h70, by rw [upr_eq, if_neg (by omega)]; exact h71, hf7.tr (FrC.up (by omega))⟩
    · intro k hk ih M7 hS7 hT7 h70 h71 hf7
      refine w_Mangle_drawThrough_86 hK b1 hb1 b2 hb2 _ _ M7 ?_
      rw [hT7.1.1]
      refine ⟨by omega, by omega, fun q => by omega, fun q => ⟨_, c_rainOn hb2 hS7 (rn_WF ok.1 hn (rainA_in hW) k (by omega)) hn hk (rainA_in hW), ?_⟩⟩
      rintro M8 ⟨hS8, hf8⟩
      exact ih M8 hS8 (hT7.fr (fun i h1 h2 => hf8 _ (by omega))) (by rw [hf8 b (by omega)]; exact h70) (by rw [hf8 b (by omega)]; exact h71) (hf7.tr (hf8.wk (fun c hc => by omega)))
  -- the places
  have k15 : ∀ k, k ≤ tn t → ∀ M3 : Mm, RS (tn t) (rl t σ k).1 M3 b2 → RT t M3 b1 → M3 b 0 = (rl t σ k).2.2.1 → (M3 b 1 = (rl t σ k).2.2.2 ∧ ∀ k, 2 ≤ k → M3 b k = M b k) → FrC (fun c => c = b ∨ c = b1 + 10 ∨ c = b1 + 13 ∨ inS b2 c) M M3 → K NN RRC 15 [(0, vr b), (1, vr b1), (2, vr b2), (3, vi (rl t σ k).2.1), (4, vi (k : Int))] [] M3 := by
    refine up_ind ?_ ?_
    · intro M3 hS3 hT3 h30 h31 hf3
      have ok := rl_ok hW hw (tn t) (Nat.le_refl _)
      refine w_Mangle_drawThrough_15 hK b hb b1 hb1 b2 hb2 _ _ M3 ?_
      rw [hT3.1.1, hS3.1.1]
      refine ⟨by omega, by omega, fun _ => ?_, fun q => absurd (Int.le_refl _) q⟩
      obtain ⟨f, hf⟩ : ∃ f : Nat, (rl t σ (tn t)).1 0 = (f : Int) := ⟨((rl t σ (tn t)).1 0).toNat, by have := ok.1.1; omega⟩
      have hfb := ok.1.1.2
      rw [hf] at hfb ⊢
      refine ⟨_, c_rainOf hb1 hT3 hW (by omega), ?_⟩
      rintro r M4 ⟨rfl, rfl⟩
      have e : train t (f % tnr t) = rainA t (rl t σ (tn t)).1 := by unfold rainA; rw [hf, Int.toNat_natCast]
      rw [e]
      exact k86 0 (by omega) M4 hS3 hT3 h30 h31 hf3
    · intro k hk ih M3 hS3 hT3 h30 h31 hf3
      obtain ⟨ow, oa, o4, o5, o0, o3⟩ := rl_ok hW hw k (by omega)
      have w5 := ow.2.2.2.2.1 k hk
      refine w_Mangle_drawThrough_15 hK b hb b1 hb1 b2 hb2 _ _ M3 ?_
      rw [hT3.1.1, Int.toNat_natCast, (hS3.2 k hk).1]
      obtain ⟨h, hh⟩ : ∃ h : Nat, (rl t σ k).1 (5 + k) = (h : Int) := ⟨((rl t σ k).1 (5 + k)).toNat, by omega⟩
      have hlt : h < tn t := by omega
      have ek : ((rl t σ k).1 (5 + k)).toNat = h := by rw [hh, Int.toNat_natCast]
      rw [hh]
      refine ⟨by omega, by omega, fun q => by omega, fun q => ⟨by omega, _, c_goes hb2 hS3 ow (by omega), ?_⟩⟩
      rintro r M4 ⟨rfl, rfl⟩
      refine ⟨zo_rng _, fun q2 => ?_, fun q2 => ?_⟩
      · have g : ¬ gosB (rl t σ k).1 h = true := by simpa using q2
        have e : rl t σ (k + 1) = rl t σ k := by rw [rl, ek, if_neg g]
        have ih2 := ih M4
        rw [e] at ih2
        exact ih2 hS3 hT3 h30 h31 hf3
      · have g : gosB (rl t σ k).1 h = true := by simpa using q2
        have e : rl t σ (k + 1) = (pr t (rl t σ k).1 (rl t σ k).2.1 h, if tkind t h = 3 then (rl t σ k).2.1 else (h : Int), (rl t σ k).2.2.1 + prs t (rl t σ k).1 h, (rl t σ k).2.2.2 + prb t (rl t σ k).1 (rl t σ k).2.1 h) := by rw [rl, ek, if_pos g, hh]
        refine ⟨_, c_pressOne hb hb1 hb2 hT3 hW hS3 ow hlt oa, ?_⟩
        rintro M5 ⟨hS5, hT5, h50, h51, hf5⟩
        refine ⟨_, c_isCat hb1 hT5 hW hlt, ?_⟩
        rintro r M6 ⟨rfl, rfl⟩
        have ih2 := ih M6
        rw [e] at ih2
        have ih3 := ih2 hS5 hT5 (by rw [h50, h30]) ⟨by rw [h51.1, h31.1], fun k hk => by rw [h51.2 k hk, h31.2 k hk]⟩ (hf3.tr hf5)
        refine ⟨zo_rng _, fun q3 => ?_, fun q3 => ?_⟩
        · have g3 : ¬ tkind t h = 3 := by simpa using q3
          dsimp only at ih3
          rw [if_neg g3] at ih3
          exact ih3
        · have g3 : tkind t h = 3 := by simpa using q3
          dsimp only at ih3
          rw [if_pos g3] at ih3
          exact ih3
  refine k15 0 (by omega) _ (hS.fr (fun i hi => by rw [upr_eq, if_neg (by omega), upr_eq, if_neg (by omega)])) (hT.fr (fun i h1 h2 => by rw [upr_eq, if_neg (by omega), upr_eq, if_neg (by omega)])) ?_ ?_ ((FrC.up (Or.inl rfl)).tr (FrC.up (Or.inl rfl)))
  · simp [upr_eq, up1_eq, rl]
  · refine ⟨by simp [upr_eq, up1_eq, rl], fun k hk => ?_⟩
    rw [upr_eq, if_pos rfl, up1_eq, if_neg (by omega), upr_eq, if_pos rfl, up1_eq, if_neg (by omega)]
