theorem divL_pos {a d : Nat} (ha : a < 9223372036854775808) (h0 : 0 < d) (hd : d < 9223372036854775808) : divL (a : Int) (d : Int) = ((a / d : Nat) : Int) := by
  unfold divL
  have h1 := Nat.div_le_self a d
  have h9 : (0 : Int) ≤ ((a / d : Nat) : Int) := Int.natCast_nonneg _
  rw [Int64.toInt_div, oL ⟨by omega, by omega⟩, oL ⟨by omega, by omega⟩, ← Int.ofNat_tdiv]
  exact Int.bmod_eq_of_le (by omega) (by omega)
theorem remL_pos {a d : Nat} (ha : a < 9223372036854775808) (h0 : 0 < d) (hd : d < 9223372036854775808) : remL (a : Int) (d : Int) = ((a % d : Nat) : Int) := by
  have h1 : Int64.ofInt (a : Int) / Int64.ofInt (d : Int) = Int64.ofInt ((a / d : Nat) : Int) := by
    apply Int64.toInt_inj.mp
    have h2 := Nat.div_le_self a d
    have h9 : (0 : Int) ≤ ((a / d : Nat) : Int) := Int.natCast_nonneg _
    rw [oL (x := ((a / d : Nat) : Int)) ⟨by omega, by omega⟩]
    exact divL_pos ha h0 hd
  unfold remL
  have h3 : (a : Int) - ((a / d : Nat) : Int) * (d : Int) = ((a % d : Nat) : Int) := by
    have h4 := Nat.div_add_mod a d
    have h5 : ((a / d : Nat) : Int) * (d : Int) = ((d * (a / d) : Nat) : Int) := by rw [← Int.natCast_mul, Nat.mul_comm]
    rw [h5]
    omega
  have h6 := Nat.mod_lt a h0
  rw [h1, ← Int64.ofInt_mul, ← Int64.ofInt_sub, h3, oL ⟨by omega, by omega⟩]
def lcg (g : Nat) : Nat := (g * 1103515245 + 12345) % 2147483648
theorem lcg_lt (g : Nat) : lcg g < 2147483648 := Nat.mod_lt _ (by omega)
theorem lcg_of {g : Nat} (h : g < 2147483648) : remL ((g : Int) * 1103515245 + 12345) 2147483648 = (lcg g : Int) := by
  have := remL_pos (a := g * 1103515245 + 12345) (d := 2147483648) (by omega) (by omega) (by omega)
  exact this
theorem drw_of {g d : Nat} (h : g < 2147483648) (h0 : 0 < d) (hd : d < 1000) : remL (divL (g : Int) 65536) (d : Int) = ((g / 65536 % d : Nat) : Int) := by
  have h1 := divL_pos (a := g) (d := 65536) (by omega) (by omega) (by omega)
  have h2 : divL (g : Int) 65536 = ((g / 65536 : Nat) : Int) := h1
  rw [h2]
  exact remL_pos (by omega) h0 (by omega)
theorem c_drawBelow {M : Mm} {g d : Nat} (hg : M 61 6 = (g : Int)) (h : g < 2147483648) (h0 : 0 < d) (hd : d < 1000) :
    S_Mangle_drawBelow 61 (d : Int) M (fun r M' => r = ((lcg g / 65536 % d : Nat) : Int) ∧ M' = upr M 61 (up1 (M 61) 6 (lcg g : Int))) := by
  refine W_Mangle_drawBelow 61 atC_61 _ M ?_
  rintro M1 rfl
  rw [hg, lcg_of h]
  refine ⟨by omega, fun z => by omega, fun _ => ⟨by omega, by omega, by omega, ?_⟩⟩
  rw [upr_eq, if_pos rfl, up1_eq, if_pos rfl, drw_of (lcg_lt g) h0 hd]
  exact ⟨rfl, rfl⟩
theorem m_draws {N : Mm} {g d : Nat} (hg : N 1 61 = (g : Int)) (h : g < 2147483648) (h0 : 0 < d) (hd : d < 1000) :
    S_Mod_draws (d : Int) N (fun r N' => r = ((lcg g / 65536 % d : Nat) : Int) ∧ N' = upr N 1 (up1 (N 1) 61 (lcg g : Int))) := by
  refine W_Mod_draws _ N ?_
  rintro N1 rfl
  rw [hg, lcg_of h]
  refine ⟨by omega, by omega, by omega, ?_⟩
  rw [upr_eq, if_pos rfl, up1_eq, if_pos rfl, drw_of (lcg_lt g) h0 hd]
  exact ⟨rfl, rfl⟩
def shfS (t : TT) (σ : Nat → Int) (g : Nat) : Nat → Int :=
  if tn t = 0 then σ else
    (if lcg (lcg (lcg g)) / 65536 % 4 = 0 then up1 (mv σ (plo σ ((lcg g / 65536 % tn t : Nat) : Int) (tn t)) (lcg (lcg g) / 65536 % tn t)) 4 (xorI ((mv σ (plo σ ((lcg g / 65536 % tn t : Nat) : Int) (tn t)) (lcg (lcg g) / 65536 % tn t)) 4) (shlI 1 ((lcg g / 65536 % tn t : Nat) : Int))) else mv σ (plo σ ((lcg g / 65536 % tn t : Nat) : Int) (tn t)) (lcg (lcg g) / 65536 % tn t))
def shfG (t : TT) (g : Nat) : Nat := if tn t = 0 then g else lcg (lcg (lcg g))
theorem shfS_WF {t : TT} {B : Nat} {σ : Nat → Int} {g : Nat} (hW : WT t) (hw : WF (tn t) B σ) : WF (tn t) B (shfS t σ g) := by
  have hn := hW.1
  unfold shfS
  by_cases q : tn t = 0
  · rw [if_pos q]; exact hw
  · rw [if_neg q]
    have h1 := Nat.mod_lt (lcg g / 65536) (show 0 < tn t by omega)
    have h2 := Nat.mod_lt (lcg (lcg g) / 65536) (show 0 < tn t by omega)
    have w := mv_WF hw hn (plo_lt hw h1).1 h2
    split
    · exact rod_ok w hn h1
    · exact w
theorem c_shuffle {t : TT} {B : Nat} {σ : Nat → Int} {M : Mm} {b1 b2 g : Nat} (hb1 : At shC NN b1 (.inl 7)) (hb2 : At shC NN b2 (.inl 5)) (hT : RT t M b1) (hW : WT t) (hS : RS (tn t) σ M b2) (hw : WF (tn t) B σ) (hn0 : tn t ≠ 0) (hg : M 61 6 = (g : Int)) (hgl : g < 2147483648) :
    S_Mangle_shuffle 61 b1 b2 M (fun M' => RS (tn t) (shfS t σ g) M' b2 ∧ RT t M' b1 ∧ M' 61 = up1 (M 61) 6 (shfG t g : Int) ∧ FrC (frD b1 b2) M M') := by
  have hn := hW.1
  have lb1 := town_at hb1
  have lb2 := st_at hb2
  have h1 := Nat.mod_lt (lcg g / 65536) (show 0 < tn t by omega)
  have h2 := Nat.mod_lt (lcg (lcg g) / 65536) (show 0 < tn t by omega)
  refine W_Mangle_shuffle 61 atC_61 b1 hb1 b2 hb2 M ?_
  rw [hT.1.1]
  refine ⟨_, c_drawBelow hg hgl (by omega) (by omega), ?_⟩
  rintro r1 M1 ⟨rfl, hM1⟩
  have f1 : ∀ c, c ≠ 61 → M1 c = M c := fun c hc => by rw [hM1, upr_eq, if_neg hc]
  have g1 : M1 61 = up1 (M 61) 6 (lcg g : Int) := by rw [hM1, upr_eq, if_pos rfl]
  rw [f1 b1 (by omega), hT.1.1]
  refine ⟨_, c_drawBelow (M := M1) (g := lcg g) (by rw [g1, up1_eq, if_pos rfl]) (lcg_lt _) (by omega) (by omega), ?_⟩
  rintro r2 M2 ⟨rfl, hM2⟩
  have f2 : ∀ c, c ≠ 61 → M2 c = M c := fun c hc => by rw [hM2, upr_eq, if_neg hc, f1 c hc]
  have g2 : M2 61 = up1 (M 61) 6 (lcg (lcg g) : Int) := by
    rw [hM2, upr_eq, if_pos rfl, g1]; funext j; simp only [up1_eq]; split <;> rfl
  rw [f2 b1 (by omega), hT.1.1]
  have hS2 := hS.fr (M' := M2) (fun i hi => f2 _ (by omega))
  have hp := plo_lt hw h1
  refine ⟨_, c_moveTo hb2 hS2 hw hn hp.1 hp.2 h2, ?_⟩
  rintro r3 M3 ⟨rfl, hS3, f3⟩
  have g3 : M3 61 = up1 (M 61) 6 (lcg (lcg g) : Int) := by rw [f3 61 (by omega), g2]
  refine ⟨_, c_drawBelow (M := M3) (g := lcg (lcg g)) (d := 4) (by rw [g3, up1_eq, if_pos rfl]) (lcg_lt _) (by omega) (by omega), ?_⟩
  rintro r4 M4 ⟨rfl, hM4⟩
  have f4 : ∀ c, c ≠ 61 → M4 c = M3 c := fun c hc => by rw [hM4, upr_eq, if_neg hc]
  have g4 : M4 61 = up1 (M 61) 6 (shfG t g : Int) := by
    unfold shfG
    rw [if_neg hn0, hM4, upr_eq, if_pos rfl, g3]; funext j; simp only [up1_eq]; split <;> rfl
  have hS4 := hS3.fr (M' := M4) (fun i hi => f4 _ (by omega))
  have hT4 : RT t M4 b1 := hT.fr (fun i _ _ => by rw [f4 _ (by omega), f3 _ (by omega), f2 _ (by omega)])
  have hF4 : FrC (frD b1 b2) M M4 := fun c hc => by rw [f4 c (by omega), f3 c (by omega), f2 c (by omega)]
  have h4 := Nat.mod_lt (lcg (lcg (lcg g)) / 65536) (show 0 < 4 by omega)
  refine ⟨by omega, fun z => ⟨?_, hT4, g4, hF4⟩, fun z => ?_⟩
  · unfold shfS
    rw [if_neg hn0, if_neg (by omega)]; exact hS4
  · refine ⟨fun M' => M' = upr M4 b2 (up1 (M4 b2) 4 (xorI (M4 b2 4) (shlI 1 ((lcg g / 65536 % tn t : Nat) : Int)))), W_State_turnRoad b2 hb2 _ M4 (fun _ e => e), ?_⟩
    rintro M5 rfl
    refine ⟨?_, hT4.fr (fun i _ _ => by rw [upr_eq, if_neg (by omega)]), by rw [upr_eq, if_neg (by omega)]; exact g4, hF4.tr (FrC.up (by omega))⟩
    unfold shfS
    rw [if_neg hn0, if_pos (by omega), hS4.1.2.2.2.2]
    exact hS4.rod _
theorem m_livesAhead {t : TT} {B : Nat} {σ : Nat → Int} {N : Mm} {g : Nat} (hT : RM t N) (hW : WT t) (hS : N 34 = σ) (hw : WF (tn t) B σ) (hg : N 1 61 = (g : Int)) (hgl : g < 2147483648) :
    S_Mod_livesAhead N (fun N' => N' 34 = shfS t σ g ∧ N' 1 61 = (shfG t g : Int) ∧ FrM (fun c => c = 34) (fun k => k = 61) N N') := by
  have hn := hW.1
  refine W_Mod_livesAhead N ?_
  rw [hT.1.1]
  refine ⟨by omega, fun q => ?_, fun q => ⟨?_, ?_, FrM.rf⟩⟩
  · have h1 := Nat.mod_lt (lcg g / 65536) (show 0 < tn t by omega)
    have h2 := Nat.mod_lt (lcg (lcg g) / 65536) (show 0 < tn t by omega)
    refine ⟨_, m_draws hg hgl (by omega) (by omega), ?_⟩
    rintro r1 N1 ⟨rfl, hN1⟩
    have f1 : ∀ c, c ≠ 1 → N1 c = N c := fun c hc => by rw [hN1, upr_eq, if_neg hc]
    rw [f1 3 (by omega), hT.1.1]
    refine ⟨_, m_draws (N := N1) (g := lcg g) (by rw [hN1, upr_eq, if_pos rfl, up1_eq, if_pos rfl]) (lcg_lt _) (by omega) (by omega), ?_⟩
    rintro r2 N2 ⟨rfl, hN2⟩
    have f2 : ∀ c, c ≠ 1 → N2 c = N c := fun c hc => by rw [hN2, upr_eq, if_neg hc, f1 c hc]
    have F2 : FrM (fun c => c = 34) (fun k => k = 61) N N2 := ⟨fun c h1 _ => f2 c h1, fun k hk => by rw [hN2, upr_eq, if_pos rfl, up1_eq, if_neg hk, hN1, upr_eq, if_pos rfl, up1_eq, if_neg hk]⟩
    have hp := plo_lt hw h1
    refine ⟨_, m_laysAt (hT.frM F2 (by omega) (fun c _ _ => by omega)) hW (by rw [f2 34 (by omega)]; exact hS) hw hp.1 hp.2 h2, ?_⟩
    rintro N3 ⟨hS3, f3⟩
    have e61 : N3 1 61 = (lcg (lcg g) : Int) := by rw [f3.2 61 (fun z => z), hN2, upr_eq, if_pos rfl, up1_eq, if_pos rfl]
    refine ⟨_, m_draws (N := N3) (g := lcg (lcg g)) (d := 4) e61 (lcg_lt _) (by omega) (by omega), ?_⟩
    rintro r4 N4 ⟨rfl, hN4⟩
    have F4 : FrM (fun c => c = 34) (fun k => k = 61) N N4 := (F2.tr (f3.wk (fun c hc => hc) (fun _ z => z.elim))).tr (by rw [hN4]; exact FrM.u1 rfl)
    have g4 : N4 1 61 = (shfG t g : Int) := by
      unfold shfG
      rw [if_neg (by omega), hN4, upr_eq, if_pos rfl, up1_eq, if_pos rfl]
    have e34 : N4 34 = mv σ (plo σ ((lcg g / 65536 % tn t : Nat) : Int) (tn t)) (lcg (lcg g) / 65536 % tn t) := by rw [hN4, upr_eq, if_neg (by omega)]; exact hS3
    have h4 := Nat.mod_lt (lcg (lcg (lcg g)) / 65536) (show 0 < 4 by omega)
    refine ⟨by omega, fun z => ⟨?_, g4, F4⟩, fun z => ?_⟩
    · unfold shfS
      rw [if_neg (by omega), if_neg (by omega)]; exact e34
    · rintro N5 rfl
      refine ⟨?_, by rw [upr_eq, if_neg (by omega)]; exact g4, F4.tr (FrM.up rfl (by omega))⟩
      unfold shfS
      rw [if_neg (by omega), if_pos (by omega), upr_eq, if_pos rfl, e34]
  · unfold shfS
    rw [if_pos (by omega)]; exact hS
  · unfold shfG
    rw [if_pos (by omega)]; exact hg
def decS (t : TT) (σ0 : Nat → Int) (g0 : Nat) : Nat → (Nat → Int) × Nat × Int × Int
  | 0 => (σ0, g0, 0, 0)
  | k + 1 => (if 9 ≤ (runS t (shfS t (decS t σ0 g0 k).1 (decS t σ0 g0 k).2.1)) 2 then slS (runS t (shfS t (decS t σ0 g0 k).1 (decS t σ0 g0 k).2.1)) 9 (tprice t) else runS t (shfS t (decS t σ0 g0 k).1 (decS t σ0 g0 k).2.1), shfG t (decS t σ0 g0 k).2.1, (decS t σ0 g0 k).2.2.1 + cameR t (shfS t (decS t σ0 g0 k).1 (decS t σ0 g0 k).2.1), (decS t σ0 g0 k).2.2.2 + blotR t (shfS t (decS t σ0 g0 k).1 (decS t σ0 g0 k).2.1))
theorem decS_ok {t : TT} {σ0 : Nat → Int} {g0 B : Nat} (hW : WT t) (hw : WF (tn t) B σ0) (hg : g0 < 2147483648) : ∀ k, WF (tn t) (B + k) (decS t σ0 g0 k).1 ∧ (decS t σ0 g0 k).2.1 < 2147483648
  | 0 => ⟨hw, hg⟩
  | k + 1 => by
    obtain ⟨a, b⟩ := decS_ok hW hw hg k
    refine ⟨?_, ?_⟩
    · have w := runS_WF hW (shfS_WF (g := (decS t σ0 g0 k).2.1) hW a)
      show WF _ _ (if _ then _ else _)
      split
      · next q => exact slS_WF w hW.1 (by omega) q
      · exact w
    · show shfG _ _ < _
      unfold shfG
      split
      · exact b
      · exact lcg_lt _
theorem c_passDecades {t : TT} {B F g0 : Nat} {σ : Nat → Int} {M : Mm} {b1 b2 : Nat} (hb1 : At shC NN b1 (.inl 7)) (hb2 : At shC NN b2 (.inl 5)) (hT : RT t M b1) (hW : WT t) (hS : RS (tn t) σ M b2) (hw : WF (tn t) B σ) (hB : B < 100000) (hF : F ≤ 99) (hg : g0 ≤ 9999) :
    S_Mangle_passDecades 61 b1 b2 (g0 : Int) (F : Int) M (fun M' => RS (tn t) (decS t σ g0 F).1 M' b2 ∧ M' 61 4 = (decS t σ g0 F).2.2.1 ∧ M' 61 5 = (decS t σ g0 F).2.2.2 ∧ FrC (frD b1 b2) M M') := by
  have hn := hW.1
  have lb1 := town_at hb1
  have lb2 := st_at hb2
  refine e_Mangle_passDecades 61 b1 b2 _ _ M fun K hK => w_Mangle_passDecades_0 hK 61 atC_61 b1 hb1 b2 hb2 _ _ M ⟨by omega, ?_⟩
  intro M1 h1 M2 h2 M3 h3
  have e3 : ∀ c, c ≠ 61 → M3 c = M c := fun c hc => by rw [h3, upr_eq, if_neg hc, h2, upr_eq, if_neg hc, h1, upr_eq, if_neg hc]
  have key : ∀ k, k ≤ F → ∀ M1 : Mm, RS (tn t) (decS t σ g0 k).1 M1 b2 → RT t M1 b1 → M1 61 6 = ((decS t σ g0 k).2.1 : Int) → M1 61 4 = (decS t σ g0 k).2.2.1 → M1 61 5 = (decS t σ g0 k).2.2.2 → FrC (frD b1 b2) M M1 → K NN RRC 19 [(0, vr 61), (1, vr b1), (2, vr b2), (4, vi (F : Int)), (5, vi (k : Int))] [] M1 := by
    refine up_ind ?_ ?_
    · intro M1 s1 s2 s3 s4 s5 s6
      exact w_Mangle_passDecades_19 hK 61 atC_61 b1 hb1 b2 hb2 _ _ M1 ⟨by omega, by omega, fun _ => ⟨s1, s4, s5, s6⟩, fun z => absurd (Int.le_refl _) z⟩
    · intro k hk ih M1 s1 s2 s3 s4 s5 s6
      obtain ⟨w1, w2⟩ := decS_ok hW hw (show g0 < 2147483648 by omega) k
      have k39 : ∀ M2 : Mm, RS (tn t) (shfS t (decS t σ g0 k).1 (decS t σ g0 k).2.1) M2 b2 → RT t M2 b1 → M2 61 6 = (shfG t (decS t σ g0 k).2.1 : Int) → M2 61 4 = (decS t σ g0 k).2.2.1 → M2 61 5 = (decS t σ g0 k).2.2.2 → FrC (frD b1 b2) M M2 → K NN RRC 39 [(0, vr 61), (1, vr b1), (2, vr b2), (4, vi (F : Int)), (5, vi (k : Int))] [] M2 := by
        intro M2 r1 r2 r3 r4 r5 r6
        have w3 := shfS_WF (g := (decS t σ g0 k).2.1) hW w1
        refine w_Mangle_passDecades_39 hK 61 atC_61 b1 hb1 b2 hb2 _ _ M2 ⟨_, c_drawThrough atC_61 hb1 hb2 r2 hW r1 w3 (by omega), ?_⟩
        rintro M3 ⟨q1, q2, q3, ⟨q4, q5⟩, q6⟩
        intro M4 h4 M5 h5
        have f5 : ∀ c, c ≠ 61 → M5 c = M3 c := fun c hc => by rw [h5, upr_eq, if_neg hc, h4, upr_eq, if_neg hc]
        have hT5 : RT t M5 b1 := q2.fr (fun i _ _ => f5 _ (by omega))
        rw [f5 b1 (by omega), q2.1.2.1]
        refine ⟨_, c_sellPints hb2 (q1.fr (M' := M5) (fun i hi => f5 _ (by omega))) (runS_WF hW w3) (by omega), ?_⟩
        rintro r M6 ⟨rfl, p1, p2⟩
        have e4 : M4 61 = up1 (M3 61) 4 (M3 61 4 + M3 61 0) := by rw [h4, upr_eq, if_pos rfl]
        have e5 : M6 61 = up1 (M4 61) 5 (M4 61 5 + M4 61 1) := by rw [p2 61 (by omega), h5, upr_eq, if_pos rfl]
        refine ih M6 p1 (hT5.fr (fun i _ _ => p2 _ (by omega))) ?_ ?_ ?_ (((r6.tr (q6.wk (fun c hc => hc))).tr (fun c hc => f5 c (by omega))).tr (p2.wk (fun c hc => by omega)))
        · rw [e5, e4, up1_eq, if_neg (by omega), up1_eq, if_neg (by omega), q5 6 (by omega)]; exact r3
        · rw [e5, e4, up1_eq, if_neg (by omega), up1_eq, if_pos rfl, q5 4 (by omega), r4, q3]; rfl
        · rw [e5, e4, up1_eq, if_pos rfl, up1_eq, if_neg (by omega), up1_eq, if_neg (by omega), q5 5 (by omega), r5, q4]; rfl
      refine w_Mangle_passDecades_19 hK 61 atC_61 b1 hb1 b2 hb2 _ _ M1 ?_
      rw [s2.1.1]
      refine ⟨by omega, by omega, fun z => by omega, fun _ => ⟨by omega, fun z => k39 M1 ?_ s2 ?_ s4 s5 s6, fun z => ⟨_, c_shuffle hb1 hb2 s2 hW s1 w1 (by omega) s3 w2, ?_⟩⟩⟩
      · unfold shfS; rw [if_pos (by omega)]; exact s1
      · unfold shfG; rw [if_pos (by omega)]; exact s3
      · rintro M2 ⟨q1, q2, q3, q4⟩
        refine k39 M2 q1 q2 ?_ ?_ ?_ (s6.tr q4)
        · rw [q3, up1_eq, if_pos rfl]
        · rw [q3, up1_eq, if_neg (by omega)]; exact s4
        · rw [q3, up1_eq, if_neg (by omega)]; exact s5
  refine key 0 (by omega) M3 (hS.fr (fun i hi => e3 _ (by omega))) (hT.fr (fun i _ _ => e3 _ (by omega))) ?_ ?_ ?_ (fun c hc => e3 c (by omega))
  · rw [h3, upr_eq, if_pos rfl, up1_eq, if_neg (by omega), h2, upr_eq, if_pos rfl, up1_eq, if_neg (by omega), h1, upr_eq, if_pos rfl, up1_eq, if_pos rfl]; rfl
  · rw [h3, upr_eq, if_pos rfl, up1_eq, if_neg (by omega), h2, upr_eq, if_pos rfl, up1_eq, if_pos rfl]; rfl
  · rw [h3, upr_eq, if_pos rfl, up1_eq, if_pos rfl]; rfl
def vDec (t : TT) (σ : Nat → Int) (g F : Nat) (x : Int) : Int := if x = 0 then (decS t σ g F).2.2.1 else if x = 1 then (decS t σ g F).2.2.2 else (decS t σ g F).1 3 - σ 3
theorem c_decades {t : TT} {tb B : Nat} {M N : Mm} {g F : Nat} {x : Int} (hg : g ≤ 9999) (hF : 1 ≤ F ∧ F ≤ 99) (hx : 0 ≤ x ∧ x ≤ 2) (hB : B < 100000) (h : Sim t tb B M N) : S_Main_decades (g : Int) (F : Int) x M (PC tb M (vDec t (N 34) g F x)) := by
  obtain ⟨hW, hT, hS, hN, -⟩ := h
  have hn := hW.1
  have htb := hT.1
  refine W_Main_decades _ _ _ M ⟨by omega, fun z => by omega, fun _ => ⟨by omega, fun z => by omega, fun _ => ⟨by omega, fun z => by omega, fun _ => ⟨by omega, fun z => by omega, fun _ => ⟨by omega, fun z => by omega, fun _ => ⟨by omega, fun _ => ?_, fun z => by omega⟩⟩⟩⟩⟩⟩
  refine ⟨_, c_copyFrom atC_53 atC_42 (by omega), ?_⟩
  rintro M1 ⟨hc, hf⟩
  refine ⟨tb, by rw [hf 1 (by omega)]; exact hT.2.1, at_tb htb, _, c_passDecades (at_tb htb) atC_53 (hT.2.2.2.1.fr (fun i _ _ => hf _ (by omega))) hW (hc _ _ hn hN.1) hN.2 hB hF.2 hg, ?_⟩
  rintro M2 ⟨g1, g2, g3, g4⟩
  have hF : FrC (scC tb) M M2 := FrC.tr (hf.wk (fun c hc => by omega)) (g4.wk (fun c hc => by omega))
  unfold vDec
  refine ⟨by omega, fun a => ⟨?_, hF⟩, fun a => ⟨?_, hF⟩, fun a => ⟨?_, hF⟩⟩
  · rw [if_pos a]; exact g2
  · rw [if_neg (by omega), if_pos a]; exact g3
  · rw [if_neg a.1, if_neg a.2, g1.1.2.2.2.1, hF 42 (by omega), hN.1.1.2.2.2.1]
theorem m_decades {t : TT} {tb B : Nat} {M N : Mm} {g F : Nat} {x : Int} (hg : g ≤ 9999) (hF : 1 ≤ F ∧ F ≤ 99) (hx : 0 ≤ x ∧ x ≤ 2) (hB : B < 100000) (h : Sim t tb B M N) : S_Mod_decades (g : Int) (F : Int) x N (PN N (vDec t (N 34) g F x)) := by
  obtain ⟨hW, hT, hS, hN, -⟩ := h
  have hn := hW.1
  refine e_Mod_decades _ _ _ N fun K hK => w_Mod_decades_0 hK _ _ _ N ?_
  rintro N1 rfl
  refine ⟨_, m_within (by omega) (by omega) (by omega), ?_⟩
  rintro r N2 ⟨rfl, rfl⟩
  refine ⟨zo_rng _, fun z => by simp at z; omega, fun _ => ⟨_, m_within (by omega) (by omega) (by omega), ?_⟩⟩
  rintro r N3 ⟨rfl, rfl⟩
  refine ⟨zo_rng _, fun z => by simp at z; omega, fun _ => ⟨_, m_within (by omega) (by omega) (by omega), ?_⟩⟩
  rintro r N4 ⟨rfl, rfl⟩
  refine ⟨zo_rng _, fun _ => ⟨by omega, ?_⟩, fun z => by simp [hx] at z⟩
  intro N5 h5
  refine ⟨_, m_copies (a := 0) (c := 0) atM_34 atM_35 (by omega) (by omega) (by omega) (by omega) (by omega), ?_⟩
  intro N6 h6
  have g5 : ∀ c, c ≠ 1 → N5 c = N c := fun c h1 => by rw [h5, upr_eq, if_neg h1, upr_eq, if_neg h1]
  have g6 : ∀ c, c ≠ 1 → c ≠ 35 → N6 c = N c := fun c h1 h2 => by rw [h6, upr_eq, if_neg h2, g5 c h1]
  have hF6 : FrM scM scQ N N6 := by
    rw [h6, h5]
    exact (thrM.tr (FrM.u1 (by omega))).tr (FrM.up (c := 35) (by omega) (by omega))
  have h35 : ∀ i, i < 33 → N6 35 i = N 34 i := fun i hi => by
    rw [h6]
    have := cp33_in (N := N5) (a := 34) (b := 35) hi
    rw [g5 34 (by omega)] at this
    exact this
  have key : ∀ k, k ≤ F → ∀ N1 : Mm, N1 34 = (decS t (N 34) g k).1 → RM t N1 → N1 1 61 = ((decS t (N 34) g k).2.1 : Int) → (∀ i, i < 33 → N1 35 i = N 34 i) → FrM scM scQ N N1 → K NM RRM 65 [(0, vr 1), (2, vi (F : Int)), (3, vi x), (4, vi (decS t (N 34) g k).2.2.1), (5, vi (decS t (N 34) g k).2.2.2), (6, vi (k : Int))] [] N1 := by
    refine up_ind ?_ ?_
    · intro N1 s1 s2 s3 s4 s5
      refine w_Mod_decades_65 hK _ _ _ _ _ N1 ⟨by omega, by omega, fun _ => ⟨_, m_copies (a := 0) (c := 0) atM_35 atM_34 (by omega) (by omega) (by omega) (by omega) (by omega), ?_⟩, fun z => absurd (Int.le_refl _) z⟩
      intro N7 h7
      have g : FrM scM scQ N N7 ∧ ∀ i, i < 33 → N7 34 i = N 34 i := ⟨s5.tr (by rw [h7]; exact FrM.up (Or.inr (Or.inl rfl)) (by omega)), fun i hi => by rw [h7]; exact (cp33_in hi).trans (s4 i hi)⟩
      unfold vDec
      refine ⟨by omega, fun a => ⟨by omega, fun b => ⟨?_, g⟩, fun b => ⟨?_, g⟩⟩, fun a => ⟨?_, g⟩⟩
      · rw [if_neg a, if_neg b, g.2 3 (by omega), s1]
      · rw [if_neg a, if_pos b]
      · rw [if_pos a]
    · intro k hk ih N1 s1 s2 s3 s4 s5
      obtain ⟨w1, w2⟩ := decS_ok hW hN.2 (show g < 2147483648 by omega) k
      have w3 := shfS_WF (g := (decS t (N 34) g k).2.1) hW w1
      have w4 := runS_WF hW w3
      refine w_Mod_decades_65 hK _ _ _ _ _ N1 ⟨by omega, by omega, fun z => by omega, fun _ => ⟨_, m_livesAhead s2 hW s1 w1 s3 w2, ?_⟩⟩
      rintro N2 ⟨q1, q2, q3⟩
      have hT2 := s2.frM q3 (by omega) (fun c _ _ => by omega)
      refine ⟨_, m_runs hT2 hW q1 w3 (by omega), ?_⟩
      rintro r N3 ⟨rfl, p2, p3, p4⟩
      have hT3 := hT2.frM p4 (by omega) (fun c _ _ => by omega)
      have hF3 : FrM scM scQ N N3 := (s5.tr (q3.wk (fun c hc => by omega) (fun c hc => by omega))).tr (p4.wk scM_sub scQ_sub)
      have h353 : ∀ i, i < 33 → N3 35 i = N 34 i := fun i hi => by rw [p4.1 35 (by omega) (by omega), q3.1 35 (by omega) (by omega)]; exact s4 i hi
      have g61 : N3 1 61 = (shfG t (decS t (N 34) g k).2.1 : Int) := by rw [p4.2 61 (by omega)]; exact q2
      have := w4.2.2.1
      rw [p3, p2]
      refine ⟨by omega, fun z => ?_, fun z => ⟨_, m_sells hT3 p2, ?_⟩⟩
      · refine ih N3 ?_ hT3 g61 h353 hF3
        rw [p2]; show _ = if _ then _ else _
        rw [if_neg (by omega)]
      · rintro N4 rfl
        refine ih _ ?_ (hT3.fr (by rw [upr_eq, if_neg (by omega)]) (fun c _ _ => by rw [upr_eq, if_neg (by omega)])) (by rw [upr_eq, if_neg (by omega)]; exact g61) (fun i hi => by rw [upr_eq, if_neg (by omega)]; exact h353 i hi) (hF3.tr (FrM.up (Or.inr (Or.inl rfl)) (by omega)))
        rw [upr_eq, if_pos rfl]; show _ = if _ then _ else _
        rw [if_pos (by omega)]
  refine key 0 (by omega) N6 (g6 34 (by omega) (by omega)) (hT.2.2.2.2.1.fr (g6 3 (by omega) (by omega)) (fun c _ _ => g6 c (by omega) (by omega))) ?_ h35 hF6
  rw [h6, upr_eq, if_neg (by omega), h5, upr_eq, if_pos rfl, up1_eq, if_pos rfl]; rfl
theorem op_decades {t : TT} {tb B : Nat} {M N : Mm} {a b x : Int} (ha : rng a) (hb : rng b) (hx : rng x) (hB : B < 100000) (h : Sim t tb B M N) : Op (S_Main_decades a b x) (S_Mod_decades a b x) B M N := by
  by_cases q : (0 ≤ a ∧ a ≤ 9999) ∧ (1 ≤ b ∧ b ≤ 99) ∧ (0 ≤ x ∧ x ≤ 2)
  · obtain ⟨g, rfl⟩ : ∃ g : Nat, a = (g : Int) := ⟨a.toNat, by omega⟩
    obtain ⟨F, rfl⟩ : ∃ F : Nat, b = (F : Int) := ⟨b.toNat, by omega⟩
    exact Op.ask h (c_decades (by omega) (by omega) q.2.2 hB h) (m_decades (by omega) (by omega) q.2.2 hB h)
  · refine Op.ask (v := -1) h ?_ ?_
    · exact W_Main_decades _ _ _ M ⟨ha, fun _ => ⟨rfl, FrC.rf⟩, fun _ => ⟨ha, fun _ => ⟨rfl, FrC.rf⟩, fun _ => ⟨hb, fun _ => ⟨rfl, FrC.rf⟩, fun _ => ⟨hb, fun _ => ⟨rfl, FrC.rf⟩, fun _ => ⟨hx, fun _ => ⟨rfl, FrC.rf⟩, fun _ => ⟨hx, fun z => by omega, fun _ => ⟨rfl, FrC.rf⟩⟩⟩⟩⟩⟩⟩
    · refine e_Mod_decades _ _ _ N fun K hK => w_Mod_decades_0 hK _ _ _ N ?_
      rintro N1 rfl
      refine ⟨_, m_within ha (by omega) (by omega), ?_⟩
      rintro r2 N2 ⟨rfl, rfl⟩
      refine ⟨zo_rng _, fun _ => ⟨rfl, thrM, fun i _ => by rw [s34]⟩, fun z1 => ⟨_, m_within hb (by omega) (by omega), ?_⟩⟩
      rintro r2 N3 ⟨rfl, rfl⟩
      refine ⟨zo_rng _, fun _ => ⟨rfl, thrM, fun i _ => by rw [s34]⟩, fun z2 => ⟨_, m_within hx (by omega) (by omega), ?_⟩⟩
      rintro r2 N4 ⟨rfl, rfl⟩
      have z3 : 0 ≤ a ∧ a ≤ 9999 := by simpa using zo_ne z1
      have z4 : 1 ≤ b ∧ b ≤ 99 := by simpa using zo_ne z2
      refine ⟨zo_rng _, fun z => ?_, fun _ => ⟨rfl, thrM, fun i _ => by rw [s34]⟩⟩
      have z5 : 0 ≤ x ∧ x ≤ 2 := by simpa using zo_ne z
      exact absurd ⟨z3, z4, z5⟩ q
