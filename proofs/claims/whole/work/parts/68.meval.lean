abbrev EKw (K : KT) (P : Int → Mm → Prop) : Prop := EK shM yX12_worked cX12_worked 6 (some .int) 3 NM NM (QI RRM P) K
abbrev k14 (K : KT) (ln w i : Nat) (N : Mm) : Prop := K NM RRM 14 [(0, vr 1), (1, vi (ln : Int)), (2, vi (w : Int)), (3, vi (i : Int))] [] N
abbrev k268 (K : KT) (ln w i : Nat) (v : Int) (N : Mm) : Prop := K NM RRM 268 [(0, vr 1), (1, vi (ln : Int)), (2, vi (w : Int)), (3, vi (i : Int)), (5, vi v)] [] N
def fw (S : Nat → Prop) (w : Nat) (N N' : Mm) : Prop := FrM inW (fun _ => False) N N' ∧ (∀ c, 16 ≤ c → c ≤ 24 → ∀ i, i < w → N' c i = N c i) ∧ (∀ c, 16 ≤ c → c ≤ 24 → ¬ S c → N' c w = N c w)
theorem fw.rf {S : Nat → Prop} {w : Nat} {N : Mm} : fw S w N N := ⟨FrM.rf, fun _ _ _ _ _ => rfl, fun _ _ _ _ => rfl⟩
theorem fw.tr {S : Nat → Prop} {w : Nat} {N N1 N2 : Mm} (h : fw S w N N1) (h2 : fw S w N1 N2) : fw S w N N2 := ⟨h.1.tr h2.1, fun c a b i hi => (h2.2.1 c a b i hi).trans (h.2.1 c a b i hi), fun c a b hc => (h2.2.2 c a b hc).trans (h.2.2 c a b hc)⟩
theorem fw.wk {S S' : Nat → Prop} {w : Nat} {N N1 : Mm} (h : fw S w N N1) (hs : ∀ c, S c → S' c) : fw S' w N N1 := ⟨h.1, h.2.1, fun c a b hc => h.2.2 c a b (fun z => hc (hs c z))⟩
theorem fw.up {S : Nat → Prop} {w : Nat} {N : Mm} {c : Nat} {v : Int} (hc : 16 ≤ c ∧ c ≤ 24) (hS : S c) : fw S w N (upr N c (up1 (N c) w v)) := by
  refine ⟨FrM.up (by omega) (by omega), fun c' a b i hi => ?_, fun c' a b hn => ?_⟩
  · rw [upr_eq]
    by_cases e : c' = c
    · rw [if_pos e, up1_eq, if_neg (by omega), e]
    · rw [if_neg e]
  · rw [upr_eq, if_neg (fun e => hn (by rw [e]; exact hS))]
/-- deeper than w -/
theorem fw.dp {S S' : Nat → Prop} {w : Nat} {N N1 : Mm} (h : fw S (w + 1) N N1) : fw S' w N N1 := ⟨h.1, fun c a b i hi => h.2.1 c a b i (by omega), fun c a b _ => h.2.1 c a b w (by omega)⟩
def pS (N : Mm) (w : Nat) : Int := if N 21 w = 21 then subW (N 20 w) (N 22 w) else addW (N 20 w) (N 22 w)
def pT (N : Mm) (w : Nat) : Int := if N 19 w = 24 then (if pS N w ≤ N 18 w then 0 else 1) else if N 19 w = 25 then (if N 18 w = pS N w then 1 else 0) else pS N w
def pB (N : Mm) (w : Nat) (x : Int) : Int := if N 17 w = 26 then (if N 16 w = 0 then 0 else if x = 0 then 0 else 1) else if N 17 w = 27 then (if N 16 w ≠ 0 then 1 else if x = 0 then 0 else 1) else x
theorem pS_r (N : Mm) (w : Nat) : rng (pS N w) := by
  unfold pS
  split <;> exact rng_toInt _
theorem pT_r (N : Mm) (w : Nat) : rng (pT N w) := by
  have := pS_r N w
  unfold pT
  split
  · split <;> decide
  · split
    · split <;> decide
    · exact this
theorem pB_r {N : Mm} {w : Nat} {x : Int} (h : rng x) : rng (pB N w x) := by
  unfold pB
  split
  · split
    · decide
    · split <;> decide
  · split
    · split
      · decide
      · split <;> decide
    · exact h
theorem m_sums {N : Mm} {w : Nat} (hw : w < 7) (h21 : rng (N 21 w)) : S_Mod_sums (w : Int) N (fun N' => N' = upr (upr N 20 (up1 (N 20) w (pS N w))) 23 (up1 ((upr N 20 (up1 (N 20) w (pS N w))) 23) w 0)) := by
  refine W_Mod_sums _ N ?_
  rw [Int.toNat_natCast]
  unfold pS
  refine ⟨by omega, h21, fun z => ⟨by omega, by omega, by omega, ?_⟩, fun z => ⟨by omega, by omega, by omega, ?_⟩⟩
  · rintro N1 rfl
    refine ⟨by omega, ?_⟩
    rintro N2 rfl
    rw [if_neg z]
  · rintro N1 rfl
    refine ⟨by omega, ?_⟩
    rintro N2 rfl
    rw [if_pos z]
abbrev okT (N : Mm) (w : Nat) : Prop := rng (N 21 w) ∧ (N 19 w = 0 ∨ ((N 19 w = 24 ∨ N 19 w = 25) ∧ rng (N 18 w)))
abbrev okE (N : Mm) (w : Nat) : Prop := okT N w ∧ (N 17 w = 0 ∨ ((N 17 w = 26 ∨ N 17 w = 27) ∧ rng (N 16 w)))
theorem m_tests {N : Mm} {w : Nat} (hw : w < 7) (h : okE N w) : S_Mod_tests (w : Int) N (fun N' => N' 16 w = pB N w (pT N w) ∧ N' 17 w = N 17 w ∧ N' 19 w = 0 ∧ N' 20 w = 0 ∧ N' 21 w = 20 ∧ N' 23 w = 0 ∧ fw (fun c => c = 16 ∨ c = 19 ∨ c = 20 ∨ c = 21 ∨ c = 23) w N N') := by
  have hpS := pS_r N w
  refine e_Mod_tests _ N fun K hK => w_Mod_tests_0 hK _ N ⟨_, m_sums hw h.1.1, ?_⟩
  intro N1 g1
  have e16 : N1 16 = N 16 := by rw [g1, upr_eq, if_neg (by omega), upr_eq, if_neg (by omega)]
  have e17 : N1 17 = N 17 := by rw [g1, upr_eq, if_neg (by omega), upr_eq, if_neg (by omega)]
  have e18 : N1 18 = N 18 := by rw [g1, upr_eq, if_neg (by omega), upr_eq, if_neg (by omega)]
  have e19 : N1 19 = N 19 := by rw [g1, upr_eq, if_neg (by omega), upr_eq, if_neg (by omega)]
  have e20 : N1 20 w = pS N w := by rw [g1, upr_eq, if_neg (by omega), upr_eq, if_pos rfl, up1_eq, if_pos rfl]
  have e23 : N1 23 w = 0 := by rw [g1, upr_eq, if_pos rfl, up1_eq, if_pos rfl]
  have f1 : fw (fun c => c = 16 ∨ c = 19 ∨ c = 20 ∨ c = 21 ∨ c = 23) w N N1 := by
    rw [g1]
    exact (fw.up (by omega) (by omega)).tr (fw.up (by omega) (by omega))
  have k136 : ∀ v : Int, v = pB N w (pT N w) → K NM RRM 136 [(0, vr 1), (1, vi (w : Int)), (2, vi v)] [] N1 := by
    rintro v rfl
    refine w_Mod_tests_136 hK _ _ N1 ?_
    rw [Int.toNat_natCast]
    refine ⟨by omega, ?_⟩
    intro N2 g2
    refine ⟨by omega, ?_⟩
    intro N3 g3
    refine ⟨by omega, ?_⟩
    intro N4 g4
    refine ⟨by omega, ?_⟩
    intro N5 g5
    refine ⟨?_, ?_, ?_, ?_, ?_, ?_, ?_⟩
    · rw [g5, upr_eq, if_neg (by omega), g4, upr_eq, if_neg (by omega), g3, upr_eq, if_neg (by omega), g2, upr_eq, if_pos rfl, up1_eq, if_pos rfl]
    · rw [g5, upr_eq, if_neg (by omega), g4, upr_eq, if_neg (by omega), g3, upr_eq, if_neg (by omega), g2, upr_eq, if_neg (by omega), e17]
    · rw [g5, upr_eq, if_neg (by omega), g4, upr_eq, if_neg (by omega), g3, upr_eq, if_pos rfl, up1_eq, if_pos rfl]
    · rw [g5, upr_eq, if_neg (by omega), g4, upr_eq, if_pos rfl, up1_eq, if_pos rfl]
    · rw [g5, upr_eq, if_pos rfl, up1_eq, if_pos rfl]
    · rw [g5, upr_eq, if_neg (by omega), g4, upr_eq, if_neg (by omega), g3, upr_eq, if_neg (by omega), g2, upr_eq, if_neg (by omega), e23]
    · refine f1.tr ?_
      rw [g5, g4, g3, g2]
      exact (((fw.up (by omega) (by omega)).tr (fw.up (by omega) (by omega))).tr (fw.up (by omega) (by omega))).tr (fw.up (by omega) (by omega))
  have hpT := pT_r N w
  have k106 : ∀ v : Int, (N 17 w ≠ 26 → v = pT N w) → (N 17 w = 26 → v = pB N w (pT N w)) → K NM RRM 106 [(0, vr 1), (1, vi (w : Int)), (2, vi v)] [] N1 := by
    intro v h1 h2
    refine w_Mod_tests_106 hK _ _ N1 ?_
    rw [Int.toNat_natCast, e17, e16]
    refine ⟨by omega, by omega, fun z => k136 _ ?_, fun z => ?_⟩
    · by_cases e : N 17 w = 26
      · exact h2 e
      · rw [h1 e]; unfold pB; rw [if_neg e, if_neg z]
    · have hv := h1 (by omega)
      subst hv
      refine ⟨by omega, by omega, fun y => k136 _ ?_, fun y => ⟨hpT, fun x => k136 _ ?_, fun x => k136 _ ?_⟩⟩
      · unfold pB; rw [if_neg (by omega), if_pos z, if_pos y]
      · unfold pB; rw [if_neg (by omega), if_pos z, if_neg (fun q => q y), if_pos x]
      · unfold pB; rw [if_neg (by omega), if_pos z, if_neg (fun q => q y), if_neg x]
  have k76 : K NM RRM 76 [(0, vr 1), (1, vi (w : Int)), (2, vi (pT N w))] [] N1 := by
    refine w_Mod_tests_76 hK _ _ N1 ?_
    rw [Int.toNat_natCast, e17, e16]
    refine ⟨by omega, by omega, fun z => k106 _ (fun _ => rfl) (fun y => absurd y z), fun z => ⟨by omega, by omega, fun y => k106 0 (fun x => absurd z x) (fun _ => ?_), fun y => ⟨hpT, fun x => k106 0 (fun x => absurd z x) (fun _ => ?_), fun x => k106 1 (fun x => absurd z x) (fun _ => ?_)⟩⟩⟩
    · unfold pB; rw [if_pos z, if_pos y]
    · unfold pB; rw [if_pos z, if_neg y, if_pos x]
    · unfold pB; rw [if_pos z, if_neg y, if_neg x]
  have k44 : ∀ v : Int, (N 19 w ≠ 25 → v = pT N w) → K NM RRM 44 [(0, vr 1), (1, vi (w : Int)), (2, vi v)] [] N1 := by
    intro v hv
    refine w_Mod_tests_44 hK _ _ N1 ?_
    rw [Int.toNat_natCast, e19, e18, e20]
    refine ⟨by omega, by omega, fun z => by rw [hv z]; exact k76, fun z => ⟨by omega, by omega, by omega, hpS, fun y => ?_, fun y => ?_⟩⟩
    · have : pT N w = 0 := by unfold pT; rw [if_neg (by omega), if_pos z, if_neg y]
      rw [this] at k76; exact k76
    · have : pT N w = 1 := by unfold pT; rw [if_neg (by omega), if_pos z, if_pos y]
      rw [this] at k76; exact k76
  rw [Int.toNat_natCast, e19, e18, e20]
  refine ⟨by omega, by omega, by omega, fun z => k44 _ (fun y => ?_), fun z => ⟨by omega, by omega, by omega, hpS, fun y => k44 0 (fun _ => ?_), fun y => k44 1 (fun _ => ?_)⟩⟩
  · unfold pT; rw [if_neg z, if_neg y]
  · unfold pT; rw [if_pos z, if_pos y]
  · unfold pT; rw [if_pos z, if_neg y]
theorem m_opens {N : Mm} {w : Nat} (hw : w < 7) : S_Mod_opens (w : Int) N (fun N' => N' 17 w = 0 ∧ N' 19 w = 0 ∧ N' 20 w = 0 ∧ N' 21 w = 20 ∧ N' 23 w = 0 ∧ fw (fun c => c = 17 ∨ c = 19 ∨ c = 20 ∨ c = 21 ∨ c = 23) w N N') := by
  refine W_Mod_opens _ N ?_
  rw [Int.toNat_natCast]
  refine ⟨by omega, ?_⟩
  intro N1 g1
  refine ⟨by omega, ?_⟩
  intro N2 g2
  refine ⟨by omega, ?_⟩
  intro N3 g3
  refine ⟨by omega, ?_⟩
  intro N4 g4
  refine ⟨by omega, ?_⟩
  intro N5 g5
  refine ⟨?_, ?_, ?_, ?_, ?_, ?_⟩
  · rw [g5, upr_eq, if_neg (by omega), g4, upr_eq, if_neg (by omega), g3, upr_eq, if_neg (by omega), g2, upr_eq, if_neg (by omega), g1, upr_eq, if_pos rfl, up1_eq, if_pos rfl]
  · rw [g5, upr_eq, if_neg (by omega), g4, upr_eq, if_neg (by omega), g3, upr_eq, if_neg (by omega), g2, upr_eq, if_pos rfl, up1_eq, if_pos rfl]
  · rw [g5, upr_eq, if_neg (by omega), g4, upr_eq, if_neg (by omega), g3, upr_eq, if_pos rfl, up1_eq, if_pos rfl]
  · rw [g5, upr_eq, if_neg (by omega), g4, upr_eq, if_pos rfl, up1_eq, if_pos rfl]
  · rw [g5, upr_eq, if_pos rfl, up1_eq, if_pos rfl]
  · rw [g5, g4, g3, g2, g1]
    exact ((((fw.up (by omega) (by omega)).tr (fw.up (by omega) (by omega))).tr (fw.up (by omega) (by omega))).tr (fw.up (by omega) (by omega))).tr (fw.up (by omega) (by omega))
/-- the codes ms lie from i on, ahead of the line's end -/
abbrev cdM (e : EnvT) (ln L i : Nat) (ms : List Int) (N : Mm) : Prop := (N 12 ln = (L : Int) ∧ ∀ j, 1 ≤ j → j ≤ 5 → (j ≤ 3 ∨ e 0 = 1) → N 25 j = e j) ∧ i + ms.length ≤ L ∧ ∀ j, j < ms.length → N 13 (i + j) = ms.getD j 0
theorem cdM.fr {e : EnvT} {ln L i : Nat} {ms : List Int} {S : Nat → Prop} {w : Nat} {N N' : Mm} (h : cdM e ln L i ms N) (f : fw S w N N') : cdM e ln L i ms N' := by
  unfold cdM
  rw [f.1.1 12 (by omega) (by omega), f.1.1 13 (by omega) (by omega), f.1.1 25 (by omega) (by omega)]; exact h
theorem cdM.l {e : EnvT} {ln L i : Nat} {ms ms2 : List Int} {N : Mm} (h : cdM e ln L i (ms ++ ms2) N) : cdM e ln L i ms N := by
  obtain ⟨a, b, c⟩ := h
  rw [List.length_append] at b c
  exact ⟨a, by omega, fun j hj => by rw [c j (by omega), getD_l hj]⟩
theorem cdM.r {e : EnvT} {ln L i : Nat} {ms ms2 : List Int} {N : Mm} (h : cdM e ln L i (ms ++ ms2) N) : cdM e ln L (i + ms.length) ms2 N := by
  obtain ⟨a, b, c⟩ := h
  rw [List.length_append] at b c
  exact ⟨a, by omega, fun j hj => by rw [Nat.add_assoc, c (ms.length + j) (by omega), getD_r (by omega), show ms.length + j - ms.length = j by omega]⟩
/-- a row at the depth w: from A the machine comes to Z v -/
def MVL (e : EnvT) (K : KT) (ln L w : Nat) (S : Nat → Prop) (A : Mm → Prop) (Z : Int → Mm → Prop) (ms : List Int) (v : Int) : Prop :=
  ∀ i N, cdM e ln L i ms N → A N → (∀ N', fw S w N N' → Z v N' → k14 K ln w (i + ms.length) N') → k14 K ln w i N
/-- an operator and its operand -/
def STP (e : EnvT) (K : KT) (ln L w : Nat) (S : Nat → Prop) (B : Mm → Prop) (Z : Int → Mm → Prop) (c m : Int) (ms2 : List Int) (v2 : Int) : Prop :=
  ∀ v1 i N, rng v1 → Z v1 N → B N → cdM e ln L i (m :: ms2) N → (∀ N', fw S w N N' → Z (jnI c v1 v2) N' → k14 K ln w (i + (ms2.length + 1)) N') → k14 K ln w i N
/-- a PART -/
def MVP (e : EnvT) (K : KT) (ln L w : Nat) (ms : List Int) (v : Int) : Prop :=
  ∀ i N, cdM e ln L i ms N → (∀ N', fw (fun _ => False) w N N' → k268 K ln w (i + ms.length - 1) v N') → k14 K ln w i N
theorem mv_join {e : EnvT} {K : KT} {ln L w : Nat} {S : Nat → Prop} {A B : Mm → Prop} {Z : Int → Mm → Prop} {ms ms2 : List Int} {v v2 c m : Int} (hv : rng v) (hAB : ∀ N N', A N → fw S w N N' → B N') (h : MVL e K ln L w S A Z ms v) (h2 : STP e K ln L w S B Z c m ms2 v2) : MVL e K ln L w S A Z (ms ++ m :: ms2) (jnI c v v2) := by
  intro i N hc hA cont
  refine h i N hc.l hA (fun N1 f1 z1 => ?_)
  refine h2 v (i + ms.length) N1 hv z1 (hAB N N1 hA f1) (hc.r.fr f1) (fun N2 f2 z2 => ?_)
  have := cont N2 (f1.tr f2) z2
  rw [List.length_append, List.length_cons, ← Nat.add_assoc] at this
  exact this
abbrev MQ_ (tx : TX) (K : KT) (ln L w : Nat) (S : Nat → Prop) (A : Mm → Prop) (Z : Int → Mm → Prop) (e : EnvT) (q : Nat → PR) : Prop := ∀ p s, p ≤ tx.2 → q p = .inr s → MVL e K ln L w S A Z s.2.2.1 (s.2.2.2 e)
theorem mq_lp {tx : TX} {pr : Bool} {K : KT} {ln L w : Nat} {S : Nat → Prop} {A B : Mm → Prop} {Z : Int → Mm → Prop} {e : EnvT} (he : eR e) {q : Nat → PR} {op : Nat → Option (Int × Int)} (hGq : GdQ tx pr q) (hop : opG tx op) (hAB : ∀ N N', A N → fw S w N N' → B N') (hst : ∀ p cm, op p = some cm → ∀ p2 s, p2 ≤ tx.2 → q p2 = .inr s → STP e K ln L w S B Z cm.1 cm.2 s.2.2.1 (s.2.2.2 e)) {p : Nat} : ∀ m r, GdR tx pr p r → MVL e K ln L w S A Z r.2.2.1 (r.2.2.2 e) → ∀ s, lp tx q op m r = .inr s → MVL e K ln L w S A Z s.2.2.1 (s.2.2.2 e)
  | 0, r, hg, hr, s, hs => by rw [lp] at hs; cases hs; exact hr
  | m + 1, r, hg, hr, s, hs => by
    cases c : op r.1 with
    | none => rw [lp_n c] at hs; cases hs; exact hr
    | some cm =>
      have hoc := hop _ _ c
      have htp := tk_pos hg.2.1 hoc.1
      cases c2 : q (te_ tx r.1) with
      | inl f => rw [lp_f c c2] at hs; cases hs
      | inr r2 =>
        rw [lp_y c c2] at hs
        have g2 := (hGq _ htp.2).1 r2 c2
        exact mq_lp he hGq hop hAB hst m _ (join_g hg g2 hoc.1 hoc.2.1 hoc.2.2) (mv_join (gd_rng hg he) hAB hr (hst _ cm c _ r2 htp.2 c2)) s hs
theorem mq_seq {tx : TX} {pr : Bool} {K : KT} {ln L w : Nat} {S : Nat → Prop} {A B : Mm → Prop} {Z : Int → Mm → Prop} {e : EnvT} (he : eR e) {q : Nat → PR} {op : Nat → Option (Int × Int)} (k : Nat) (hGq : GdQ tx pr q) (hop : opG tx op) (hAB : ∀ N N', A N → fw S w N N' → B N') (h1 : MQ_ tx K ln L w S A Z e q) (hst : ∀ p cm, op p = some cm → ∀ p2 s, p2 ≤ tx.2 → q p2 = .inr s → STP e K ln L w S B Z cm.1 cm.2 s.2.2.1 (s.2.2.2 e)) : MQ_ tx K ln L w S A Z e (seqK tx q op k) := by
  intro p s hp hs
  cases c : q p with
  | inl f => rw [seq_f c] at hs; cases hs
  | inr r =>
    rw [seq_y c] at hs
    exact mq_lp he hGq hop hAB hst k r ((hGq p hp).1 r c) (h1 p r hp c) s hs
