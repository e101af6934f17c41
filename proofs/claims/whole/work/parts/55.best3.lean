abbrev inG (c : Nat) : Prop := inW c ∨ c = 25 ∨ c = 39 ∨ c = 40
theorem mb_in {n l : Nat} (hl : lok n l) (hn : n ≤ 7) : mb l = -1 ∨ (0 ≤ mb l ∧ mb l < n) := by
  unfold mb
  split <;> omega
def goP (t : TT) (σ : Nat → Int) (u : Bool) (k L l : Nat) (p : Int) (N N' : Mm) : Prop :=
  (∀ i, i < k → N' 39 i = N 39 i) ∧ FrM inG (fun q => q = 54) N N' ∧
  ((dp t σ u L l < 9999 ∧ (N 1 54 < 0 ∨ p + dp t σ u L l < N 1 54)) → (N' 1 54 = p + dp t σ u L l ∧ (∀ i, i < k → N' 40 i = N 39 i) ∧ ∀ i, i < pcN L → N' 40 (k + i) = (gro t σ u (L, l) i : Int))) ∧
  (¬ (dp t σ u L l < 9999 ∧ (N 1 54 < 0 ∨ p + dp t σ u L l < N 1 54)) → (N' 1 54 = N 1 54 ∧ N' 40 = N 40))
theorem gro_0 {t : TT} {σ : Nat → Int} {u : Bool} {q : Nat × Nat} : gro t σ u q 0 = hL t σ u q := rfl
theorem gro_s {t : TT} {σ : Nat → Int} {u : Bool} {q : Nat × Nat} {i : Nat} : gro t σ u q (i + 1) = gro t σ u (nx_ t σ u q) i := by
  unfold gro
  rw [stq_s]
theorem m_goesOn0 {t : TT} {σ : Nat → Int} {u : Bool} {l k : Nat} {p : Int} {N : Mm} {dd : Nat} (hk : k ≤ 7) (hpp : 0 ≤ p ∧ p ≤ 9 * (k : Int)) (hb54 : N 1 54 = -1 ∨ (0 ≤ N 1 54 ∧ N 1 54 ≤ 63)) (hdd : 6 ≤ dd) : S_Mod_goesOn dd (k : Int) ((0 : Nat) : Int) (mb l) p N (goP t σ u k 0 l p N) := by
  obtain ⟨d, rfl⟩ : ∃ d, dd = d + 1 := ⟨dd - 1, by omega⟩
  refine e_Mod_goesOn (d + 1) _ _ _ _ N fun K hK => w_Mod_goesOn_0 hK (by omega) _ _ _ _ N ?_
  have hp0 : pcN 0 = 0 := by decide
  have k30 : (N 1 54 < 0 ∨ p < N 1 54) → K NM RRM 30 [(0, vr 1), (5, vi 0)] [] (upr N 1 (up1 (N 1) 54 p)) := by
    intro hc
    have key : ∀ i, i ≤ 7 → ∀ N2 : Mm, N2 1 = up1 (N 1) 54 p → (∀ q, q < i → N2 40 q = N 39 q) → N2 39 = N 39 → FrM inG (fun q => q = 54) N N2 → K NM RRM 30 [(0, vr 1), (5, vi (i : Int))] [] N2 := by
      refine up_ind ?_ ?_
      · intro N2 s0 s1 s2 s3
        refine w_Mod_goesOn_30 hK (by omega) _ N2 ⟨by omega, fun _ => ⟨fun i _ => by rw [s2], s3, fun _ => ⟨?_, fun i hi => s1 i (by omega), fun i hi => by omega⟩, fun hc2 => absurd ⟨by rw [dp_0]; omega, by rw [dp_0]; omega⟩ hc2⟩, fun z => by omega⟩
        rw [s0, up1_eq, if_pos rfl, dp_0]; omega
      · intro i hi ih N2 s0 s1 s2 s3
        refine w_Mod_goesOn_30 hK (by omega) _ N2 ⟨by omega, fun z => by omega, fun _ => ⟨by omega, by omega, ?_⟩⟩
        rintro N3 rfl
        rw [Int.toNat_natCast]
        refine ih _ (by rw [upr_eq, if_neg (by omega)]; exact s0) (fun q hq => ?_) (by rw [upr_eq, if_neg (by omega)]; exact s2) (s3.tr (FrM.up (by omega) (by omega)))
        rw [upr_eq, if_pos rfl, up1_eq]
        by_cases e : q = i
        · rw [if_pos e, s2, e]
        · rw [if_neg e]; exact s1 q (by omega)
    exact key 0 (by omega) _ (by rw [upr_eq, if_pos rfl]) (fun q hq => by omega) (by rw [upr_eq, if_neg (by omega)]) (FrM.u1 rfl)
  refine ⟨by decide, fun z => absurd rfl z, fun _ => ⟨by omega, fun z => ?_, fun z => ⟨by omega, by omega, fun z2 => ?_, fun z2 => ⟨fun _ _ => rfl, FrM.rf, fun hc => ?_, fun _ => ⟨rfl, rfl⟩⟩⟩⟩⟩
  · rintro N1 rfl; exact k30 (Or.inl z)
  · rintro N1 rfl; exact k30 (Or.inr z2)
  · rw [dp_0] at hc; omega
theorem m_goesOn {t : TT} {B : Nat} {σ : Nat → Int} {u : Bool} (hW : WT t) (hw : WF (tn t) B σ) : ∀ j, ∀ L, L < 2 ^ tn t → pcN L ≤ j → ∀ l, lok (tn t) l → ∀ (k : Nat) (p : Int) (N : Mm), k + pcN L ≤ 7 → 0 ≤ p ∧ p ≤ 9 * (k : Int) → (N 1 54 = -1 ∨ (0 ≤ N 1 54 ∧ N 1 54 ≤ 63)) → N 1 55 = zo (!u) → RM t N → N 34 = σ → ∀ dd, j + 6 ≤ dd → S_Mod_goesOn dd (k : Int) (L : Int) (mb l) p N (goP t σ u k L l p N) := by
  have hn := hW.1
  have h7 := pw7 hn
  intro j
  induction j with
  | zero =>
    intro L hLt hp l hl k p N hk hpp hb54 h55 hT h34 dd hdd
    have e0 : L = 0 := by
      apply Classical.byContradiction
      intro y
      have := pcN_pos (by omega) y
      omega
    subst e0
    exact m_goesOn0 (by omega) hpp hb54 (by omega)
  | succ j ih =>
    intro L hLt hp l hl k p N hk hpp hb54 h55 hT h34 dd hdd
    by_cases e0 : L = 0
    · subst e0
      exact m_goesOn0 (by omega) hpp hb54 (by omega)
    · have hpos := pcN_pos (by omega) e0
      have hdi := dp_in (t := t) (σ := σ) (u := u) hn L (by omega) l
      have hde : dp t σ u L l = mnv (trm t σ u L l) (tn t) := by rw [dp_eq t σ u l (by omega), if_neg e0]
      obtain ⟨d, rfl⟩ : ∃ d, dd = d + 1 := ⟨dd - 1, by omega⟩
      refine e_Mod_goesOn (d + 1) _ _ _ _ N fun K hK => w_Mod_goesOn_0 hK (by omega) _ _ _ _ N ?_
      -- A: something better was found
      have key : ∀ h, h ≤ tn t → ∀ N2 : Mm, (∀ i, i < k → N2 39 i = N 39 i) → FrM inG (fun q => q = 54) N N2 →
          ((mnv (trm t σ u L l) h < 9999 ∧ (N 1 54 < 0 ∨ p + mnv (trm t σ u L l) h < N 1 54)) → (N2 1 54 = p + mnv (trm t σ u L l) h ∧ (∀ i, i < k → N2 40 i = N 39 i) ∧ ∃ h0, h0 < h ∧ L.testBit h0 = true ∧ cst t σ u L l h0 = mnv (trm t σ u L l) h ∧ (∀ i, i < h0 → mnv (trm t σ u L l) h < trm t σ u L l i) ∧ N2 40 k = (h0 : Int) ∧ ∀ i, i < pcN L - 1 → N2 40 (k + 1 + i) = (gro t σ u (tg L h0, nxL t h0 l) i : Int))) →
          (¬ (mnv (trm t σ u L l) h < 9999 ∧ (N 1 54 < 0 ∨ p + mnv (trm t σ u L l) h < N 1 54)) → (N2 1 54 = N 1 54 ∧ N2 40 = N 40)) →
          K NM RRM 78 [(0, vr 1), (1, vi (k : Int)), (2, vi (L : Int)), (3, vi (mb l)), (4, vi p), (5, vi (h : Int))] [] N2 := by
        refine up_ind ?_ ?_
        · intro N2 s1 s2 s3 s4
          refine w_Mod_goesOn_78 hK (by omega) _ _ _ _ _ N2 ?_
          rw [s2.1 3 (by omega) (by omega), hT.1.1]
          refine ⟨by omega, by omega, fun _ => ⟨s1, s2, fun hc => ?_, fun hc => ?_⟩, fun z => absurd (Int.le_refl _) z⟩
          · rw [hde] at hc
            obtain ⟨a1, a2, h0, b1, b2, b3, b4, b5, b6⟩ := s3 hc
            have eh : hL t σ u (L, l) = h0 := by
              refine fsb_is b1 ?_ (fun i hi => ?_)
              · show pL t σ u L l h0 = true
                unfold pL
                rw [b2, hde, decide_eq_true b3]; rfl
              · show pL t σ u L l i = false
                have b4i : mnv (trm t σ u L l) (tn t) < if L.testBit i = true then cst t σ u L l i else 9999 := b4 i hi
                unfold pL
                rw [hde]
                cases c : L.testBit i
                · rfl
                · rw [c, if_pos rfl] at b4i
                  rw [decide_eq_false (by omega)]; rfl
            refine ⟨by rw [hde]; exact a1, a2, fun i hi => ?_⟩
            rcases i with _ | i
            · rw [gro_0, eh]; exact b5
            · rw [gro_s, nx_, eh, show k + (i + 1) = k + 1 + i by omega]
              exact b6 i (by omega)
          · rw [hde] at hc
            exact s4 hc
        · intro h hh ih2 N2 s1 s2 s3 s4
          have hbt := bitz (a := L) (k := h) (by omega) (by omega)
          have hkd := hW.2.1 h hh
          have hT2 : RT t N2 0 → True := fun _ => trivial
          have hTm : RM t N2 := hT.frM s2 (by omega) (fun c _ _ => by omega)
          have h34' : N2 34 = σ := by rw [s2.1 34 (by omega) (by omega)]; exact h34
          have e55 : N2 1 55 = zo (!u) := by rw [s2.2 55 (by omega)]; exact h55
          have hmle := mnv_le (g := trm t σ u L l) h
          have hmge : 0 ≤ mnv (trm t σ u L l) h := mnv_ge _ (fun i hi => by
            show 0 ≤ if L.testBit i = true then cst t σ u L l i else 9999
            have := cst_in (t := t) (σ := σ) (u := u) (L := L) (l := l) (h := i) hn (by omega) (by omega)
            split <;> omega)
          have skip : trm t σ u L l h = 9999 → K NM RRM 78 [(0, vr 1), (1, vi (k : Int)), (2, vi (L : Int)), (3, vi (mb l)), (4, vi p), (5, vi ((h : Int) + 1))] [] N2 := by
            intro ht
            have em : mnv (trm t σ u L l) (h + 1) = mnv (trm t σ u L l) h := by rw [mnv, ht]; omega
            refine ih2 N2 s1 s2 (fun hc => ?_) (fun hc => ?_)
            · rw [em] at hc ⊢
              obtain ⟨a1, a2, h0, b1, b2⟩ := s3 hc
              exact ⟨a1, a2, h0, by omega, b2⟩
            · rw [em] at hc
              exact s4 hc
          have k118 : L.testBit h = true → ¬ (u = true ∧ shL t h l = true) → K NM RRM 118 [(0, vr 1), (1, vi (k : Int)), (2, vi (L : Int)), (3, vi (mb l)), (4, vi p), (5, vi (h : Int))] [] N2 := by
            intro hg hus
            have ec : cst t σ u L l h = blt t σ l h + dp t σ u (tg L h) (nxL t h l) := by unfold cst; rw [if_neg hus]
            have et : trm t σ u L l h = blt t σ l h + dp t σ u (tg L h) (nxL t h l) := by
              show (if L.testBit h = true then cst t σ u L l h else 9999) = _
              rw [if_pos hg, ec]
            have em : mnv (trm t σ u L l) (h + 1) = min (mnv (trm t σ u L l) h) (blt t σ l h + dp t σ u (tg L h) (nxL t h l)) := by rw [mnv, et]
            have hbl := blt_in (t := t) (σ := σ) (l := l) (h := h)
            have hpd := pcN_dn L (by omega) h (by omega) hg
            have hdd2 := dp_in (t := t) (σ := σ) (u := u) hn (tg L h) (tg128 (by omega) (by omega)) (nxL t h l)
            have hp7 := pcN_le (tg L h) (tg128 (by omega) (by omega))
            have eo : andI (L : Int) (xorI (shlI 1 (h : Int)) (-1)) = ((tg L h : Nat) : Int) := by
              have := pw6 (show h < 7 by omega)
              rw [shl1 (by omega), not_nat (by omega), andn_nat (by omega) (by omega), adn_pow, if_pos hg]
            -- the call and what comes behind it
            have call : ∀ N3 : Mm, N3 39 = up1 (N2 39) k (h : Int) → N3 40 = N2 40 → N3 1 = N2 1 → FrM inG (fun q => q = 54) N2 N3 → ∀ x3 : Int, x3 = mb (nxL t h l) → ∃ P3 : Mm → Prop, S_Mod_goesOn d ((k : Int) + 1) ((tg L h : Nat) : Int) x3 (p + blt t σ l h) N3 P3 ∧ ∀ M3 : Mm, P3 M3 → K NM RRM 78 [(0, vr 1), (1, vi (k : Int)), (2, vi (L : Int)), (3, vi (mb l)), (4, vi p), (5, vi ((h : Int) + 1))] [] M3 := by
              rintro N3 e39 e40 e1 f3 x3 rfl
              have hb2 : N2 1 54 = -1 ∨ (0 ≤ N2 1 54 ∧ N2 1 54 ≤ 63) := by
                by_cases hc : (mnv (trm t σ u L l) h < 9999 ∧ (N 1 54 < 0 ∨ p + mnv (trm t σ u L l) h < N 1 54))
                · obtain ⟨a1, a2, h0, b1, b2, b3, -⟩ := s3 hc
                  right
                  have q1 := pcN_dn L (by omega) h0 (by omega) b2
                  have q2 := dp_in (t := t) (σ := σ) (u := u) hn (tg L h0) (tg128 (by omega) (by omega)) (nxL t h0 l)
                  have q3 := blt_in (t := t) (σ := σ) (l := l) (h := h0)
                  unfold cst at b3
                  by_cases y : u = true ∧ shL t h0 l = true
                  · rw [if_pos y] at b3; omega
                  · rw [if_neg y] at b3
                    have := q2.2.2 (by omega)
                    omega
                · rw [(s4 hc).1]; exact hb54
              refine ⟨_, ih (tg L h) (tg_lt hLt hh) (by omega) (nxL t h l) (nxL_ok hh hl) (k + 1) (p + blt t σ l h) N3 (by omega) (by omega) (by rw [e1]; exact hb2) (by rw [e1]; exact e55) (hTm.frM f3 (by omega) (fun c _ _ => by omega)) (by rw [f3.1 34 (by omega) (by omega)]; exact h34') d (by omega), ?_⟩
              rintro N4 ⟨g1, g2, g3, g4⟩
              rw [e1] at g3 g4
              have r39 : ∀ i, i < k → N4 39 i = N 39 i := fun i hi => by
                rw [g1 i (by omega), e39, up1_eq, if_neg (by omega)]; exact s1 i hi
              refine ih2 N4 r39 ((s2.tr f3).tr g2) (fun hc => ?_) (fun hc => ?_)
              · -- better behind h
                by_cases hA : (mnv (trm t σ u L l) h < 9999 ∧ (N 1 54 < 0 ∨ p + mnv (trm t σ u L l) h < N 1 54))
                · obtain ⟨a1, a2, h0, b1, b2, b3, b4, b5, b6⟩ := s3 hA
                  by_cases hB : blt t σ l h + dp t σ u (tg L h) (nxL t h l) < mnv (trm t σ u L l) h
                  · have em2 : mnv (trm t σ u L l) (h + 1) = blt t σ l h + dp t σ u (tg L h) (nxL t h l) := by rw [em]; omega
                    obtain ⟨c1, c2, c3⟩ := g3 ⟨by omega, Or.inr (by omega)⟩
                    rw [em2]
                    refine ⟨by omega, fun i hi => ?_, h, by omega, hg, ec, fun i hi => ?_, ?_, fun i hi => ?_⟩
                    · rw [c2 i (by omega), e39, up1_eq, if_neg (by omega)]; exact s1 i hi
                    · have := mnv_at (g := trm t σ u L l) h hi
                      omega
                    · rw [c2 k (by omega), e39, up1_eq, if_pos rfl]
                    · exact c3 i (by omega)
                  · have em2 : mnv (trm t σ u L l) (h + 1) = mnv (trm t σ u L l) h := by rw [em]; omega
                    obtain ⟨c1, c2⟩ := g4 (fun y => by have := y.2; omega)
                    rw [em2]
                    rw [c2, e40]
                    exact ⟨by omega, a2, h0, by omega, b2, b3, b4, b5, b6⟩
                · obtain ⟨a1, a2⟩ := s4 hA
                  have hlt : blt t σ l h + dp t σ u (tg L h) (nxL t h l) < mnv (trm t σ u L l) h := by
                    apply Classical.byContradiction
                    intro y
                    rw [em] at hc
                    apply hA
                    rw [show min (mnv (trm t σ u L l) h) (blt t σ l h + dp t σ u (tg L h) (nxL t h l)) = mnv (trm t σ u L l) h by omega] at hc
                    exact hc
                  have em2 : mnv (trm t σ u L l) (h + 1) = blt t σ l h + dp t σ u (tg L h) (nxL t h l) := by rw [em]; omega
                  rw [em2] at hc ⊢
                  obtain ⟨c1, c2, c3⟩ := g3 ⟨by omega, by omega⟩
                  refine ⟨by omega, fun i hi => ?_, h, by omega, hg, ec, fun i hi => ?_, ?_, fun i hi => ?_⟩
                  · rw [c2 i (by omega), e39, up1_eq, if_neg (by omega)]; exact s1 i hi
                  · have := mnv_at (g := trm t σ u L l) h hi
                    omega
                  · rw [c2 k (by omega), e39, up1_eq, if_pos rfl]
                  · exact c3 i (by omega)
              · -- nothing better
                have hA : ¬ (mnv (trm t σ u L l) h < 9999 ∧ (N 1 54 < 0 ∨ p + mnv (trm t σ u L l) h < N 1 54)) := fun y => hc (by rw [em]; omega)
                obtain ⟨a1, a2⟩ := s4 hA
                obtain ⟨c1, c2⟩ := g4 (fun y => hc (by
                  have := hdd2.2.2 y.1
                  rw [em]; omega))
                rw [c1, c2, e40, a1, a2]
                exact ⟨rfl, rfl⟩
            refine w_Mod_goesOn_118 hK (by omega) _ _ _ _ _ N2 ⟨by omega, ?_⟩
            rintro N3 rfl
            have hTn : RM t (upr N2 39 (up1 (N2 39) (k : Int).toNat (h : Int))) := hTm.fr (by rw [upr_eq, if_neg (by omega)]) (fun c _ _ => by rw [upr_eq, if_neg (by omega)])
            have ep : prb t σ (mb l) h = blt t σ l h := by
              unfold prb blt mb
              by_cases y : l = 7
              · rw [if_pos y, if_pos rfl, if_pos y]
              · rw [if_neg y, if_neg (by omega), if_neg y, Int.toNat_natCast]
            have hpb := m_printedBy (a := mb l) (h := h) hTn hW (by rw [upr_eq, if_neg (by omega)]; exact h34') hw (mb_in hl hn) hh
            rw [ep] at hpb
            have e5 : (upr N2 39 (up1 (N2 39) (k : Int).toNat (h : Int))) 5 (h : Int).toNat = tkind t h := by
              rw [Int.toNat_natCast]; exact (hTn.2.1 h hh).1
            rw [e5, eo]
            have after : ∀ x3 : Int, x3 = mb (nxL t h l) → ∃ P2 : Int → Mm → Prop, S_Mod_printedBy (mb l) (h : Int) (upr N2 39 (up1 (N2 39) (k : Int).toNat (h : Int))) P2 ∧ ∀ (r1 : Int) (M2 : Mm), P2 r1 M2 → ∃ P3 : Mm → Prop, S_Mod_goesOn d ((k : Int) + 1) ((tg L h : Nat) : Int) x3 (p + r1) M2 P3 ∧ ∀ M3 : Mm, P3 M3 → K NM RRM 78 [(0, vr 1), (1, vi (k : Int)), (2, vi (L : Int)), (3, vi (mb l)), (4, vi p), (5, vi ((h : Int) + 1))] [] M3 := by
              intro x3 hx3
              refine ⟨_, hpb, ?_⟩
              rintro r N4 ⟨rfl, hf⟩
              refine call N4 ?_ ?_ ?_ ?_ x3 hx3
              · rw [hf.1 39 (by omega) (by omega), upr_eq, if_pos rfl, Int.toNat_natCast]
              · rw [hf.1 40 (by omega) (by omega), upr_eq, if_neg (by omega)]
              · funext q
                rw [hf.2 q (fun z => z), upr_eq, if_neg (by omega)]
              · exact (FrM.up (by omega) (by omega)).tr (hf.wk (fun c hc => by omega) (fun _ z => z.elim))
            refine ⟨by omega, by omega, fun z => after _ ?_, fun z => after _ ?_⟩
            · unfold nxL mb; rw [if_neg z, if_neg (by omega)]
            · unfold nxL; rw [if_pos z]
          refine w_Mod_goesOn_78 hK (by omega) _ _ _ _ _ N2 ?_
          rw [s2.1 3 (by omega) (by omega), hT.1.1, e55]
          refine ⟨by omega, by omega, fun z => by omega, fun _ => ⟨fun z => skip ?_, fun z => ⟨zo_rng _, fun z2 => k118 ?_ ?_, fun z2 => ⟨_, m_shL hTm hW hh hl, ?_⟩⟩⟩⟩
          · show (if L.testBit h = true then cst t σ u L l h else 9999) = 9999
            rw [if_neg (by rw [hbt.1.mp z]; exact Bool.false_ne_true)]
          · cases e : L.testBit h
            · exact absurd (hbt.1.mpr e) z
            · rfl
          · intro y
            have := zo_ne z2
            rw [y.1] at this; cases this
          · have hg : L.testBit h = true := by
              cases e : L.testBit h
              · exact absurd (hbt.1.mpr e) z
              · rfl
            have hu : u = true := by
              have := zo_0 z2
              cases u
              · cases this
              · rfl
            rintro r N3 ⟨rfl, rfl⟩
            refine ⟨zo_rng _, fun y => k118 hg (fun x => by rw [zo_0 y] at x; cases x.2), fun y => skip ?_⟩
            show (if L.testBit h = true then cst t σ u L l h else 9999) = 9999
            rw [if_pos hg]
            unfold cst
            rw [if_pos ⟨hu, zo_ne y⟩]
      have k78 := key 0 (by omega) N (fun _ _ => rfl) FrM.rf (fun hc => by have := hc.1; rw [mnv] at this; omega) (fun _ => ⟨rfl, rfl⟩)
      refine ⟨by omega, fun _ => ⟨by omega, fun _ => k78, fun z => ⟨by omega, by omega, fun _ => k78, fun z2 => ⟨fun _ _ => rfl, FrM.rf, fun hc => ?_, fun _ => ⟨rfl, rfl⟩⟩⟩⟩, fun z => by omega⟩
      have := hc.2
      omega
theorem m_best {t : TT} {tb B : Nat} {M N : Mm} {x : Int} (hx : rng x) (h : Sim t tb B M N) : S_Mod_best x N (PN N (vBest t (N 34) x)) := by
  obtain ⟨hW, hT, hS, hN, -⟩ := h
  have hn := hW.1
  have h7 := pw7 hn
  have hG := goS_l2 (n := tn t) (σ := N 34)
  have hall := cnN_all (tn t) (by omega) _ hG
  have hT1 := hT.2.2.2.2.1.thr
  have hdu := dp_un (t := t) (σ := N 34) hn
  have hun : unB t (N 34) = cg t (goS (tn t) (N 34)) 7 := rfl
  refine e_Mod_best _ N fun K hK => w_Mod_best_0 hK _ N ?_
  rintro N1 rfl
  have k65 : (x = -1 ∨ (0 ≤ x ∧ x < tn t)) → ∀ N2 : Mm, N2 1 54 = dp t (N 34) (unB t (N 34)) (goS (tn t) (N 34)) 7 → (∀ i, i < pcN (goS (tn t) (N 34)) → N2 40 i = (gro t (N 34) (unB t (N 34)) (goS (tn t) (N 34), 7) i : Int)) → FrM inG (fun q => q = 0 ∨ q = 54 ∨ q = 55) N N2 → K NM RRM 65 [(0, vr 1), (1, vi x)] [] N2 := by
    intro hq N2 s1 s2 s3
    have hT2 : RM t N2 := hT.2.2.2.2.1.frM s3 (by omega) (fun c _ _ => by omega)
    have h34 : N2 34 = N 34 := s3.1 34 (by omega) (by omega)
    have fin : FrM scM scQ N N2 ∧ ∀ i, i < 33 → N2 34 i = N 34 i := ⟨s3.wk (fun c hc => by omega) (fun q hq => by omega), fun i _ => by rw [h34]⟩
    refine w_Mod_best_65 hK _ N2 ⟨hx, fun z => ⟨_, m_going hT2 hW h34 hN.2, ?_⟩, fun z => ⟨?_, fin⟩⟩
    · rintro r N3 ⟨rfl, rfl⟩
      refine ⟨_, m_bits (by omega), ?_⟩
      rintro r N4 ⟨rfl, rfl⟩
      refine ⟨hx, by omega, fun z2 => ?_, fun z2 => ⟨by omega, ?_, fin⟩⟩
      · obtain ⟨b1, b2, b3, b4⟩ := ngh_ok (G := goS (tn t) (N 34)) (n := tn t) (j := x.toNat - pcN (goS (tn t) (N 34))) (by omega)
        have key : ∀ k, k ≤ ngh (goS (tn t) (N 34)) (tn t) (x.toNat - pcN (goS (tn t) (N 34))) → K NM RRM 97 [(0, vr 1), (1, vi x), (2, vi ((pcN (goS (tn t) (N 34)) + cnN (goS (tn t) (N 34)) k : Nat) : Int)), (3, vi (k : Int))] [] N4 := by
          have gob : ∀ k, k < tn t → gosB (N 34) k = (goS (tn t) (N 34)).testBit k := fun k hk => by
            unfold gosB goS
            rw [adn_bit, Nat.testBit_two_pow_sub_one, decide_eq_true hk]; rfl
          refine up_ind ?_ ?_
          · refine w_Mod_best_97 hK _ _ _ N4 ?_
            rw [hT2.1.1]
            refine ⟨by omega, by omega, fun y => by omega, fun _ => ⟨_, m_isGoing h34 hN.2 (by omega), ?_⟩⟩
            rintro r N5 ⟨rfl, rfl⟩
            rw [gob _ b1, b2]
            refine ⟨zo_rng _, fun _ => ⟨by omega, hx, fun y => by omega, fun y => ⟨?_, fin⟩⟩, fun y => absurd rfl y⟩
            unfold vBest
            rw [if_neg z, if_pos (by omega), if_neg (by omega)]
          · intro k hk ih
            rw [cnN] at ih
            refine w_Mod_best_97 hK _ _ _ N4 ?_
            rw [hT2.1.1]
            refine ⟨by omega, by omega, fun y => by omega, fun _ => ⟨_, m_isGoing h34 hN.2 (by omega), ?_⟩⟩
            rintro r N5 ⟨rfl, rfl⟩
            rw [gob k (by omega)]
            have hm := cnN_mono (G := goS (tn t) (N 34)) (h := k) (tn t) (by omega)
            refine ⟨zo_rng _, fun y => ⟨by omega, hx, fun w => ?_, fun w => ?_⟩, fun y => ?_⟩
            · rw [if_neg (by rw [zo_0 y]; exact Bool.false_ne_true)] at ih
              exact ih
            · exfalso
              have := b4 k hk
              unfold ngP at this
              rw [zo_0 y, decide_eq_true (by omega)] at this
              cases this
            · rw [if_pos (zo_ne y), Nat.add_zero] at ih
              exact ih
        exact key 0 (by omega)
      · unfold vBest
        rw [if_neg z, if_pos (by omega), if_pos (by omega)]
        exact s2 _ (by omega)
    · unfold vBest
      rw [if_pos z]; exact s1
  have k21 : (x = -1 ∨ (0 ≤ x ∧ x < tn t)) → K NM RRM 21 [(0, vr 1), (1, vi x)] [] (upr N 1 (up1 (N 1) 0 0)) := by
    intro hq
    refine w_Mod_best_21 hK _ _ ?_
    intro N2 g2 N3 g3
    have f3 : FrM inG (fun q => q = 0 ∨ q = 54 ∨ q = 55) N N3 := by
      rw [g3, g2]
      exact ((FrM.u1 (Or.inl rfl)).tr (FrM.u1 (Or.inr (Or.inl rfl)))).tr (FrM.u1 (Or.inr (Or.inr rfl)))
    have e54 : N3 1 54 = -1 := by rw [g3, upr_eq, if_pos rfl, up1_eq, if_neg (by omega), g2, upr_eq, if_pos rfl, up1_eq, if_pos rfl]
    have e55 : N3 1 55 = zo (!true) := by rw [g3, upr_eq, if_pos rfl, up1_eq, if_pos rfl]; rfl
    have hT3 : RM t N3 := hT.2.2.2.2.1.frM f3 (by omega) (fun c _ _ => by omega)
    have h34 : N3 34 = N 34 := f3.1 34 (by omega) (by omega)
    refine ⟨_, m_going hT3 hW h34 hN.2, ?_⟩
    rintro r N4 ⟨rfl, rfl⟩
    have hpc := pcN_le (goS (tn t) (N 34)) (by omega)
    have c1 := m_goesOn (t := t) (σ := N 34) (u := true) hW hN.2 7 (goS (tn t) (N 34)) hG (by omega) 7 (Or.inl rfl) 0 0 N4 (by omega) (by omega) (Or.inl e54) e55 hT3 h34 60 (by omega)
    refine ⟨_, c1, ?_⟩
    rintro N5 ⟨-, p2, p3, p4⟩
    rintro N6 rfl
    have f5 : FrM inG (fun q => q = 0 ∨ q = 54 ∨ q = 55) N N5 := f3.tr (p2.wk (fun c hc => hc) (fun q hq => Or.inr (Or.inl hq)))
    have f6 : FrM inG (fun q => q = 0 ∨ q = 54 ∨ q = 55) N (upr N5 1 (up1 (N5 1) 55 1)) := f5.tr (FrM.u1 (Or.inr (Or.inr rfl)))
    have e6 : (upr N5 1 (up1 (N5 1) 55 1)) 1 54 = N5 1 54 := by rw [upr_eq, if_pos rfl, up1_eq, if_neg (by omega)]
    rw [e6]
    rw [e54] at p3 p4
    have hdi := dp_in (t := t) (σ := N 34) (u := true) hn (goS (tn t) (N 34)) (by omega) 7
    by_cases hc : dp t (N 34) true (goS (tn t) (N 34)) 7 < 9999
    · have hu : unB t (N 34) = true := by rw [hun]; exact (dp_t hn _ hG 7).mp hc
      obtain ⟨q1, -, q3⟩ := p3 ⟨hc, Or.inl (by omega)⟩
      rw [q1]
      refine ⟨by omega, fun _ => k65 hq _ (by rw [e6, q1, hu]; omega) (fun i hi => ?_) f6, fun z => by omega⟩
      rw [upr_eq, if_neg (by omega), hu]
      have := q3 i hi
      rw [Nat.zero_add] at this
      exact this
    · have hu : unB t (N 34) = false := by
        cases e : unB t (N 34)
        · rfl
        · rw [hun] at e; exact absurd ((dp_t hn _ hG 7).mpr e) hc
      obtain ⟨q1, -⟩ := p4 (fun y => hc y.1)
      rw [q1]
      refine ⟨by omega, fun z => by omega, fun _ => ⟨_, m_going (hT.2.2.2.2.1.frM f6 (by omega) (fun c _ _ => by omega)) hW (f6.1 34 (by omega) (by omega)) hN.2, ?_⟩⟩
      rintro r N7 ⟨rfl, rfl⟩
      have c2 := m_goesOn (t := t) (σ := N 34) (u := false) hW hN.2 7 (goS (tn t) (N 34)) hG (by omega) 7 (Or.inl rfl) 0 0 (upr N5 1 (up1 (N5 1) 55 1)) (by omega) (by omega) (Or.inl (by rw [e6, q1])) (by rw [upr_eq, if_pos rfl, up1_eq, if_pos rfl]; rfl) (hT.2.2.2.2.1.frM f6 (by omega) (fun c _ _ => by omega)) (f6.1 34 (by omega) (by omega)) 60 (by omega)
      refine ⟨_, c2, ?_⟩
      rintro N8 ⟨-, v2, v3, -⟩
      rw [e6, q1] at v3
      rw [hu] at hdu
      obtain ⟨y1, -, y3⟩ := v3 ⟨hdu, Or.inl (by omega)⟩
      refine k65 hq N8 (by rw [y1, hu]; omega) (fun i hi => ?_) (f6.tr (v2.wk (fun c hc => hc) (fun q hq => Or.inr (Or.inl hq))))
      have := y3 i hi
      rw [Nat.zero_add] at this
      rw [hu]; exact this
  refine ⟨hx, fun z => k21 (Or.inl z), fun z => ⟨_, m_isHouse hx hT1 hW, ?_⟩⟩
  rintro r N2 ⟨rfl, rfl⟩
  refine ⟨zo_rng _, fun q => k21 (Or.inr (by simpa using zo_ne q)), fun q => ⟨?_, thrM, fun i _ => by rw [s34]⟩⟩
  have := zo_0 q
  unfold vBest
  rw [if_neg z, if_neg (by simpa using this)]
theorem op_best {t : TT} {tb B : Nat} {M N : Mm} {x : Int} (hx : rng x) (h : Sim t tb B M N) : Op (S_Main_best x) (S_Mod_best x) B M N := Op.ask h (c_best hx h) (m_best hx h)
