theorem m_part {tx : TX} {pr : Bool} {K : KT} {P : Int → Mm → Prop} (hK : EKr K P) (hW : WX tx) : ∀ d w, w + d = 5 → ∀ (c : Int) (q : Prop), OpM tx pr K P w (pPart tx pr d) (Ac w q c) (fun _ N => Ac w q c N) := by
  have hlen := hW.1
  intro d
  induction d with
  | zero =>
    intro w hw c q p n N hp hn hn0 hT h21 h22 hA fail ok
    refine m_pre hK hW hp hT h22 (fun hst => ?_) (fun a b e N' h9 hf => fail (1, tb_ tx p) (pPart_no a b e) N' hf.st h9)
    have h5 : (w : Int) = 5 := by omega
    refine w_Mod_reads_65 hK _ _ _ _ _ N ⟨by omega, fun z => absurd h5 z, fun _ => ⟨_, m_fails (k := 5) hT, ?_⟩⟩
    rintro r N1 ⟨rfl, a, b⟩
    exact ⟨Or.inl rfl, fail (5, tb_ tx p) (pPart_5 hst) N1 b.st a⟩
  | succ d ih =>
    intro w hw c q p n N hp hn hn0 hT h21 h22 hA fail ok
    refine m_pre hK hW hp hT h22 (fun hst => ?_) (fun a b e N' h9 hf => fail (1, tb_ tx p) (pPart_no a b e) N' hf.st h9)
    have hke : tk_ tx p ≠ 0 := by
      rcases hst with h | h | h
      · cases c : lfc tx pr p with
        | none => exact absurd c h
        | some x => exact (lfc_g hp c).1
      · have := isS_k h; omega
      · have := wo_k (tx := tx) (p := p) (by omega); omega
    have htp := tk_pos hp hke
    -- one level deeper
    have deep : ∀ (m o : Int), rng o → ∀ x4 : Int, rng x4 → (x4 = 0 ↔ o = 2) → (o = 1 ∨ o = 2) →
        (∀ N5, StM N N5 → TpM tx (te_ tx p) N5 → appM n N N5 [m] → N5 14 (w + 1) = o → N5 15 (w + 1) = 0 → (∀ i, i ≤ w → N5 14 i = N 14 i) → (∀ i, i ≤ w → N5 15 i = N 15 i) → k11 K (w + 1) 1 N5) →
        K NM RRM 99 [(0, vr 1), (1, vi (w : Int)), (2, vi 1), (4, vi x4)] [vi m, vr 1] N := by
      intro m o ho x4 hx4 hiff ho12 cont
      have k120 : ∀ N2, appM n N N2 [m] → FrM (fun c => c = 13) (fun k => k = 21) N N2 → K NM RRM 120 [(0, vr 1), (1, vi ((w : Int) + 1)), (2, vi 1)] [vi o, vi ((w : Int) + 1), vr 14] N2 := by
        intro N2 a1 a2
        refine w_Mod_reads_120 hK _ _ _ _ N2 ⟨by omega, ?_⟩
        intro N3 g3
        refine ⟨by omega, ?_⟩
        intro N4 g4
        rw [show ((w : Int) + 1).toNat = w + 1 by omega] at g3 g4
        have f3 : FrM (fun c => c = 14) (fun _ => False) N2 N3 := by rw [g3]; exact FrM.up rfl (by omega)
        have f4 : FrM (fun c => c = 15) (fun _ => False) N3 N4 := by rw [g4]; exact FrM.up rfl (by omega)
        have hT4 : TpM tx p N4 := ((hT.st (a2.wk (fun c hc => Or.inl hc) (fun k hk => hk))).st (f3.wk (fun c hc => Or.inr (Or.inl hc)) (fun k z => z.elim))).st (f4.wk (fun c hc => Or.inr (Or.inr hc)) (fun k z => z.elim))
        refine ⟨_, m_nxt hW hp hT4, ?_⟩
        rintro N5 ⟨b1, b2⟩
        have st : StM N N5 := (((StM.pu a2 a1 hn0).tr (StM.ot (f3.wk (fun c hc => Or.inl hc) (fun k z => z)))).tr (StM.ot (f4.wk (fun c hc => Or.inr hc) (fun k z => z)))).tr (StM.tk b2)
        have e14 : N5 14 = up1 (N 14) (w + 1) o := by rw [b2.1 14 (by omega) (fun z => z), f4.1 14 (by omega) (by omega), g3, upr_eq, if_pos rfl, a2.1 14 (by omega) (by omega)]
        have e15 : N5 15 = up1 (N 15) (w + 1) 0 := by rw [b2.1 15 (by omega) (fun z => z), g4, upr_eq, if_pos rfl, f3.1 15 (by omega) (by omega), a2.1 15 (by omega) (by omega)]
        have e13 : N5 13 = N2 13 := by rw [b2.1 13 (by omega) (fun z => z), f4.1 13 (by omega) (by omega), f3.1 13 (by omega) (by omega)]
        have e21 : N5 1 21 = N2 1 21 := by rw [b2.2 21 (by omega), f4.2 21 (fun z => z), f3.2 21 (fun z => z)]
        have := cont N5 st b1 (a1.fr e21 e13) (by rw [e14, up1_eq, if_pos rfl]) (by rw [e15, up1_eq, if_pos rfl]) (fun i hi => by rw [e14, up1_eq, if_neg (by omega)]) (fun i hi => by rw [e15, up1_eq, if_neg (by omega)])
        exact this
      refine w_Mod_reads_99 hK _ _ _ _ N ⟨_, m_puts h21 (by omega), ?_⟩
      rintro N2 ⟨a1, a2⟩
      refine ⟨hx4, fun z => ?_, fun z => ?_⟩
      · have := k120 N2 a1 a2
        rw [hiff.mp z] at this
        exact this
      · have ho1 : o = 1 := by
          rcases ho12 with h | h
          · exact h
          · exact absurd (hiff.mpr h) z
        have := k120 N2 a1 a2
        rw [ho1] at this
        exact this
    have hQ := hA.2
    -- a leaf's end
    have leaf : ∀ x, lfc tx pr p = some x → isS_ tx p 40 = false → wo_ tx p ≠ 19 → ∃ P1 : Mm → Prop, S_Mod_puts x.2.1 N P1 ∧ ∀ M1 : Mm, P1 M1 → K NM RRM 152 [(0, vr 1), (1, vi (w : Int)), (2, vi 0)] [] M1 := by
      intro x hx hns hnw
      refine ⟨_, m_puts h21 (by omega), ?_⟩
      rintro N2 ⟨a1, a2⟩
      have hT2 : TpM tx p N2 := hT.st (a2.wk (fun c hc => Or.inl hc) (fun k hk => hk))
      have e14 : N2 14 = N 14 := a2.1 14 (by omega) (by omega)
      refine pop152 (tx := tx) hK 152 (Or.inl rfl) w (by omega) (fun i a b => by rw [e14]; exact hQ.1 i a b) ⟨_, m_nxt hW hp hT2, ?_⟩
      rintro N3 ⟨b1, b2⟩
      rw [e14]
      have e14' : N3 14 = N 14 := by rw [b2.1 14 (by omega) (fun z => z), e14]
      have e15' : N3 15 = N 15 := by rw [b2.1 15 (by omega) (fun z => z), a2.1 15 (by omega) (by omega)]
      refine ok (te_ tx p, [x.1], [x.2.1], x.2.2) ?_ N3 ⟨(StM.pu a2 a1 hn0).tr (StM.tk b2), b1, a1.fr (b2.2 21 (by omega)) (b2.1 13 (by omega) (fun z => z)), fun i _ => by rw [e14'], fun i _ => by rw [e15']⟩ ⟨by rw [e15']; exact hA.1, by rw [e14']; exact hQ⟩
      rw [pPart_s, if_neg (by rw [hns]; exact Bool.false_ne_true), if_neg hnw]
      simp only [hx]
    -- not
    have knot : wo_ tx p = 19 → K NM RRM 99 [(0, vr 1), (1, vi (w : Int)), (2, vi 1), (4, vi (zo (decide (wo_ tx p = 19))))] [vi 30, vr 1] N := by
      intro hwo
      have hns : isS_ tx p 40 = false := isS_kf (by have := wo_k (tx := tx) (p := p) (by omega); omega)
      have hres : pPart tx pr (d + 1) p = (match pPart tx pr d (te_ tx p) with
        | .inl f => .inl f
        | .inr r => .inr (notR r)) := by rw [pPart_s, if_neg (by rw [hns]; exact Bool.false_ne_true), if_pos hwo]; rfl
      refine deep 30 1 (by decide) _ (zo_rng _) (by rw [decide_eq_true hwo]; decide) (Or.inl rfl) ?_
      intro N5 st hT5 ap o5 c5 s14 s15
      refine ih (w + 1) (by omega) 0 False (te_ tx p) (n + 1) N5 htp.2 (by omega) (by omega) hT5 ap.1 (by rw [st.1.2 22 (by omega)]; exact h22) ⟨c5, fun i a b => ?_, fun z => z.elim⟩ (fun f hf N' hs h9 => ?_) (fun s hs N6 hm hZ => ?_)
      · by_cases e : i = w + 1
        · rw [e, o5]; decide
        · rw [s14 i (by omega)]; exact hQ.1 i a (by omega)
      · exact fail f (by rw [hres, hf]) N' (st.tr hs) h9
      · have e1 : bs (N5 14) (w + 1) = bs (N 14) w := by rw [bs, if_pos o5, bs_ext w s14]
        rw [e1]
        obtain ⟨m1, m2, m3, m4, m5⟩ := hm
        have e14 : ∀ i, i ≤ w → N6 14 i = N 14 i := fun i hi => by rw [m4 i (by omega)]; exact s14 i hi
        refine ok (notR s) (by rw [hres, hs]) N6 ⟨st.tr m1, m2, ap.tr m3, e14, fun i hi => by rw [m5 i (by omega)]; exact s15 i (by omega)⟩ ⟨by rw [m5 w (by omega), s15 w (Nat.le_refl _)]; exact hA.1, hQ.ext e14⟩
    -- ( )
    have kpar : isS_ tx p 40 = true → K NM RRM 99 [(0, vr 1), (1, vi (w : Int)), (2, vi 1), (4, vi (zo (decide (wo_ tx p = 19))))] [vi 28, vr 1] N := by
      intro hs40
      have hnw : wo_ tx p ≠ 19 := fun z => by have := wo_k (tx := tx) (p := p) (by omega); have := isS_k hs40; omega
      have hres : pPart tx pr (d + 1) p = (match qE tx (pPart tx pr d) (te_ tx p) with
        | .inl f => .inl f
        | .inr r => parR r tx) := by rw [pPart_s, if_pos hs40]; rfl
      refine deep 28 2 (by decide) _ (zo_rng _) (by rw [decide_eq_false hnw]; decide) (Or.inr rfl) ?_
      intro N5 st hT5 ap o5 c5 s14 s15
      have hE := m_qE hK (w := w + 1) (by omega) hW (pPart_g (pr := pr) d) (fun c => ih (w + 1) (by omega) c True)
      have e1 : bs (N5 14) (w + 1) = w + 1 := by rw [bs, if_neg (by rw [o5]; decide)]
      refine hE (te_ tx p) (n + 1) N5 htp.2 (by omega) (by omega) hT5 ap.1 (by rw [st.1.2 22 (by omega)]; exact h22) ⟨c5, fun i a b => ?_, fun _ => e1⟩ (fun f hf N' hs h9 => ?_) (fun s hs N6 hm hZ => ?_)
      · by_cases e : i = w + 1
        · rw [e, o5]; decide
        · rw [s14 i (by omega)]; exact hQ.1 i a (by omega)
      · exact fail f (by rw [hres, hf]) N' (st.tr hs) h9
      · rw [e1]
        have gs := (qE_g (pPart_g (pr := pr) d) (te_ tx p) htp.2).1 s hs
        obtain ⟨g1, g2, g3, g4, -⟩ := gs
        obtain ⟨m1, m2, m3, m4, m5⟩ := hm
        have hres2 : pPart tx pr (d + 1) p = parR s tx := by rw [hres, hs]
        unfold parR at hres2
        have e14 : ∀ i, i ≤ w → N6 14 i = N 14 i := fun i hi => by rw [m4 i (by omega)]; exact s14 i hi
        have e15 : ∀ i, i ≤ w → N6 15 i = N 15 i := fun i hi => by rw [m5 i (by omega)]; exact s15 i hi
        refine ex304 hK hW (by omega) g2 m2 hZ.1 hZ.2 (fun h41 _ => ?_) (fun h41 => ?_)
        · rw [if_pos h41] at hres2
          have ht2 := tk_pos g2 (by have := isS_k h41; omega)
          refine ⟨_, m_puts (n := n + 1 + s.2.2.1.length) m3.1 (by omega), ?_⟩
          rintro N7 ⟨a1, a2⟩
          have hT7 : TpM tx s.1 N7 := m2.st (a2.wk (fun c hc => Or.inl hc) (fun k hk => hk))
          have e714 : N7 14 = N6 14 := a2.1 14 (by omega) (by omega)
          rw [show ((w + 1 : Nat) : Int) + -1 = (w : Int) by omega]
          refine pop152 (tx := tx) hK 379 (Or.inr rfl) w (by omega) (fun i a b => by rw [e714, e14 i b]; exact hQ.1 i a b) ⟨_, m_nxt hW g2 hT7, ?_⟩
          rintro N8 ⟨b1, b2⟩
          rw [e714, bs_ext w e14]
          have e814 : ∀ i, i ≤ w → N8 14 i = N 14 i := fun i hi => by rw [b2.1 14 (by omega) (fun z => z), e714]; exact e14 i hi
          have e815 : ∀ i, i ≤ w → N8 15 i = N 15 i := fun i hi => by rw [b2.1 15 (by omega) (fun z => z), a2.1 15 (by omega) (by omega)]; exact e15 i hi
          refine ok _ hres2 N8 ⟨((st.tr m1).tr (StM.pu a2 a1 (by omega))).tr (StM.tk b2), b1, ?_, e814, fun i hi => e815 i (by omega)⟩ ⟨by rw [e815 w (Nat.le_refl _)]; exact hA.1, hQ.ext e814⟩
          have t1 := (ap.tr m3).tr (cs2 := [29]) (M2 := N7) (by
            rw [List.length_append]
            show appM (n + (1 + s.2.2.1.length)) N6 N7 [29]
            rw [← Nat.add_assoc]; exact a1)
          exact t1.fr (b2.2 21 (by omega)) (b2.1 13 (by omega) (fun z => z))
        · have hf41 : isS_ tx s.1 41 = false := by
            rcases h41 with h | h
            · exact h
            · omega
          rw [hf41, if_neg Bool.false_ne_true] at hres2
          refine w_Mod_reads_399 hK _ N6 ⟨by omega, fun _ => ⟨_, m_fails (k := 1) m2, ?_⟩, fun z => by omega⟩
          rintro r N7 ⟨rfl, a, b⟩
          exact ⟨Or.inl rfl, fail _ hres2 N7 ((st.tr m1).tr b.st) a⟩
    -- which
    refine w_Mod_reads_65 hK _ _ _ _ _ N ⟨by omega, fun _ => ⟨zo_rng _, fun z => ⟨zo_rng _, fun y => absurd y z, fun _ => knot (of_decide_eq_true (zo_ne z))⟩, fun z => ⟨zo_rng _, fun y => ?_, fun y => ⟨zo_rng _, fun _ => kpar (zo_ne y), fun x => absurd z x⟩⟩⟩, fun z => by omega⟩
    have hnw := of_decide_eq_false (zo_0 z)
    have hns := zo_0 y
    have hl : lfc tx pr p ≠ none := by
      rcases hst with h | h | h
      · exact h
      · rw [hns] at h; cases h
      · exact absurd h hnw
    cases cx : lfc tx pr p with
    | none => exact absurd cx hl
    | some x =>
      by_cases e : tk_ tx p = 3
      · have hx : x = (tv_ tx p, 100 + tv_ tx p, fun _ => tv_ tx p) := by
          have := (fc3 (pr := pr) e).2
          rw [cx] at this
          exact Option.some.inj this
        rw [(fc3 e).1, hT.2.2.2.2.2.2 e]
        refine ⟨by decide, fun _ => ?_, fun w => absurd (Int.le_refl _) w⟩
        have := leaf x cx hns hnw
        rw [hx] at this
        exact this
      · have hM := lfc_M (pr := pr) e
        have hpos : fcM tx pr p ≠ 0 := fun y => hl (hM.1.mp y)
        have ex := hM.2.1 x cx
        have hb := hM.2.2
        rw [ex] at hpos hb ⊢
        refine ⟨by omega, fun w => by omega, fun _ => leaf x cx hns hnw⟩
/-- a law, as the model reads it, its ; too -/
theorem m_reads {tx : TX} {pr : Bool} {p n : Nat} {N : Mm} (hW : WX tx) (hp : p ≤ tx.2) (hn : n ≤ 1000 + p) (hn0 : 1000 ≤ n) (hT : TpM tx p N) (h21 : N 1 21 = (n : Int)) (h22 : N 1 22 = zo pr) : S_Mod_reads N (fun r N' => (∀ f, qE tx (pPart tx pr 5) p = .inl f → r = 0 ∧ StM N N' ∧ N' 1 9 = (f.1 : Int) + 16 * (f.2 : Int)) ∧ (∀ s, qE tx (pPart tx pr 5) p = .inr s → (isS_ tx s.1 59 = true → r = 1 ∧ StM N N' ∧ TpM tx (te_ tx s.1) N' ∧ appM n N N' s.2.2.1) ∧ (isS_ tx s.1 59 = false → r = 0 ∧ StM N N' ∧ N' 1 9 = 1 + 16 * (tb_ tx s.1 : Int)))) := by
  refine e_Mod_reads N fun K hK => w_Mod_reads_0 hK N ?_
  rintro N1 rfl
  have f1 : FrM (fun c => c = 15) (fun _ => False) N (upr N 15 (up1 (N 15) 0 0)) := FrM.up rfl (by omega)
  have st1 : StM N (upr N 15 (up1 (N 15) 0 0)) := StM.ot (f1.wk (fun c hc => Or.inr hc) (fun k z => z))
  have hE := m_qE hK (w := 0) (by omega) hW (pPart_g (pr := pr) 5) (fun c => m_part hK hW 5 0 rfl c True)
  refine hE p n _ hp hn hn0 (hT.st (f1.wk (fun c hc => Or.inr (Or.inr hc)) (fun k z => z.elim))) (by rw [f1.2 21 (fun z => z)]; exact h21) (by rw [f1.2 22 (fun z => z)]; exact h22) ⟨by rw [upr_eq, if_pos rfl, up1_eq, if_pos rfl], fun i a b => by omega, fun _ => rfl⟩ (fun f hf N' hs h9 => ?_) (fun s hs N6 hm hZ => ?_)
  · exact ⟨fun f' e => by rw [hf] at e; cases e; exact ⟨rfl, st1.tr hs, h9⟩, fun s e => by rw [hf] at e; cases e⟩
  · have gs := (qE_g (pPart_g (pr := pr) 5) p hp).1 s hs
    obtain ⟨m1, m2, m3, -, -⟩ := hm
    have ap : appM n N N6 s.2.2.1 := ⟨m3.1, fun i hi => by rw [m3.2.1 i hi, f1.1 13 (by omega) (by omega)], m3.2.2⟩
    show k11 K 0 0 N6
    refine ex304 hK hW (by omega) gs.2.1 m2 hZ.1 hZ.2 (fun _ z => by omega) (fun _ => ?_)
    refine w_Mod_reads_399 hK _ N6 ⟨by decide, fun z => absurd rfl z, fun _ => ⟨_, m_isSign hW gs.2.1 m2 (by decide), ?_⟩⟩
    rintro r N7 ⟨rfl, rfl⟩
    refine ⟨zo_rng _, fun z => ⟨_, m_fails (k := 1) m2, ?_⟩, fun z => ⟨_, m_nxt hW gs.2.1 m2, ?_⟩⟩
    · rintro r N8 ⟨rfl, a, b⟩
      exact ⟨Or.inl rfl, fun f e => (by rw [hs] at e; cases e), fun s' e => by
        rw [hs] at e; cases e
        exact ⟨fun y => (by rw [zo_0 z] at y; cases y), fun _ => ⟨rfl, (st1.tr m1).tr b.st, a⟩⟩⟩
    · rintro N8 ⟨b1, b2⟩
      exact ⟨fun f e => (by rw [hs] at e; cases e), fun s' e => by
        rw [hs] at e; cases e
        exact ⟨fun _ => ⟨rfl, (st1.tr m1).tr (StM.tk b2), b1, ap.fr (b2.2 21 (by omega)) (b2.1 13 (by omega) (fun z => z))⟩, fun y => (by rw [zo_ne z] at y; cases y)⟩⟩
