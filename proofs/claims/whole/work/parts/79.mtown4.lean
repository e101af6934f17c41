theorem m_readsLaw {tx : TX} {p ci w : Nat} {pr : Bool} {D : DT} {D' : PRS → DT} {N : Mm} {o : Option (Nat × PRS)} {res : Sum FLT (DT × Nat)} (hW : WX tx) (hp : p ≤ tx.2) (hT : TpM tx p N) (hci : ci ≤ 1000 + p) (hci0 : 1000 ≤ ci) (h21 : N 1 21 = (ci : Int)) (hw : w < 2) (hpr : (w : Int) = zo pr) (hL : DMl N (2 + w) o ci)
    (hr1 : o.isSome = true → res = .inl (3, tb_ tx p)) (hr2 : o = none → res = bnd (qE tx (pPart tx pr 5) (te_ tx p)) fun s => .inr (D' s, s.1))
    (hD' : o = none → ∀ s ci' N', DMl N' (2 + w) (some (te_ tx p, s)) ci' → ci ≤ ci' → N' 1 21 = (ci' : Int) → N' 1 23 = N 1 23 → (∀ c, c ≠ 1 → ¬ (11 ≤ c ∧ c ≤ 15) → N' c = N c) → (∀ k, k ≠ 2 + w → N' 11 k = N 11 k ∧ N' 12 k = N 12 k) → (∀ j, j < ci → N' 13 j = N 13 j) → DM (D' s) ci' N') : S_Mod_readsLaw (w : Int) N (PoM tx N (clo tx res)) := by
  have t1 := te_le hp
  have hX := hW.1
  refine W_Mod_readsLaw _ N ?_
  rw [show ((2 : Int) + (w : Int)).toNat = 2 + w by omega]
  cases ho : o with
  | some x =>
    obtain ⟨a, h1, h2, h3, h4, h5, h6⟩ := hL.2 x ho
    rw [h1, h2]
    refine ⟨by omega, by omega, by omega, by omega, fun z => by omega, fun z => ⟨_, m_fails (k := 3) hT, ?_⟩⟩
    rintro r N1 ⟨rfl, e, f⟩
    exact ⟨Or.inl rfl, PoM_f (f := (3, tb_ tx p)) (clo_l (hr1 (by rw [ho]; rfl))) (TfM.fl f) e⟩
  | none =>
    have h0 := hL.1 ho
    rw [h0.1, h0.2]
    refine ⟨by omega, by omega, by omega, by omega, fun z => ?_, fun z => absurd (Int.le_refl _) z⟩
    intro N1 g1
    have f1 : FrM (fun _ => False) (fun k => k = 22) N N1 := by rw [g1]; exact FrM.u1 rfl
    have hT1 : TpM tx p N1 := hT.fr (f1.1 2 (by omega) (fun z => z)) (fun k a b => f1.2 k (by omega))
    refine ⟨_, m_nxt hW hp hT1, ?_⟩
    rintro N2 ⟨hT2, f2⟩
    refine ⟨by omega, fun N3 g3 => ?_⟩
    have e21 : N2 1 21 = (ci : Int) := by rw [f2.2 21 (by omega), f1.2 21 (by omega), h21]
    rw [e21] at g3
    have f3 : FrM (fun c => c = 11) (fun _ => False) N2 N3 := FrM.up' g3 rfl (by omega)
    have hT3 : TpM tx (te_ tx p) N3 := hT2.cell g3 (by omega)
    have h3_21 : N3 1 21 = (ci : Int) := by rw [f3.2 21 (fun z => z), e21]
    have h3_22 : N3 1 22 = zo pr := by rw [f3.2 22 (fun z => z), f2.2 22 (by omega), g1, upr_eq, if_pos rfl, up1_eq, if_pos rfl]; exact hpr
    have tf3 : TfM N N3 := by
      refine (TfM.of f1 (fun k hk => by omega)).tr ((TfM.nx f2).tr (TfM.up' g3 (by omega) ?_))
      show 2 ≤ 2 + w
      omega
    have hres := hr2 ho
    have hg := qE_g (pPart_g (tx := tx) (pr := pr) 5) (te_ tx p) t1.2
    refine ⟨_, m_reads hW t1.2 (by omega) hci0 hT3 h3_21 h3_22, ?_⟩
    rintro r N4 ⟨u1, u2⟩
    have tfS : StM N3 N4 → TfM N N4 := fun s => tf3.tr ⟨s.1.wk (fun c z => by omega) (fun k z => by omega), fun c a b k hk => by
      by_cases e : c = 13
      · subst e; exact s.2 k hk
      · by_cases e2 : c = 14
        · subst e2; exact absurd hk (Nat.not_lt_zero _)
        · by_cases e3 : c = 15
          · subst e3; exact absurd hk (Nat.not_lt_zero _)
          · rw [s.1.1 c (by omega) (by omega)]⟩
    cases cq : qE tx (pPart tx pr 5) (te_ tx p) with
    | inl f =>
      obtain ⟨rfl, st, e⟩ := u1 f cq
      exact ⟨by decide, fun z => absurd rfl z, fun _ => PoM_f (f := f) (clo_l (by rw [hres, bnd_l cq])) (tfS st) e⟩
    | inr s =>
      have gs := hg.1 s cq
      have v := u2 s cq
      have hc : clo tx res = if isS_ tx s.1 59 = true then .inr (D' s, te_ tx s.1) else .inl (1, tb_ tx s.1) := by unfold clo; rw [hres, bnd_r cq]; rfl
      cases c9 : isS_ tx s.1 59
      · obtain ⟨rfl, st, e⟩ := v.2 c9
        rw [c9, if_neg Bool.false_ne_true] at hc
        exact ⟨by decide, fun z => absurd rfl z, fun _ => PoM_f (f := (1, tb_ tx s.1)) hc (tfS st) e⟩
      · obtain ⟨rfl, st, hT4, ap⟩ := v.1 c9
        rw [c9, if_pos rfl] at hc
        refine ⟨by decide, fun _ => ⟨by omega, fun N5 g5 => ?_⟩, fun z => absurd z (by decide)⟩
        rw [ap.1] at g5
        have f5 : FrM (fun c => c = 12) (fun _ => False) N4 N5 := FrM.up' g5 rfl (by omega)
        have tf5 : TfM N N5 := (tfS st).tr (TfM.up' g5 (by omega) (by show 2 ≤ 2 + w; omega))
        have ts := te_le gs.2.1
        refine ⟨tf5, fun f e => (by rw [hc] at e; cases e), fun x e => ?_⟩
        rw [hc] at e; cases e
        refine ⟨rfl, hT4.cell g5 (by omega), ci + s.2.2.1.length, ?_, by show ci + s.2.2.1.length ≤ 1000 + te_ tx s.1; have := gs.2.2.2.1; omega⟩
        have c11 : N5 11 = up1 (N 11) (2 + w) (ci : Int) := by rw [f5.1 11 (by omega) (by omega), st.1.1 11 (by omega) (by omega), g3, upr_eq, if_pos rfl, f2.1 11 (by omega) (fun z => z), f1.1 11 (by omega) (fun z => z)]
        have c12 : N5 12 = up1 (N 12) (2 + w) ((ci + s.2.2.1.length : Nat) : Int) := by rw [g5, upr_eq, if_pos rfl, st.1.1 12 (by omega) (by omega), f3.1 12 (by omega) (by omega), f2.1 12 (by omega) (fun z => z), f1.1 12 (by omega) (fun z => z)]
        have c13 : N3 13 = N 13 := by rw [f3.1 13 (by omega) (by omega), f2.1 13 (by omega) (fun z => z), f1.1 13 (by omega) (fun z => z)]
        have c13' : N5 13 = N4 13 := f5.1 13 (by omega) (by omega)
        refine hD' ho s _ N5 ⟨fun z => (by cases z), fun x hx => ?_⟩ (by omega) ?_ ?_ ?_ ?_ ?_
        · cases hx
          refine ⟨ci, by rw [c11, up1_eq, if_pos rfl], by rw [c12, up1_eq, if_pos rfl], hci0, Nat.le_refl _, gs.2.2.2.2.2.1, fun j hj => ?_⟩
          rw [c13']; exact ap.2.2 j hj
        · rw [f5.2 21 (fun z => z), ap.1]
        · rw [f5.2 23 (fun z => z), st.1.2 23 (by omega), f3.2 23 (fun z => z), f2.2 23 (by omega), f1.2 23 (by omega)]
        · intro c h1 h2
          rw [f5.1 c h1 (by omega), st.1.1 c h1 (by omega), f3.1 c h1 (by omega), f2.1 c h1 (fun z => z), f1.1 c h1 (fun z => z)]
        · intro k hk
          rw [c11, c12, up1_eq, up1_eq, if_neg hk, if_neg hk]; exact ⟨rfl, rfl⟩
        · intro j hj
          rw [c13', ap.2.1 j hj, c13]
theorem DMl.up {N N' : Mm} {k ci ci' : Nat} {o : Option (Nat × PRS)} (h : DMl N k o ci) (hc : ci ≤ ci') (e11 : N' 11 k = N 11 k) (e12 : N' 12 k = N 12 k) (e13 : ∀ j, j < ci → N' 13 j = N 13 j) : DMl N' k o ci' := by
  have h2 := h.fr e11 e12 e13
  refine ⟨h2.1, fun x hx => ?_⟩
  obtain ⟨a, h1, h2, h3, h4, h5, h6⟩ := h2.2 x hx
  exact ⟨a, h1, h2, h3, by omega, h5, h6⟩
theorem m_readsLp {tx : TX} {p ci : Nat} {D : DT} {N : Mm} (hW : WX tx) (hp : p ≤ tx.2) (hT : TpM tx p N) (hD : DM D ci N) (hci : ci ≤ 1000 + p) : S_Mod_readsLaw 0 N (PoM tx N (clo tx (rdLp tx D p))) := by
  obtain ⟨h1, h2, h3, h4, h5⟩ := hD
  refine m_readsLaw (w := 0) (pr := false) (D' := fun s => setLp D (te_ tx p, s)) (o := dlp D) (D := D) hW hp hT hci h1.2.2.2.2.2.2 h1.2.2.2.2.2.1 (by omega) rfl h4 (fun z => by unfold rdLp; rw [if_pos z]) (fun z => by unfold rdLp; rw [if_neg (by rw [z]; exact Bool.false_ne_true)]) ?_
  intro ho s ci' N' hl hc e21 e23 ec e1 e13
  refine ⟨⟨by rw [ec 3 (by omega) (by omega)]; exact h1.1, by rw [ec 3 (by omega) (by omega)]; exact h1.2.1, by rw [ec 3 (by omega) (by omega)]; exact h1.2.2.1, by rw [ec 3 (by omega) (by omega)]; exact h1.2.2.2.1, by rw [e23]; exact h1.2.2.2.2.1, e21, by omega⟩, fun q hq => ?_, ?_, hl, h5.up hc (e1 3 (by omega)).1 (e1 3 (by omega)).2 e13⟩
  · rw [ec 4 (by omega) (by omega), ec 5 (by omega) (by omega), ec 6 (by omega) (by omega), ec 7 (by omega) (by omega), ec 8 (by omega) (by omega), ec 9 (by omega) (by omega)]; exact h2 q hq
  · rw [ec 10 (by omega) (by omega)]; exact h3
theorem m_readsLq {tx : TX} {p ci : Nat} {D : DT} {N : Mm} (hW : WX tx) (hp : p ≤ tx.2) (hT : TpM tx p N) (hD : DM D ci N) (hci : ci ≤ 1000 + p) : S_Mod_readsLaw 1 N (PoM tx N (clo tx (rdLq tx D p))) := by
  obtain ⟨h1, h2, h3, h4, h5⟩ := hD
  refine m_readsLaw (w := 1) (pr := true) (D' := fun s => setLq D (te_ tx p, s)) (o := dlq D) (D := D) hW hp hT hci h1.2.2.2.2.2.2 h1.2.2.2.2.2.1 (by omega) rfl h5 (fun z => by unfold rdLq; rw [if_pos z]) (fun z => by unfold rdLq; rw [if_neg (by rw [z]; exact Bool.false_ne_true)]) ?_
  intro ho s ci' N' hl hc e21 e23 ec e1 e13
  refine ⟨⟨by rw [ec 3 (by omega) (by omega)]; exact h1.1, by rw [ec 3 (by omega) (by omega)]; exact h1.2.1, by rw [ec 3 (by omega) (by omega)]; exact h1.2.2.1, by rw [ec 3 (by omega) (by omega)]; exact h1.2.2.2.1, by rw [e23]; exact h1.2.2.2.2.1, e21, by omega⟩, fun q hq => ?_, ?_, h4.up hc (e1 2 (by omega)).1 (e1 2 (by omega)).2 e13, hl⟩
  · rw [ec 4 (by omega) (by omega), ec 5 (by omega) (by omega), ec 6 (by omega) (by omega), ec 7 (by omega) (by omega), ec 8 (by omega) (by omega), ec 9 (by omega) (by omega)]; exact h2 q hq
  · rw [ec 10 (by omega) (by omega)]; exact h3
theorem m_readsGap {tx : TX} {p ci : Nat} {D : DT} {N : Mm} (hW : WX tx) (hp : p ≤ tx.2) (hT : TpM tx p N) (hD : DM D ci N) (hci : ci ≤ 1000 + p) : S_Mod_readsOne 1 1 20 N (PoM tx N (clo tx (rdGap tx D p))) := by
  have tt := tlb_tab (dga D).2 (dpr D).2 (tlb D) rfl
  refine m_readsOne (w := 1) (told := (dga D).2) (D' := fun v => setG D v) (v0 := (tlb D : Int) + 2) hW hp hT hD hci (by decide) (by decide) (Or.inl rfl) tt.1 tt.2.2.1 (fun z => by unfold rdGap; rw [if_pos z]) (fun z => by unfold rdGap; rw [if_neg (by rw [z]; exact Bool.false_ne_true)]) ?_
  intro ht v N' e3 e23 ec e21
  obtain ⟨h1, h2, h3, h4, h5⟩ := hD
  have et : tlb (setG D v) = tlb D + 2 := by
    show (if true = true then 2 else 0) + (if (dpr D).2 = true then 4 else 0) = (if (dga D).2 = true then 2 else 0) + (if (dpr D).2 = true then 4 else 0) + 2
    rw [ht, if_pos rfl, if_neg Bool.false_ne_true]; omega
  refine ⟨⟨by rw [e3, up1_eq, if_neg (by omega)]; exact h1.1, by rw [e3, up1_eq, if_pos rfl]; rfl, by rw [e3, up1_eq, if_neg (by omega)]; exact h1.2.2.1, by rw [e3, up1_eq, if_neg (by omega)]; exact h1.2.2.2.1, by rw [e23, et]; omega, by rw [e21]; exact h1.2.2.2.2.2.1, h1.2.2.2.2.2.2⟩, fun q hq => ?_, ?_, h4.fr (by rw [ec 11 (by omega) (by omega)]) (by rw [ec 12 (by omega) (by omega)]) (fun j _ => by rw [ec 13 (by omega) (by omega)]), h5.fr (by rw [ec 11 (by omega) (by omega)]) (by rw [ec 12 (by omega) (by omega)]) (fun j _ => by rw [ec 13 (by omega) (by omega)])⟩
  · rw [ec 4 (by omega) (by omega), ec 5 (by omega) (by omega), ec 6 (by omega) (by omega), ec 7 (by omega) (by omega), ec 8 (by omega) (by omega), ec 9 (by omega) (by omega)]; exact h2 q hq
  · rw [ec 10 (by omega) (by omega)]; exact h3
theorem m_readsPri {tx : TX} {p ci : Nat} {D : DT} {N : Mm} (hW : WX tx) (hp : p ≤ tx.2) (hT : TpM tx p N) (hD : DM D ci N) (hci : ci ≤ 1000 + p) : S_Mod_readsOne 2 0 99 N (PoM tx N (clo tx (rdPri tx D p))) := by
  have tt := tlb_tab (dga D).2 (dpr D).2 (tlb D) rfl
  refine m_readsOne (w := 2) (told := (dpr D).2) (D' := fun v => setP D v) (v0 := (tlb D : Int) + 4) hW hp hT hD hci (by decide) (by decide) (Or.inr rfl) tt.2.1 tt.2.2.2 (fun z => by unfold rdPri; rw [if_pos z]) (fun z => by unfold rdPri; rw [if_neg (by rw [z]; exact Bool.false_ne_true)]) ?_
  intro ht v N' e3 e23 ec e21
  obtain ⟨h1, h2, h3, h4, h5⟩ := hD
  have et : tlb (setP D v) = tlb D + 4 := by
    show (if (dga D).2 = true then 2 else 0) + (if true = true then 4 else 0) = (if (dga D).2 = true then 2 else 0) + (if (dpr D).2 = true then 4 else 0) + 4
    rw [ht, if_pos rfl, if_neg Bool.false_ne_true]
  refine ⟨⟨by rw [e3, up1_eq, if_neg (by omega)]; exact h1.1, by rw [e3, up1_eq, if_neg (by omega)]; exact h1.2.1, by rw [e3, up1_eq, if_pos rfl]; rfl, by rw [e3, up1_eq, if_neg (by omega)]; exact h1.2.2.2.1, by rw [e23, et]; omega, by rw [e21]; exact h1.2.2.2.2.2.1, h1.2.2.2.2.2.2⟩, fun q hq => ?_, ?_, h4.fr (by rw [ec 11 (by omega) (by omega)]) (by rw [ec 12 (by omega) (by omega)]) (fun j _ => by rw [ec 13 (by omega) (by omega)]), h5.fr (by rw [ec 11 (by omega) (by omega)]) (by rw [ec 12 (by omega) (by omega)]) (fun j _ => by rw [ec 13 (by omega) (by omega)])⟩
  · rw [ec 4 (by omega) (by omega), ec 5 (by omega) (by omega), ec 6 (by omega) (by omega), ec 7 (by omega) (by omega), ec 8 (by omega) (by omega), ec 9 (by omega) (by omega)]; exact h2 q hq
  · rw [ec 10 (by omega) (by omega)]; exact h3
/-- a line of a town, in the model: the loop's body -/
theorem PoM_go {tx : TX} {N0 N : Mm} {res : Sum FLT (DT × Nat)} {S : (Int → Mm → Prop) → Prop} {K1 : Mm → Prop} {P : Int → Mm → Prop} (hS : S (PoM tx N res)) (hk : ∀ x N', res = .inr x → TpM tx x.2 N' → (∃ ci, DM x.1 ci N' ∧ ci ≤ 1000 + x.2) → TfM N N' → K1 N') (hP : ∀ f N', res = .inl f → TfM N N' → N' 1 9 = (f.1 : Int) + 16 * (f.2 : Int) → P 0 N') : ∃ P9 : Int → Mm → Prop, S P9 ∧ ∀ (r9 : Int) (M9 : Mm), P9 r9 M9 → (rng r9) ∧ (r9 ≠ 0 → K1 M9) ∧ (r9 = 0 → P 0 M9) := by
  refine ⟨_, hS, fun r N' h => ?_⟩
  cases c : res with
  | inl f =>
    obtain ⟨rfl, e⟩ := h.2.1 f c
    exact ⟨by decide, fun z => absurd rfl z, fun _ => hP f N' c h.1 e⟩
  | inr x =>
    obtain ⟨rfl, e, g⟩ := h.2.2 x c
    exact ⟨by decide, fun _ => hk x N' c e g h.1, fun z => absurd z (by decide)⟩
