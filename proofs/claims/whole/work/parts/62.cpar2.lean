theorem c_takeSign {tx : TX} {p : Nat} {M : Mm} {c : Int} (hW : WX tx) (hp : p ≤ tx.2) (hT : TpC tx p M) (hc : rng c) : S_Tape_takeSign 2 c M (fun r M' => (isS_ tx p c = true → r = 1 ∧ TpC tx (te_ tx p) M' ∧ fr2 M M') ∧ (isS_ tx p c = false → r = 0 ∧ M' 2 10 = 1 + 16 * (tb_ tx p : Int) ∧ M' 2 1 = M 2 1 ∧ FrC (fun c => c = 2) M M')) := by
  refine W_Tape_takeSign 2 atC_2 _ M ⟨_, c_isSign hW hp hT hc, ?_⟩
  rintro r M1 ⟨rfl, rfl⟩
  refine ⟨zo_rng _, fun z => ⟨_, c_adv hW hp hT, ?_⟩, fun z => ⟨_, c_fail (k := 1) hT, ?_⟩⟩
  · rintro M2 ⟨a, b⟩
    exact ⟨fun _ => ⟨rfl, a, b⟩, fun y => (by rw [zo_ne z] at y; cases y)⟩
  · rintro r M2 ⟨rfl, a, b, d⟩
    exact ⟨Or.inl rfl, fun y => (by rw [zo_0 z] at y; cases y), fun _ => ⟨rfl, a, b, d⟩⟩
def lfI (tx : TX) (pr : Bool) (p : Nat) : Int := match lfc tx pr p with
  | some x => x.1
  | none => -14
theorem pPart_0 {tx : TX} {pr : Bool} {p : Nat} : pPart tx pr 0 p = if stB tx pr p = true then .inl (5, tb_ tx p) else .inl (1, tb_ tx p) := rfl
theorem pPart_s {tx : TX} {pr : Bool} {d p : Nat} : pPart tx pr (d + 1) p = if isS_ tx p 40 = true then (match qE tx (pPart tx pr d) (te_ tx p) with
      | .inl f => .inl f
      | .inr r => parR r tx)
    else if wo_ tx p = 19 then (match pPart tx pr d (te_ tx p) with
      | .inl f => .inl f
      | .inr r => .inr (notR r))
    else match lfc tx pr p with
      | some x => .inr (te_ tx p, [x.1], [x.2.1], x.2.2)
      | none => .inl (1, tb_ tx p) := rfl
theorem pPart_no {tx : TX} {pr : Bool} {d p : Nat} (h1 : lfc tx pr p = none) (h2 : isS_ tx p 40 = false) (h3 : wo_ tx p ≠ 19) : pPart tx pr d p = .inl (1, tb_ tx p) := by
  cases d with
  | zero =>
    rw [pPart_0, if_neg]
    unfold stB
    rw [h1, h2, decide_eq_false h3]; exact Bool.false_ne_true
  | succ d =>
    rw [pPart_s, if_neg (by rw [h2]; exact Bool.false_ne_true), if_neg h3]
    simp only [h1]
theorem pPart_5 {tx : TX} {pr : Bool} {p : Nat} (h : lfc tx pr p ≠ none ∨ isS_ tx p 40 = true ∨ wo_ tx p = 19) : pPart tx pr 0 p = .inl (5, tb_ tx p) := by
  rw [pPart_0, if_pos]
  unfold stB
  rcases h with h | h | h
  · cases c : lfc tx pr p with
    | none => exact absurd c h
    | some x => simp
  · rw [h]; rfl
  · rw [decide_eq_true h]; simp
theorem failPo {tx : TX} {b n p : Nat} {M M' : Mm} {k : Nat} {res : PR} (hb : 12 ≤ b) (hres : res = .inl (k, tb_ tx p)) (h : M' 2 10 = (k : Int) + 16 * (tb_ tx p : Int) ∧ M' 2 1 = M 2 1 ∧ FrC (fun c => c = 2) M M') : PoC tx b n M res 0 M' := by
  subst hres
  exact ⟨h.2.2.wk (fun c hc => Or.inl hc), by rw [h.2.2 b (by omega)], h.2.1, fun f e => by cases e; exact ⟨rfl, h.1⟩, fun s e => by cases e⟩
theorem c_readPart {tx : TX} {pr : Bool} {b : Nat} (hW : WX tx) (hb : At shC NN b (.inl 0)) : ∀ d, d ≤ 5 → ∀ dd, 10 + 5 * d ≤ dd → HQ tx b pr (pPart tx pr d) (S_Law_readPart dd b 2 (5 - (d : Int))) := by
  have hbl := law_at hb
  have hlen := hW.1
  -- what comes ahead of the reading on
  have pre : ∀ (d : Nat) (dd : Nat) (_ : 9 ≤ dd) (p n : Nat) (M : Mm) (_ : p ≤ tx.2) (_ : TpC tx p M) (_ : M b 0 = zo pr) (K : Nat → Rr → Nat → List (Nat × AV) → List AV → Mm → Prop) (_ : EK shC yX1_readPart cX1_readPart 6 (some .boolean) (dd + 1) NN NN (QI RRC (PoC tx b n M (pPart tx pr d p))) K) (w : Int),
      ((lfc tx pr p ≠ none ∨ isS_ tx p 40 = true ∨ wo_ tx p = 19) → K NN RRC 71 [(0, vr b), (1, vr 2), (2, vi w), (3, vi (lfI tx pr p)), (4, vi (zo (isS_ tx p 40))), (5, vi (zo (decide (wo_ tx p = 19))))] [] M) → K NN RRC 0 [(0, vr b), (1, vr 2), (2, vi w)] [] M := by
    intro d dd hdd p n M hp hT h0 K hK w k71
    obtain ⟨-, -, -, -, h5, h6, -, h8, -⟩ := id hT
    have hlt := wo_lt tx p
    have htk := tk_le (tx := tx) (p := p)
    have k47 : K NN RRC 47 [(0, vr b), (1, vr 2), (2, vi w), (3, vi (lfI tx pr p)), (4, vi (zo (isS_ tx p 40)))] [vi (zo (decide (wo_ tx p = 19)))] M := by
      refine w_Law_readPart_47 hK hdd b hb 2 atC_2 _ _ _ _ M ?_
      cases c : lfc tx pr p with
      | some x =>
        have hx := (lfc_g hp c).2.1
        have e : lfI tx pr p = x.1 := by unfold lfI; rw [c]
        rw [e] at k71 ⊢
        exact ⟨by omega, fun _ => k71 (Or.inl (by rw [c]; exact fun z => by cases z)), fun z => by omega⟩
      | none =>
        have e : lfI tx pr p = -14 := by unfold lfI; rw [c]
        rw [e] at k71 ⊢
        refine ⟨by decide, fun z => absurd rfl z, fun _ => ⟨zo_rng _, fun z => k71 (Or.inr (Or.inl (zo_ne z))), fun z => ⟨zo_rng _, fun y => k71 (Or.inr (Or.inr (of_decide_eq_true (zo_ne y)))), fun y => ⟨_, c_fail (k := 1) hT, ?_⟩⟩⟩⟩
        rintro r M1 ⟨rfl, hf⟩
        exact ⟨Or.inl rfl, failPo (by omega) (pPart_no c (zo_0 z) (of_decide_eq_false (zo_0 y))) hf⟩
    have k23 : K NN RRC 23 [(0, vr b), (1, vr 2), (2, vi w)] [vi (lfI tx pr p)] M := by
      refine w_Law_readPart_23 hK hdd b hb 2 atC_2 _ _ M ⟨_, c_isSign hW hp hT (by decide), ?_⟩
      rintro r M1 ⟨rfl, rfl⟩
      refine ⟨_, h6, hlt, fun z => ?_, fun z => ?_⟩
      · rw [decide_eq_false z] at k47; exact k47
      · rw [decide_eq_true z] at k47; exact k47
    refine w_Law_readPart_0 hK hdd b hb 2 atC_2 _ M ?_
    rw [h5]
    refine ⟨by omega, fun z => ⟨_, h6, hlt, _, c_factCode hb h0 (by omega), ?_⟩, fun z => ?_⟩
    · rintro r M1 ⟨rfl, hr⟩
      have e : r = lfI tx pr p := by
        unfold lfI
        rcases hr with ⟨a, rfl⟩ | ⟨x, a, rfl⟩
        · rw [a]
        · rw [a]
      rw [e]; exact k23
    · have hk : tk_ tx p = 3 := by omega
      have e : lfI tx pr p = tv_ tx p := by unfold lfI lfc; rw [if_pos hk]
      rw [h8 hk, ← e]; exact k23
  intro d
  induction d with
  | zero =>
    intro _ dd hdd p n M hp hn hT h3 h0
    obtain ⟨d2, rfl⟩ : ∃ d2, dd = d2 + 1 := ⟨dd - 1, by omega⟩
    refine e_Law_readPart (d2 + 1) b 2 _ M fun K hK => pre 0 d2 (by omega) p n M hp hT h0 K hK _ (fun hst => ?_)
    refine w_Law_readPart_71 hK (by omega) b hb 2 atC_2 _ _ _ _ M ⟨by decide, fun z => absurd z (by decide), fun _ => ⟨_, c_fail (k := 5) hT, ?_⟩⟩
    rintro r M1 ⟨rfl, hf⟩
    exact ⟨Or.inl rfl, failPo (by omega) (pPart_5 hst) hf⟩
  | succ d ih =>
    intro hd dd hdd p n M hp hn hT h3 h0
    obtain ⟨d2, rfl⟩ : ∃ d2, dd = d2 + 1 := ⟨dd - 1, by omega⟩
    refine e_Law_readPart (d2 + 1) b 2 _ M fun K hK => pre (d + 1) d2 (by omega) p n M hp hT h0 K hK _ (fun hst => ?_)
    have hke : tk_ tx p ≠ 0 := by
      rcases hst with h | h | h
      · cases c : lfc tx pr p with
        | none => exact absurd c h
        | some x => exact (lfc_g hp c).1
      · have := isS_k h; omega
      · have := wo_k (tx := tx) (p := p) (by omega); omega
    have htp := tk_pos hp hke
    refine w_Law_readPart_71 hK (by omega) b hb 2 atC_2 _ _ _ _ M ⟨by omega, fun _ => ⟨_, c_adv hW hp hT, ?_⟩, fun z => by omega⟩
    rintro M1 ⟨hT1, hf1⟩
    have hm1 : MidC tx b n M (te_ tx p, [], [], fun _ => 0) M1 := ⟨hf1.1.wk (fun c hc => Or.inl hc), by rw [hf1.1 b (by omega)], hf1.2.1, hT1, ⟨by rw [hf1.1 b (by omega), h3]; rfl, fun i _ => by rw [hf1.1 (b + 1) (by omega)], fun i hi => by cases hi⟩⟩
    have ew : (5 : Int) - ((d + 1 : Nat) : Int) + 1 = 5 - (d : Int) := by omega
    rw [ew]
    have h01 : M1 b 0 = zo pr := by rw [hm1.2.1]; exact h0
    have h31 : M1 b 3 = (n : Int) := by rw [hf1.1 b (by omega)]; exact h3
    -- codes of what was read within
    have inner : ∀ (s : PRS) (M2 M3 : Mm) (x : Int), PoC tx b n M1 (.inr s) 1 M2 → app b (n + s.2.1.length) M2 M3 [x] ∧ FrC (fun c => c = b ∨ c = b + 1) M2 M3 ∧ M3 b 0 = M2 b 0 → FrC (fun c => c = 2 ∨ c = b ∨ c = b + 1) M M3 ∧ M3 b 0 = M b 0 ∧ M3 2 1 = M 2 1 ∧ TpC tx s.1 M3 ∧ app b n M M3 (s.2.1 ++ [x]) := by
      intro s M2 M3 x hP hA
      obtain ⟨b1, b2, b3, -, b5⟩ := hP
      obtain ⟨-, c2, c3⟩ := b5 s rfl
      obtain ⟨d1, d2, d3⟩ := hA
      refine ⟨(hm1.1.tr b1).tr (d2.wk (fun c hc => Or.inr hc)), by rw [d3, b2]; exact hm1.2.1, by rw [d2 2 (by omega), b3]; exact hm1.2.2.1, ?_, ?_⟩
      · obtain ⟨e1, e2, e3⟩ := c2
        refine ⟨fun j hj => by rw [d2 3 (by omega)]; exact e1 j hj, ?_⟩
        rw [d2 2 (by omega)]; exact ⟨e2, e3⟩
      · have h12 := (hm1.2.2.2.2.tr (show app b (n + ([] : List Int).length) M1 M2 s.2.1 from c3)).tr (cs2 := [x]) (by rw [List.nil_append]; exact d1)
        rw [List.nil_append] at h12
        exact h12
    refine ⟨zo_rng _, fun z => ⟨zo_rng _, fun y => ?_, fun y => ?_⟩, fun z => ?_⟩
    · -- a leaf
      have hns := zo_0 z
      have hnw := of_decide_eq_false (zo_0 y)
      cases c : lfc tx pr p with
      | none =>
        exfalso
        rcases hst with h | h | h
        · exact h c
        · rw [hns] at h; cases h
        · exact hnw h
      | some x =>
        have e : lfI tx pr p = x.1 := by unfold lfI; rw [c]
        rw [e]
        refine w_Law_readPart_135 hK (by omega) b hb _ _ M1 ⟨zo_rng _, fun _ => ⟨_, c_add (x := x.1) hb h31 (by omega), ?_⟩, fun w => absurd y w⟩
        rintro M2 ⟨a1, a2, a3⟩
        show PoC tx b n M (pPart tx pr (d + 1) p) 1 M2
        rw [pPart_s, if_neg (by rw [hns]; exact Bool.false_ne_true), if_neg hnw]
        simp only [c]
        refine PoC_mid ⟨hm1.1.tr (a2.wk (fun c hc => Or.inr hc)), by rw [a3]; exact hm1.2.1, by rw [a2 2 (by omega)]; exact hm1.2.2.1, ?_, ?_⟩
        · obtain ⟨e1, e2, e3⟩ := hT1
          refine ⟨fun j hj => by rw [a2 3 (by omega)]; exact e1 j hj, ?_⟩
          rw [a2 2 (by omega)]; exact ⟨e2, e3⟩
        · have := hm1.2.2.2.2.tr (cs2 := [x.1]) a1
          rw [List.nil_append] at this
          exact this
    · -- not
      have hns := zo_0 z
      have hw := of_decide_eq_true (zo_ne y)
      have hres : pPart tx pr (d + 1) p = (match pPart tx pr d (te_ tx p) with
        | .inl f => .inl f
        | .inr r => .inr (notR r)) := by rw [pPart_s, if_neg (by rw [hns]; exact Bool.false_ne_true), if_pos hw]
      refine ⟨_, ih (by omega) d2 (by omega) (te_ tx p) n M1 htp.2 (by omega) hT1 h31 h01, ?_⟩
      intro r M2 hP
      cases c : pPart tx pr d (te_ tx p) with
      | inl f =>
        rw [c] at hP hres
        have hr := (hP.2.2.2.1 f rfl).1
        subst hr
        refine ⟨by decide, fun w => absurd rfl w, fun _ => ?_⟩
        show PoC tx b n M (pPart tx pr (d + 1) p) 0 M2
        rw [hres]
        exact PoC_inl hm1 hP
      | inr s =>
        rw [c] at hP hres
        have hr := (hP.2.2.2.2 s rfl).1
        subst hr
        obtain ⟨k1, k2, k3, -⟩ := ((pPart_g d) (te_ tx p) htp.2).1 s c
        have hl3 := (hP.2.2.2.2 s rfl).2.2.1
        refine ⟨by decide, fun _ => ?_, fun w => by omega⟩
        refine w_Law_readPart_135 hK (by omega) b hb _ _ M2 ⟨zo_rng _, fun w => absurd w y, fun _ => ⟨_, c_add (x := -1) hb hl3 (by omega), ?_⟩⟩
        intro M3 hA
        show PoC tx b n M (pPart tx pr (d + 1) p) 1 M3
        rw [hres]
        exact PoC_mid (s := notR s) (inner s M2 M3 (-1) hP hA)
    · -- within ( )
      have hs := zo_ne z
      have hres : pPart tx pr (d + 1) p = (match qE tx (pPart tx pr d) (te_ tx p) with
        | .inl f => .inl f
        | .inr r => parR r tx) := by rw [pPart_s, if_pos hs]
      obtain ⟨d3, rfl⟩ : ∃ d3, d2 = d3 + 4 := ⟨d2 - 4, by omega⟩
      refine ⟨_, c_qE hW hb (by omega) (pPart_g d) (ih (by omega) d3 (by omega)) (te_ tx p) n M1 htp.2 (by omega) hT1 h31 h01, ?_⟩
      intro r M2 hP
      cases c : qE tx (pPart tx pr d) (te_ tx p) with
      | inl f =>
        rw [c] at hP hres
        have hr := (hP.2.2.2.1 f rfl).1
        subst hr
        refine ⟨by decide, fun _ => ?_, fun w => absurd rfl w⟩
        show PoC tx b n M (pPart tx pr (d + 1) p) 0 M2
        rw [hres]
        exact PoC_inl hm1 hP
      | inr s =>
        rw [c] at hP hres
        obtain ⟨rfl, hm2⟩ := mid_PoC hP
        obtain ⟨k1, k2, k3, -⟩ := (qE_g (pPart_g (pr := pr) d) (te_ tx p) htp.2).1 s c
        refine ⟨by decide, fun w => by omega, fun _ => ⟨_, c_takeSign hW k2 hm2.2.2.2.1 (by decide), ?_⟩⟩
        rintro r M3 ⟨u1, u2⟩
        have hres2 : pPart tx pr (d + 1) p = parR s tx := hres
        unfold parR at hres2
        cases c3 : isS_ tx s.1 41
        · obtain ⟨rfl, v1, v2, v3⟩ := u2 c3
          rw [c3, if_neg Bool.false_ne_true] at hres2
          refine ⟨by decide, fun _ => ?_, fun w => absurd rfl w⟩
          show PoC tx b n M (pPart tx pr (d + 1) p) 0 M3
          rw [hres2]
          exact PoC_inl hm1 (PoC_inl hm2 (failPo (n := n) (by omega) rfl ⟨v1, v2, v3⟩))
        · obtain ⟨rfl, v1, v2⟩ := u1 c3
          rw [c3, if_pos rfl] at hres2
          refine ⟨by decide, fun w => by omega, fun _ => ?_⟩
          show PoC tx b n M (pPart tx pr (d + 1) p) 1 M3
          rw [hres2]
          have hm3 := hm2.adv (by omega) v1 v2
          refine PoC_mid ⟨hm1.1.tr hm3.1, by rw [hm3.2.1]; exact hm1.2.1, by rw [hm3.2.2.1]; exact hm1.2.2.1, v1, ?_⟩
          have := hm1.2.2.2.2.tr (show app b (n + ([] : List Int).length) M1 M3 s.2.1 from hm3.2.2.2.2)
          rw [List.nil_append] at this
          exact this
/-- a law, as it stands in the class behind its reading -/
theorem c_lawRead {tx : TX} {pr : Bool} {b p : Nat} {M : Mm} (hW : WX tx) (hb : At shC NN b (.inl 0)) (hp : p ≤ tx.2) (hT : TpC tx p M) (h0 : M b 0 = zo pr) : S_Law_readFrom b 2 M (fun r M' => (r = 0 ∨ r = 1) ∧ ∃ M1, FrC (fun c => c = b) M M1 ∧ M1 b 0 = M b 0 ∧ PoC tx b 0 M1 (qE tx (pPart tx pr 5) p) r M') := by
  have hbl := law_at hb
  refine W_Law_readFrom b hb 2 atC_2 M ?_
  rintro M1 rfl
  have f1 : FrC (fun c => c = b) M (upr M b (up1 (M b) 3 0)) := FrC.up rfl
  have e0 : (upr M b (up1 (M b) 3 0)) b 0 = M b 0 := by rw [upr_eq, if_pos rfl, up1_eq, if_neg (by omega)]
  have hT1 : TpC tx p (upr M b (up1 (M b) 3 0)) := by
    obtain ⟨e1, e2⟩ := hT
    refine ⟨fun j hj => by rw [f1 3 (by omega)]; exact e1 j hj, ?_⟩
    rw [f1 2 (by omega)]; exact e2
  refine ⟨_, c_qE hW hb (dd := 56) (by omega) (pPart_g 5) (c_readPart hW hb 5 (Nat.le_refl _) 56 (by omega)) p 0 _ hp (by omega) hT1 (by rw [upr_eq, if_pos rfl, up1_eq, if_pos rfl]; rfl) (by rw [e0]; exact h0), ?_⟩
  intro r M2 hP
  have hr := PoC_r hP
  exact ⟨hr, hr, _, f1, e0, hP⟩
