theorem twn {b : Nat} (hb : At shC NN b (.inl 7)) : (b = 4 ∨ b = 18) := town_at hb
theorem c_readMeasure {tx : TX} {p b o k d : Nat} {M : Mm} {lo hi : Int} (hW : WX tx) (hp : p ≤ tx.2) (hT : TpC tx p M) (hb : At shC NN b (.inl 7)) (ho : o < 27) (hk : k = 3 ∨ k = 4 ∨ k = 5) (h9 : M b 9 = (d : Int)) (hd : d < 7) (hlo : rng lo) (hhi : rng hi) (hat : At shC NN (b + k) (.inr (0, 7))) : S_Town_readMeasure b 2 o (b + k) 7 lo hi M (fun r M' => M' 2 1 = M 2 1 ∧ (∀ f, tkB tx p o lo hi = .inl f → r = 0 ∧ M' 2 10 = (f.1 : Int) + 16 * (f.2 : Int) ∧ FrC (fun c => c = 2) M M') ∧ (∀ x, tkB tx p o lo hi = .inr x → r = 1 ∧ TpC tx x.2 M' ∧ M' (b + k) = up1 (M (b + k)) d x.1 ∧ FrC (fun c => c = 2 ∨ c = b + k) M M')) := by
  have hb4 := twn hb
  refine W_Town_readMeasure b hb 2 atC_2 o ho (b + k) 7 hat (by decide) _ _ M ⟨_, c_takeWord hW hp hT ho, ?_⟩
  rintro r M1 ⟨f1, s1, a1, a2⟩
  by_cases hw : wo_ tx p = o
  · obtain ⟨rfl, hT1⟩ := a2 hw
    have hte := te_ok hp
    refine ⟨by decide, fun z => by omega, fun _ => ⟨_, c_takeNumber hW hte.2.2.1 hT1 hlo hhi, ?_⟩⟩
    rintro r M2 ⟨f2, s2, b1, b2⟩
    have eB : tkB tx p o lo hi = tkN tx (te_ tx p) lo hi := by unfold tkB; rw [if_neg (fun y => y hw)]
    rw [eB]
    cases c : tkN tx (te_ tx p) lo hi with
    | inl f =>
      obtain ⟨rfl, e⟩ := b1 f c
      exact ⟨by decide, fun z => absurd rfl z, fun _ => ⟨by rw [s2, s1], fun f' e' => by cases e'; exact ⟨rfl, e, f1.tr f2⟩, fun x e' => by cases e'⟩⟩
    | inr x =>
      obtain ⟨rfl, hT2, e9⟩ := b2 x c
      refine ⟨by decide, fun _ => ?_, fun z => by omega⟩
      have e9b : M2 b 9 = (d : Int) := by rw [f2 b (by omega), f1 b (by omega)]; exact h9
      rw [e9b, Int.toNat_natCast, e9]
      refine ⟨by omega, ?_⟩
      rintro M3 rfl
      refine ⟨by rw [upr_eq, if_neg (by omega), s2, s1], fun f e' => (by cases e'), fun x' e' => ?_⟩
      cases e'
      refine ⟨rfl, hT2.fr (by rw [upr_eq, if_neg (by omega)]) (by rw [upr_eq, if_neg (by omega)]), ?_, ((f1.tr f2).wk (fun c hc => Or.inl hc)).tr (FrC.up (Or.inr rfl))⟩
      rw [upr_eq, if_pos rfl, f2 (b + k) (by omega), f1 (b + k) (by omega)]
  · obtain ⟨rfl, e⟩ := a1 hw
    refine ⟨by decide, fun _ => ⟨s1, fun f hf => ?_, fun x hx => ?_⟩, fun z => absurd rfl z⟩
    · unfold tkB at hf; rw [if_pos hw] at hf; cases hf
      exact ⟨rfl, e, f1⟩
    · unfold tkB at hx; rw [if_pos hw] at hx; cases hx
theorem c_kindOf {M : Mm} {o : Nat} (ho : o < 27) : S_Town_kindOf o M (fun r M' => M' = M ∧ r = kdO o) := by
  refine W_Town_kindOf o ho M ⟨_, W_JEnum_ordinal _ ho M (P := fun r M' => r = (o : Int) ∧ M' = M) ⟨rfl, rfl⟩, ?_⟩
  rintro r M1 ⟨rfl, rfl⟩
  rw [Int.toNat_natCast]
  have tab : ∀ o, o < 27 → (wS.getD o 0 = 13 ↔ o = 15) ∧ (wS.getD o 0 = 14 ↔ o = 16) ∧ (wS.getD o 0 = 15 ↔ o = 17) ∧ (wS.getD o 0 = 16 ↔ o = 18) := by decide +kernel
  obtain ⟨t1, t2, t3, t4⟩ := tab o ho
  unfold kdO
  refine ⟨by omega, fun z => ⟨rfl, ?_⟩, fun z => ⟨rfl, ?_⟩, fun z => ⟨rfl, ?_⟩, fun z => ⟨rfl, ?_⟩, fun z => ⟨rfl, ?_⟩⟩
  · rw [if_pos (t1.mp z)]
  · have := t2.mp z; rw [if_neg (by omega), if_pos this]
  · have := t3.mp z; rw [if_neg (by omega), if_neg (by omega), if_pos this]
  · have := t4.mp z; rw [if_neg (by omega), if_neg (by omega), if_neg (by omega), if_pos this]
  · rw [if_neg (fun y => z.1 (t1.mpr y)), if_neg (fun y => z.2.1 (t2.mpr y)), if_neg (fun y => z.2.2.1 (t3.mpr y)), if_neg (fun y => z.2.2.2 (t4.mpr y))]
theorem DC.nm {tx : TX} {D : DT} {b : Nat} {M : Mm} (h : DC D b M) (hw : WD tx D) : NmC (dn D) (dnm D) b M := ⟨h.1.1, hw.1, fun q hq => ⟨(hw.2.1 q hq).1, (h.2.1 q hq).1⟩⟩
theorem at_t {b : Nat} (hb : At shC NN b (.inl 7)) : At shC NN (b + 3) (.inr (0, 7)) ∧ At shC NN (b + 4) (.inr (0, 7)) ∧ At shC NN (b + 5) (.inr (0, 7)) ∧ At shC NN (b + 8) (.inl 0) ∧ At shC NN (b + 11) (.inl 0) := by
  rcases town_at hb with rfl | rfl
  · exact ⟨atC_7, atC_8, atC_9, atC_12, atC_15⟩
  · exact ⟨atC_21, atC_22, atC_23, atC_26, atC_29⟩
set_option maxHeartbeats 1000000 in
theorem c_readHouse {tx : TX} {p b : Nat} {D : DT} {M : Mm} (hW : WX tx) (hp : p ≤ tx.2) (hT : TpC tx p M) (hb : At shC NN b (.inl 7)) (hD : DC D b M) (hw : WD tx D) : S_Town_readHouse b 2 M (PoD tx b M (rdHouse tx D p)) := by
  have hb4 := twn hb
  have hat := at_t hb
  have h9 := hD.1.1
  have h7 := hw.1
  refine e_Town_readHouse b 2 M fun K hK => w_Town_readHouse_0 hK b hb 2 atC_2 M ?_
  rw [h9]
  refine ⟨by omega, fun z => ⟨_, c_adv hW hp hT, ?_⟩, fun z => ⟨_, c_fail (k := 5) hT, ?_⟩⟩
  · have hn7 : ¬ dn D = 7 := by omega
    have t1 := te_le hp
    have t2 := te_le t1.2
    have t3 := te_le t2.2
    rintro M1 ⟨hT1, f1⟩
    have hD1 : DC D b M1 := hD.fr (fun i hi => f1.1 _ (by omega))
    refine ⟨_, c_isName hT1, ?_⟩
    rintro r M2 ⟨rfl, rfl⟩
    refine ⟨zo_rng _, fun y => ?_, fun y => ⟨_, c_fail (k := 1) hT1, ?_⟩⟩
    · have hnm := zo_ne y
      have hk := isNm_k hnm
      rw [hT1.2.2.2.2.2.2.1 hk]
      refine ⟨_, c_numberOf hb (hD1.nm hw) (tl_ok t1.2 hk), ?_⟩
      rintro r M3 ⟨rfl, rfl⟩
      have hno := nmO_ok (n := dn D) (nm := dnm D) (l := tl_ tx (te_ tx p))
      have hh : hNo (dn D) (nmO (dn D) (dnm D) (tl_ tx (te_ tx p))) = -1 ↔ nmO (dn D) (dnm D) (tl_ tx (te_ tx p)) = dn D := by
        unfold hNo
        split <;> omega
      have hr : rng (hNo (dn D) (nmO (dn D) (dnm D) (tl_ tx (te_ tx p)))) := by
        unfold hNo
        split <;> omega
      refine ⟨hr, fun x => ?_, fun x => ⟨_, c_fail (k := 3) hT1, ?_⟩⟩
      · have hfree := hh.mp x
        rw [hD1.1.1, Int.toNat_natCast, hT1.2.2.2.2.2.2.1 hk]
        refine ⟨by omega, ?_⟩
        intro M4 g4
        have f4 : FrC (fun c => c = b + 1) M3 M4 := by rw [g4]; exact FrC.up rfl
        have hT4 : TpC tx (te_ tx p) M4 := hT1.fr (f4 2 (by omega)) (f4 3 (by omega))
        refine ⟨_, c_adv hW t1.2 hT4, ?_⟩
        rintro M5 ⟨hT5, f5⟩
        have e9 : M5 b 9 = (dn D : Int) := by rw [f5.1 b (by omega), f4 b (by omega)]; exact hD1.1.1
        refine ⟨_, hT5.2.2.2.2.2.1, wo_lt _ _, _, c_kindOf (wo_lt _ _), ?_⟩
        rintro r M6 ⟨rfl, rfl⟩
        rw [e9, Int.toNat_natCast]
        refine ⟨by omega, ?_⟩
        intro M7 g7
        have f7 : FrC (fun c => c = b + 2) M6 M7 := by rw [g7]; exact FrC.up rfl
        have e97 : M7 b 9 = (dn D : Int) := by rw [f7 b (by omega)]; exact e9
        have ek7 : M7 (b + 2) (dn D) = kdO (wo_ tx (te_ tx (te_ tx p))) := by rw [g7, upr_eq, if_pos rfl, up1_eq, if_pos rfl]
        have hkr := kdO_in (wo_ tx (te_ tx (te_ tx p)))
        have hT7 : TpC tx (te_ tx (te_ tx p)) M7 := hT5.fr (f7 2 (by omega)) (f7 3 (by omega))
        rw [e97, Int.toNat_natCast, ek7]
        have s7 : M7 2 1 = M 2 1 := by rw [f7 2 (by omega), f5.2.1, f4 2 (by omega), f1.2.1]
        have fr7 : FrC (inU b) M M7 := (((f1.1.wk (fun c hc => Or.inl hc)).tr (f4.wk (fun c hc => by omega))).tr (f5.1.wk (fun c hc => Or.inl hc))).tr (f7.wk (fun c hc => by omega))
        refine ⟨by omega, by omega, fun w => ⟨_, c_adv hW t2.2 hT7, ?_⟩, fun w => ⟨_, c_fail (k := 1) hT7, ?_⟩⟩
        · rintro M8 ⟨hT8, f8⟩
          have e98 : M8 b 9 = (dn D : Int) := by rw [f8.1 b (by omega)]; exact e97
          rw [e98, Int.toNat_natCast]
          refine ⟨by omega, ?_⟩
          intro M9 g9
          have f9 : FrC (fun c => c = b + 6) M8 M9 := by rw [g9]; exact FrC.up rfl
          have hT9 : TpC tx (te_ tx (te_ tx (te_ tx p))) M9 := hT8.fr (f9 2 (by omega)) (f9 3 (by omega))
          have e99 : M9 b 9 = (dn D : Int) := by rw [f9 b (by omega)]; exact e98
          have s9 : M9 2 1 = M 2 1 := by rw [f9 2 (by omega), f8.2.1, s7]
          have fr9 : FrC (inU b) M M9 := (fr7.tr (f8.1.wk (fun c hc => Or.inl hc))).tr (f9.wk (fun c hc => by omega))
          have hres : rdHouse tx D p = bnd (tkB tx (te_ tx (te_ tx (te_ tx p))) 2 1 20) fun a => bnd (tkB tx a.2 3 0 99) fun b => bnd (tkB tx b.2 4 0 9) fun c => .inr (addH D (tl_ tx (te_ tx p)) (kdO (wo_ tx (te_ tx (te_ tx p)))) a.1 b.1 c.1, c.2) := by
            unfold rdHouse
            rw [if_neg hn7, if_neg (by rw [hnm]; decide), if_neg (fun q => q hfree), if_neg w]
          have no : ∀ (M' : Mm) (f : FLT), rdHouse tx D p = .inl f → FrC (inU b) M M' → M' 2 1 = M 2 1 → M' 2 10 = (f.1 : Int) + 16 * (f.2 : Int) → K NN RRC 175 [(0, vr b)] [vi 0] M' := by
            intro M' f hf a b' c
            refine w_Town_readHouse_175 hK b hb _ M' ⟨by decide, fun _ => ?_, fun q => absurd rfl q⟩
            rintro M'' rfl
            refine ⟨Or.inl rfl, PoD_f hf (a.tr (FrC.up (by omega))) (by rw [upr_eq, if_neg (by omega)]; exact b') (by rw [upr_eq, if_neg (by omega)]; exact c)⟩
          refine ⟨_, c_readMeasure (k := 3) hW t3.2 hT9 hb (by omega) (by omega) e99 (by omega) (by decide) (by decide) hat.1, ?_⟩
          rintro r M10 ⟨s10, u1, u2⟩
          cases c10 : tkB tx (te_ tx (te_ tx (te_ tx p))) 2 1 20 with
          | inl f =>
            obtain ⟨rfl, q1, q2⟩ := u1 f c10
            exact ⟨by decide, fun _ => no M10 f (by rw [hres, bnd_l c10]) (fr9.tr (q2.wk (fun c hc => Or.inl hc))) (by rw [s10, s9]) q1, fun q => absurd rfl q⟩
          | inr xa =>
            obtain ⟨rfl, hT10, q1, q2⟩ := u2 xa c10
            have ra := tkB_r t3.2 c10
            have e910 : M10 b 9 = (dn D : Int) := by rw [q2 b (by omega)]; exact e99
            have fr10 : FrC (inU b) M M10 := fr9.tr (q2.wk (fun c hc => by omega))
            refine ⟨by decide, fun q => by omega, fun _ => ⟨_, c_readMeasure (k := 4) hW ra.2.2.2 hT10 hb (by omega) (by omega) e910 (by omega) (by decide) (by decide) hat.2.1, ?_⟩⟩
            rintro r M11 ⟨s11, v1, v2⟩
            cases c11 : tkB tx xa.2 3 0 99 with
            | inl f =>
              obtain ⟨rfl, p1, p2⟩ := v1 f c11
              exact ⟨by decide, fun _ => no M11 f (by rw [hres, bnd_r c10, bnd_l c11]) (fr10.tr (p2.wk (fun c hc => Or.inl hc))) (by rw [s11, s10, s9]) p1, fun q => absurd rfl q⟩
            | inr xb =>
              obtain ⟨rfl, hT11, p1, p2⟩ := v2 xb c11
              have rb := tkB_r ra.2.2.2 c11
              have e911 : M11 b 9 = (dn D : Int) := by rw [p2 b (by omega)]; exact e910
              have fr11 : FrC (inU b) M M11 := fr10.tr (p2.wk (fun c hc => by omega))
              refine ⟨by decide, fun q => by omega, fun _ => ⟨_, c_readMeasure (k := 5) hW rb.2.2.2 hT11 hb (by omega) (by omega) e911 (by omega) (by decide) (by decide) hat.2.2.1, ?_⟩⟩
              rintro r M12 ⟨s12, w1, w2⟩
              cases c12 : tkB tx xb.2 4 0 9 with
              | inl f =>
                obtain ⟨rfl, o1, o2⟩ := w1 f c12
                exact ⟨by decide, fun _ => no M12 f (by rw [hres, bnd_r c10, bnd_r c11, bnd_l c12]) (fr11.tr (o2.wk (fun c hc => Or.inl hc))) (by rw [s12, s11, s10, s9]) o1, fun q => absurd rfl q⟩
              | inr xc =>
                obtain ⟨rfl, hT12, o1, o2⟩ := w2 xc c12
                have e912 : M12 b 9 = (dn D : Int) := by rw [o2 b (by omega)]; exact e911
                refine ⟨by decide, fun q => by omega, fun _ => ?_⟩
                refine w_Town_readHouse_175 hK b hb _ M12 ⟨by decide, fun q => by omega, fun _ => ?_⟩
                intro M13 g13
                refine ⟨Or.inr rfl, PoD_r (x := (addH D (tl_ tx (te_ tx p)) (kdO (wo_ tx (te_ tx (te_ tx p)))) xa.1 xb.1 xc.1, xc.2)) (by rw [hres, bnd_r c10, bnd_r c11, bnd_r c12]) ?_ ?_ ?_ ?_⟩
                · rw [g13]; exact (fr11.tr (o2.wk (fun c hc => by omega))).tr (FrC.up (by omega))
                · rw [g13, upr_eq, if_neg (by omega), s12, s11, s10, s9]
                · exact hT12.fr (by rw [g13, upr_eq, if_neg (by omega)]) (by rw [g13, upr_eq, if_neg (by omega)])
                · -- the draft with a house more
                  have c1 : M13 (b + 1) = up1 (M (b + 1)) (dn D) (enc 32 (tl_ tx (te_ tx p))) := by
                    rw [g13, upr_eq, if_neg (by omega), o2 _ (by omega), p2 _ (by omega), q2 _ (by omega), f9 _ (by omega), f8.1 _ (by omega), f7 _ (by omega), f5.1 _ (by omega), g4, upr_eq, if_pos rfl, f1.1 _ (by omega)]
                  have c2 : M13 (b + 2) = up1 (M (b + 2)) (dn D) (kdO (wo_ tx (te_ tx (te_ tx p)))) := by
                    rw [g13, upr_eq, if_neg (by omega), o2 _ (by omega), p2 _ (by omega), q2 _ (by omega), f9 _ (by omega), f8.1 _ (by omega), g7, upr_eq, if_pos rfl, f5.1 _ (by omega), f4 _ (by omega), f1.1 _ (by omega)]
                  have c3 : M13 (b + 3) = up1 (M (b + 3)) (dn D) xa.1 := by
                    rw [g13, upr_eq, if_neg (by omega), o2 _ (by omega), p2 _ (by omega), q1, f9 _ (by omega), f8.1 _ (by omega), f7 _ (by omega), f5.1 _ (by omega), f4 _ (by omega), f1.1 _ (by omega)]
                  have c4 : M13 (b + 4) = up1 (M (b + 4)) (dn D) xb.1 := by
                    rw [g13, upr_eq, if_neg (by omega), o2 _ (by omega), p1, q2 _ (by omega), f9 _ (by omega), f8.1 _ (by omega), f7 _ (by omega), f5.1 _ (by omega), f4 _ (by omega), f1.1 _ (by omega)]
                  have c5 : M13 (b + 5) = up1 (M (b + 5)) (dn D) xc.1 := by
                    rw [g13, upr_eq, if_neg (by omega), o1, p2 _ (by omega), q2 _ (by omega), f9 _ (by omega), f8.1 _ (by omega), f7 _ (by omega), f5.1 _ (by omega), f4 _ (by omega), f1.1 _ (by omega)]
                  have c6 : M13 (b + 6) = up1 (M (b + 6)) (dn D) 0 := by
                    rw [g13, upr_eq, if_neg (by omega), o2 _ (by omega), p2 _ (by omega), q2 _ (by omega), g9, upr_eq, if_pos rfl, f8.1 _ (by omega), f7 _ (by omega), f5.1 _ (by omega), f4 _ (by omega), f1.1 _ (by omega)]
                  have cz : M13 b = up1 (M b) 9 ((dn D : Int) + 1) := by
                    rw [g13, upr_eq, if_pos rfl, e912, o2 _ (by omega), p2 _ (by omega), q2 _ (by omega), f9 _ (by omega), f8.1 _ (by omega), f7 _ (by omega), f5.1 _ (by omega), f4 _ (by omega), f1.1 _ (by omega)]
                  have co : ∀ i, 7 ≤ i → i < 14 → M13 (b + i) = M (b + i) := fun i h1 h2 => by
                    rw [g13, upr_eq, if_neg (by omega), o2 _ (by omega), p2 _ (by omega), q2 _ (by omega), f9 _ (by omega), f8.1 _ (by omega), f7 _ (by omega), f5.1 _ (by omega), f4 _ (by omega), f1.1 _ (by omega)]
                  obtain ⟨d1, d2, d3, d4, d5, d6, d7⟩ := hD
                  refine ⟨?_, fun q hq => ?_, by rw [co 7 (by omega) (by omega)]; exact d3, d4.fr (co 8 (by omega) (by omega)) (co 9 (by omega) (by omega)), d5.fr (co 11 (by omega) (by omega)) (co 12 (by omega) (by omega)), by rw [co 8 (by omega) (by omega)]; exact d6, by rw [co 11 (by omega) (by omega)]; exact d7⟩
                  · rw [cz]
                    exact ⟨by rw [up1_eq, if_pos rfl]; rfl, by rw [up1_eq, if_neg (by omega)]; exact d1.2.1, by rw [up1_eq, if_neg (by omega)]; exact d1.2.2.1, by rw [up1_eq, if_neg (by omega)]; exact d1.2.2.2.1, by rw [up1_eq, if_neg (by omega)]; exact d1.2.2.2.2⟩
                  · have hq2 : q < dn D + 1 := hq
                    rw [c1, c2, c3, c4, c5, c6]
                    show up1 _ _ _ q = enc 32 (up1 (dnm D) (dn D) _ q) ∧ up1 _ _ _ q = up1 (dk D) (dn D) _ q ∧ up1 _ _ _ q = up1 (dth D) (dn D) _ q ∧ up1 _ _ _ q = up1 (dwe D) (dn D) _ q ∧ up1 _ _ _ q = up1 (din D) (dn D) _ q ∧ up1 _ _ _ q = ((up1 (dsh D) (dn D) 0 q : Nat) : Int)
                    simp only [up1_eq]
                    by_cases e : q = dn D
                    · simp [e]
                    · simp only [if_neg e]; exact d2 q (by omega)
        · rintro r M8 ⟨rfl, a, b', c⟩
          refine ⟨Or.inl rfl, PoD_f (f := (1, tb_ tx (te_ tx (te_ tx p)))) ?_ (fr7.tr (c.wk (fun c hc => Or.inl hc))) (by rw [b', s7]) a⟩
          unfold rdHouse
          rw [if_neg hn7, if_neg (by rw [hnm]; decide), if_neg (fun q => q hfree), if_pos w]
      · rintro r M4 ⟨rfl, a, b', c⟩
        refine ⟨Or.inl rfl, PoD_f (f := (3, tb_ tx (te_ tx p))) ?_ ((f1.1.wk (fun c hc => Or.inl hc)).tr (c.wk (fun c hc => Or.inl hc))) (by rw [b', f1.2.1]) a⟩
        unfold rdHouse
        rw [if_neg hn7, if_neg (by rw [hnm]; decide), if_pos (fun q => x (hh.mpr q))]
    · rintro r M3 ⟨rfl, a, b', c⟩
      refine ⟨Or.inl rfl, PoD_f (f := (1, tb_ tx (te_ tx p))) ?_ ((f1.1.wk (fun c hc => Or.inl hc)).tr (c.wk (fun c hc => Or.inl hc))) (by rw [b', f1.2.1]) a⟩
      unfold rdHouse
      rw [if_neg hn7, if_pos (zo_0 y)]
  · rintro r M1 ⟨rfl, a, b', c⟩
    refine ⟨Or.inl rfl, PoD_f (f := (5, tb_ tx p)) ?_ (c.wk (fun c hc => Or.inl hc)) b' a⟩
    unfold rdHouse
    rw [if_pos (by omega)]
