theorem FrM.up' {p q : Nat → Prop} {N N' : Mm} {c : Nat} {g : Nat → Int} (e : N' = upr N c g) (hc : p c) (h1 : c ≠ 1) : FrM p q N N' := by rw [e]; exact FrM.up hc h1
theorem TpM.cell {tx : TX} {p : Nat} {N N' : Mm} {c : Nat} {g : Nat → Int} (h : TpM tx p N) (e : N' = upr N c g) (hc : 3 ≤ c) : TpM tx p N' := h.fr (by rw [e, upr_eq, if_neg (by omega)]) (fun k _ _ => by rw [e, upr_eq, if_neg (by omega)])
theorem TfM.up' {N N' : Mm} {c k : Nat} {v : Int} (e : N' = upr N c (up1 (N c) k v)) (hc : 3 ≤ c ∧ c ≤ 15) (hk : loB c ≤ k) : TfM N N' := by rw [e]; exact TfM.up hc hk
set_option maxHeartbeats 1000000 in
theorem m_readsHouse {tx : TX} {p ci : Nat} {D : DT} {N : Mm} (hW : WX tx) (hp : p ≤ tx.2) (hT : TpM tx p N) (hD : DM D ci N) (hw : WD tx D) (hci : ci ≤ 1000 + p) : S_Mod_readsHouse N (PoM tx N (clo tx (rdHouse tx D p))) := by
  have h4 := hD.1.1
  have h7 := hw.1
  refine e_Mod_readsHouse N fun K hK => w_Mod_readsHouse_0 hK N ?_
  rw [h4]
  have e7 : (7 : Int) + (dn D : Int) = ((7 + dn D : Nat) : Int) := by omega
  rw [e7]
  refine ⟨by omega, fun z => ⟨_, m_nxt hW hp hT, ?_⟩, fun z => ⟨_, m_fails (k := 5) hT, ?_⟩⟩
  · have hn7 : ¬ dn D = 7 := by omega
    have t1 := te_le hp
    have t2 := te_le t1.2
    have t3 := te_le t2.2
    rintro N1 ⟨hT1, f1⟩
    have hD1 : DM D ci N1 := hD.fr (f1.wk (fun c z => z) (fun k hk => Or.inl (by omega)))
    have tf1 : TfM N N1 := TfM.nx f1
    refine ⟨_, m_isKept t1.2 hT1, ?_⟩
    rintro r N2 ⟨rfl, rfl⟩
    refine ⟨zo_rng _, fun y => ?_, fun y => ⟨_, m_fails (k := 1) hT1, ?_⟩⟩
    · have hnm : isNm tx (te_ tx p) = true := by
        have := zo_0 y
        cases c : isNm tx (te_ tx p)
        · rw [c] at this; cases this
        · rfl
      have hk := isNm_k hnm
      refine ⟨_, m_houseNamed (r := 1) (by omega) (hD1.nm hw) (tl_ok t1.2 hk) (hT1.2.2.2.2.2.1 hk), ?_⟩
      rintro r N3 ⟨rfl, rfl⟩
      have hh : hNo (dn D) (nmO (dn D) (dnm D) (tl_ tx (te_ tx p))) < 0 ↔ nmO (dn D) (dnm D) (tl_ tx (te_ tx p)) = dn D := by
        unfold hNo
        split <;> omega
      have hno := nmO_ok (n := dn D) (nm := dnm D) (l := tl_ tx (te_ tx p))
      have hr : rng (hNo (dn D) (nmO (dn D) (dnm D) (tl_ tx (te_ tx p)))) := by
        unfold hNo
        split <;> omega
      refine ⟨hr, fun x => ⟨_, m_nxt hW t1.2 hT1, ?_⟩, fun x => ⟨_, m_fails (k := 3) hT1, ?_⟩⟩
      · have hfree := hh.mp x
        rintro N4 ⟨hT4, f4⟩
        rw [hT1.2.2.2.2.2.1 hk]
        have hD4 : DM D ci N4 := hD1.fr (f4.wk (fun c z => z) (fun k hk => Or.inl (by omega)))
        have tf4 : TfM N N4 := tf1.tr (TfM.nx f4)
        have k124 : ∀ kd : Int, kd = kdO (wo_ tx (te_ tx (te_ tx p))) → K NM RRM 124 [(0, vr 1), (1, vi ((7 + dn D : Nat) : Int)), (2, vl (enc 27 (tl_ tx (te_ tx p))))] [vi kd, vi ((7 + dn D : Nat) : Int), vr 5] N4 := by
          rintro kd rfl
          have hkr := kdO_in (wo_ tx (te_ tx (te_ tx p)))
          refine w_Mod_readsHouse_124 hK _ _ _ _ N4 ?_
          rw [Int.toNat_natCast]
          refine ⟨by omega, ?_⟩
          intro N5 g5
          have e5 : N5 5 (7 + dn D) = kdO (wo_ tx (te_ tx (te_ tx p))) := by rw [g5, upr_eq, if_pos rfl, up1_eq, if_pos rfl]
          have hT5 : TpM tx (te_ tx (te_ tx p)) N5 := hT4.cell g5 (by omega)
          have tf5 : TfM N N5 := tf4.tr (by rw [g5]; exact TfM.up (by omega) (by show 7 ≤ 7 + dn D; omega))
          rw [e5]
          refine ⟨by omega, by omega, fun w => ⟨_, m_nxt hW t2.2 hT5, ?_⟩, fun w => ⟨_, m_fails (k := 1) hT5, ?_⟩⟩
          · rintro N6 ⟨hT6, f6⟩
            have tf6 : TfM N N6 := tf5.tr (TfM.nx f6)
            have hres : rdHouse tx D p = bnd (tkB tx (te_ tx (te_ tx (te_ tx p))) 2 1 20) fun a => bnd (tkB tx a.2 3 0 99) fun b => bnd (tkB tx b.2 4 0 9) fun c => .inr (addH D (tl_ tx (te_ tx p)) (kdO (wo_ tx (te_ tx (te_ tx p)))) a.1 b.1 c.1, c.2) := by
              unfold rdHouse
              rw [if_neg hn7, if_neg (by rw [hnm]; decide), if_neg (fun q => q hfree), if_neg (by omega)]
            refine ⟨_, m_needsBoth (o := 2) hW t3.2 hT6 (by omega) (by omega) (by decide) (by decide), ?_⟩
            rintro r N7 ⟨f7, u1, u2⟩
            have tf7 : TfM N N7 := tf6.tr (TfM.of f7 (fun k hk => by omega))
            cases c7 : tkB tx (te_ tx (te_ tx (te_ tx p))) 2 1 20 with
            | inl f =>
              obtain ⟨rfl, q1⟩ := u1 f c7
              exact ⟨by decide, fun q => absurd rfl q, fun _ => PoM_f (f := f) (by unfold clo; rw [bnd_l (by rw [hres, bnd_l c7])]) tf7 q1⟩
            | inr xa =>
              obtain ⟨rfl, hT7, q1⟩ := u2 xa c7
              have ra := tkB_r t3.2 c7
              refine ⟨by decide, fun _ => ⟨by omega, ?_⟩, fun q => by omega⟩
              intro N8 g8
              rw [q1] at g8
              have hT8 : TpM tx xa.2 N8 := hT7.cell g8 (by omega)
              have tf8 : TfM N N8 := tf7.tr (by rw [g8]; exact TfM.up (by omega) (by show 7 ≤ 7 + dn D; omega))
              refine ⟨_, m_needsBoth (o := 3) hW ra.2.2.2 hT8 (by omega) (by omega) (by decide) (by decide), ?_⟩
              rintro r N9 ⟨f9, v1, v2⟩
              have tf9 : TfM N N9 := tf8.tr (TfM.of f9 (fun k hk => by omega))
              cases c9 : tkB tx xa.2 3 0 99 with
              | inl f =>
                obtain ⟨rfl, q2⟩ := v1 f c9
                exact ⟨by decide, fun q => absurd rfl q, fun _ => PoM_f (f := f) (by unfold clo; rw [bnd_l (by rw [hres, bnd_r c7, bnd_l c9])]) tf9 q2⟩
              | inr xb =>
                obtain ⟨rfl, hT9, q2⟩ := v2 xb c9
                have rb := tkB_r ra.2.2.2 c9
                refine ⟨by decide, fun _ => ⟨by omega, ?_⟩, fun q => by omega⟩
                intro N10 g10
                rw [q2] at g10
                have hT10 : TpM tx xb.2 N10 := hT9.cell g10 (by omega)
                have tf10 : TfM N N10 := tf9.tr (by rw [g10]; exact TfM.up (by omega) (by show 7 ≤ 7 + dn D; omega))
                refine ⟨_, m_needsBoth (o := 4) hW rb.2.2.2 hT10 (by omega) (by omega) (by decide) (by decide), ?_⟩
                rintro r N11 ⟨f11, w1, w2⟩
                have tf11 : TfM N N11 := tf10.tr (TfM.of f11 (fun k hk => by omega))
                cases c11 : tkB tx xb.2 4 0 9 with
                | inl f =>
                  obtain ⟨rfl, q3⟩ := w1 f c11
                  exact ⟨by decide, fun q => absurd rfl q, fun _ => PoM_f (f := f) (by unfold clo; rw [bnd_l (by rw [hres, bnd_r c7, bnd_r c9, bnd_l c11])]) tf11 q3⟩
                | inr xc =>
                  obtain ⟨rfl, hT11, q3⟩ := w2 xc c11
                  have rc := tkB_r rb.2.2.2 c11
                  refine ⟨by decide, fun _ => ⟨by omega, ?_⟩, fun q => by omega⟩
                  intro N12 g12
                  rw [q3] at g12
                  refine ⟨by omega, ?_⟩
                  intro N13 g13
                  refine ⟨by omega, ?_⟩
                  intro N14 g14 N15 g15
                  have tf15 : TfM N N15 := (((tf11.tr (TfM.up' g12 (by omega) (by show 7 ≤ 7 + dn D; omega))).tr (TfM.up' g13 (by omega) (by show 7 ≤ 7 + dn D; omega))).tr (TfM.up' g14 (by omega) (by show 7 ≤ 7 + dn D; omega))).tr (TfM.up' g15 (by omega) (by show 4 ≤ 4; omega))
                  have hT15 : TpM tx xc.2 N15 := (((hT11.cell g12 (by omega)).cell g13 (by omega)).cell g14 (by omega)).cell g15 (by omega)
                  refine m_end hW rc.2.2.2 hT15 (D := addH D (tl_ tx (te_ tx p)) (kdO (wo_ tx (te_ tx (te_ tx p)))) xa.1 xb.1 xc.1) (ci := ci) ?_ (by omega) tf15 (by rw [hres, bnd_r c7, bnd_r c9, bnd_r c11])
                  -- the draft with a house more
                  have F : ∀ c, c ≠ 1 → c ≠ 3 → c ≠ 4 → c ≠ 5 → c ≠ 6 → c ≠ 7 → c ≠ 8 → c ≠ 9 → N15 c = N4 c := fun c a1 a3 a4 a5 a6 a7 a8 a9 => by
                    rw [g15, upr_eq, if_neg a3, g14, upr_eq, if_neg a4, g13, upr_eq, if_neg a9, g12, upr_eq, if_neg a8, f11.1 c a1 (fun z => z), g10, upr_eq, if_neg a7, f9.1 c a1 (fun z => z), g8, upr_eq, if_neg a6, f7.1 c a1 (fun z => z), f6.1 c a1 (fun z => z), g5, upr_eq, if_neg a5]
                  have F1 : ∀ k, ¬ ((4 ≤ k ∧ k ≤ 9) ∨ k = 36) → N15 1 k = N4 1 k := fun k hk => by
                    rw [g15, upr_eq, if_neg (by omega), g14, upr_eq, if_neg (by omega), g13, upr_eq, if_neg (by omega), g12, upr_eq, if_neg (by omega), f11.2 k hk, g10, upr_eq, if_neg (by omega), f9.2 k hk, g8, upr_eq, if_neg (by omega), f7.2 k hk, f6.2 k (by omega), g5, upr_eq, if_neg (by omega)]
                  have c5 : N15 5 = up1 (N4 5) (7 + dn D) (kdO (wo_ tx (te_ tx (te_ tx p)))) := by
                    rw [g15, upr_eq, if_neg (by omega), g14, upr_eq, if_neg (by omega), g13, upr_eq, if_neg (by omega), g12, upr_eq, if_neg (by omega), f11.1 5 (by omega) (fun z => z), g10, upr_eq, if_neg (by omega), f9.1 5 (by omega) (fun z => z), g8, upr_eq, if_neg (by omega), f7.1 5 (by omega) (fun z => z), f6.1 5 (by omega) (fun z => z), g5, upr_eq, if_pos rfl]
                  have c6 : N15 6 = up1 (N4 6) (7 + dn D) xa.1 := by
                    rw [g15, upr_eq, if_neg (by omega), g14, upr_eq, if_neg (by omega), g13, upr_eq, if_neg (by omega), g12, upr_eq, if_neg (by omega), f11.1 6 (by omega) (fun z => z), g10, upr_eq, if_neg (by omega), f9.1 6 (by omega) (fun z => z), g8, upr_eq, if_pos rfl, f7.1 6 (by omega) (fun z => z), f6.1 6 (by omega) (fun z => z), g5, upr_eq, if_neg (by omega)]
                  have c7' : N15 7 = up1 (N4 7) (7 + dn D) xb.1 := by
                    rw [g15, upr_eq, if_neg (by omega), g14, upr_eq, if_neg (by omega), g13, upr_eq, if_neg (by omega), g12, upr_eq, if_neg (by omega), f11.1 7 (by omega) (fun z => z), g10, upr_eq, if_pos rfl, f9.1 7 (by omega) (fun z => z), g8, upr_eq, if_neg (by omega), f7.1 7 (by omega) (fun z => z), f6.1 7 (by omega) (fun z => z), g5, upr_eq, if_neg (by omega)]
                  have c8 : N15 8 = up1 (N4 8) (7 + dn D) xc.1 := by
                    rw [g15, upr_eq, if_neg (by omega), g14, upr_eq, if_neg (by omega), g13, upr_eq, if_neg (by omega), g12, upr_eq, if_pos rfl, f11.1 8 (by omega) (fun z => z), g10, upr_eq, if_neg (by omega), f9.1 8 (by omega) (fun z => z), g8, upr_eq, if_neg (by omega), f7.1 8 (by omega) (fun z => z), f6.1 8 (by omega) (fun z => z), g5, upr_eq, if_neg (by omega)]
                  have c9' : N15 9 = up1 (N4 9) (7 + dn D) 0 := by
                    rw [g15, upr_eq, if_neg (by omega), g14, upr_eq, if_neg (by omega), g13, upr_eq, if_pos rfl, g12, upr_eq, if_neg (by omega), f11.1 9 (by omega) (fun z => z), g10, upr_eq, if_neg (by omega), f9.1 9 (by omega) (fun z => z), g8, upr_eq, if_neg (by omega), f7.1 9 (by omega) (fun z => z), f6.1 9 (by omega) (fun z => z), g5, upr_eq, if_neg (by omega)]
                  have c4 : N15 4 = up1 (N4 4) (7 + dn D) (enc 27 (tl_ tx (te_ tx p))) := by
                    rw [g15, upr_eq, if_neg (by omega), g14, upr_eq, if_pos rfl, g13, upr_eq, if_neg (by omega), g12, upr_eq, if_neg (by omega), f11.1 4 (by omega) (fun z => z), g10, upr_eq, if_neg (by omega), f9.1 4 (by omega) (fun z => z), g8, upr_eq, if_neg (by omega), f7.1 4 (by omega) (fun z => z), f6.1 4 (by omega) (fun z => z), g5, upr_eq, if_neg (by omega)]
                  have m3 : N14 3 = N4 3 := by
                    rw [g14, upr_eq, if_neg (by omega), g13, upr_eq, if_neg (by omega), g12, upr_eq, if_neg (by omega), f11.1 3 (by omega) (fun z => z), g10, upr_eq, if_neg (by omega), f9.1 3 (by omega) (fun z => z), g8, upr_eq, if_neg (by omega), f7.1 3 (by omega) (fun z => z), f6.1 3 (by omega) (fun z => z), g5, upr_eq, if_neg (by omega)]
                  have c3 : N15 3 = up1 (N4 3) 4 ((dn D : Int) + 1) := by rw [g15, upr_eq, if_pos rfl, m3, hD4.1.1]
                  obtain ⟨d1, d2, d3, d4, d5⟩ := hD4
                  refine ⟨⟨?_, ?_, ?_, ?_, by rw [F1 23 (by omega)]; exact d1.2.2.2.2.1, by rw [F1 21 (by omega)]; exact d1.2.2.2.2.2.1, d1.2.2.2.2.2.2⟩, fun q hq => ?_, fun i hi => ?_, d4.fr ?_ ?_ (fun j _ => ?_), d5.fr ?_ ?_ (fun j _ => ?_)⟩
                  · rw [c3, up1_eq, if_pos rfl]; rfl
                  · rw [c3, up1_eq, if_neg (by omega)]; exact d1.2.1
                  · rw [c3, up1_eq, if_neg (by omega)]; exact d1.2.2.1
                  · rw [c3, up1_eq, if_neg (by omega)]; exact d1.2.2.2.1
                  · have hq2 : q < dn D + 1 := hq
                    rw [c4, c5, c6, c7', c8, c9']
                    show up1 _ _ _ (7 + q) = enc 27 (up1 (dnm D) (dn D) _ q) ∧ up1 _ _ _ (7 + q) = up1 (dk D) (dn D) _ q ∧ up1 _ _ _ (7 + q) = up1 (dth D) (dn D) _ q ∧ up1 _ _ _ (7 + q) = up1 (dwe D) (dn D) _ q ∧ up1 _ _ _ (7 + q) = up1 (din D) (dn D) _ q ∧ up1 _ _ _ (7 + q) = ((up1 (dsh D) (dn D) 0 q : Nat) : Int)
                    simp only [up1_eq]
                    by_cases e : q = dn D
                    · simp [e]
                    · have e' : ¬ 7 + q = 7 + dn D := by omega
                      simp only [if_neg e, if_neg e']; exact d2 q (by omega)
                  · rw [F 10 (by omega) (by omega) (by omega) (by omega) (by omega) (by omega) (by omega) (by omega)]; exact d3 i hi
                  · rw [F 11 (by omega) (by omega) (by omega) (by omega) (by omega) (by omega) (by omega) (by omega)]
                  · rw [F 12 (by omega) (by omega) (by omega) (by omega) (by omega) (by omega) (by omega) (by omega)]
                  · rw [F 13 (by omega) (by omega) (by omega) (by omega) (by omega) (by omega) (by omega) (by omega)]
                  · rw [F 11 (by omega) (by omega) (by omega) (by omega) (by omega) (by omega) (by omega) (by omega)]
                  · rw [F 12 (by omega) (by omega) (by omega) (by omega) (by omega) (by omega) (by omega) (by omega)]
                  · rw [F 13 (by omega) (by omega) (by omega) (by omega) (by omega) (by omega) (by omega) (by omega)]
          · rintro r N6 ⟨rfl, a, b⟩
            refine ⟨Or.inl rfl, PoM_f (f := (1, tb_ tx (te_ tx (te_ tx p)))) ?_ (tf5.tr (TfM.fl b)) a⟩
            unfold clo
            refine bnd_l ?_
            unfold rdHouse
            rw [if_neg hn7, if_neg (by rw [hnm]; decide), if_neg (fun q => q hfree), if_pos (by omega)]
        have hwo := wo_lt tx (te_ tx (te_ tx p))
        refine ⟨_, m_isWord (o := 15) t2.2 hT4 (by omega) (by omega), ?_⟩
        rintro r N5 ⟨rfl, rfl⟩
        refine ⟨zo_rng _, fun w => ⟨_, m_isWord (o := 16) t2.2 hT4 (by omega) (by omega), ?_⟩, fun w => k124 0 ?_⟩
        · have n15 := of_decide_eq_false (zo_0 w)
          rintro r N6 ⟨rfl, rfl⟩
          refine ⟨zo_rng _, fun w2 => ⟨_, m_isWord (o := 17) t2.2 hT4 (by omega) (by omega), ?_⟩, fun w2 => k124 1 ?_⟩
          · have n16 := of_decide_eq_false (zo_0 w2)
            rintro r N7 ⟨rfl, rfl⟩
            refine ⟨zo_rng _, fun w3 => ⟨_, m_isWord (o := 18) t2.2 hT4 (by omega) (by omega), ?_⟩, fun w3 => k124 2 ?_⟩
            · have n17 := of_decide_eq_false (zo_0 w3)
              rintro r N8 ⟨rfl, rfl⟩
              refine ⟨zo_rng _, fun w4 => k124 (-1) ?_, fun w4 => k124 3 ?_⟩
              · have n18 := of_decide_eq_false (zo_0 w4)
                unfold kdO; rw [if_neg n15, if_neg n16, if_neg n17, if_neg n18]
              · unfold kdO; rw [if_neg n15, if_neg n16, if_neg n17, if_pos (of_decide_eq_true (zo_ne w4))]
            · unfold kdO; rw [if_neg n15, if_neg n16, if_pos (of_decide_eq_true (zo_ne w3))]
          · unfold kdO; rw [if_neg n15, if_pos (of_decide_eq_true (zo_ne w2))]
        · unfold kdO; rw [if_pos (of_decide_eq_true (zo_ne w))]
      · rintro r N4 ⟨rfl, a, b⟩
        refine ⟨Or.inl rfl, PoM_f (f := (3, tb_ tx (te_ tx p))) ?_ (tf1.tr (TfM.fl b)) a⟩
        unfold clo
        refine bnd_l ?_
        unfold rdHouse
        rw [if_neg hn7, if_neg (by rw [hnm]; decide), if_pos (fun q => x (hh.mpr q))]
    · have hnm : isNm tx (te_ tx p) = false := by
        have := zo_ne y
        cases c : isNm tx (te_ tx p)
        · rfl
        · rw [c] at this; cases this
      rintro r N3 ⟨rfl, a, b⟩
      refine ⟨Or.inl rfl, PoM_f (f := (1, tb_ tx (te_ tx p))) ?_ (tf1.tr (TfM.fl b)) a⟩
      unfold clo
      refine bnd_l ?_
      unfold rdHouse
      rw [if_neg hn7, if_pos hnm]
  · rintro r N1 ⟨rfl, a, b⟩
    refine ⟨Or.inl rfl, PoM_f (f := (5, tb_ tx p)) ?_ (TfM.fl b) a⟩
    unfold clo
    refine bnd_l ?_
    unfold rdHouse
    rw [if_pos (by omega)]
