theorem clo_l {tx : TX} {β : Type} {res : Sum FLT (β × Nat)} {f : FLT} (h : res = .inl f) : clo tx res = .inl f := by unfold clo; rw [bnd_l h]
theorem m_readsShuns {tx : TX} {p ci : Nat} {D : DT} {N : Mm} (hW : WX tx) (hp : p ≤ tx.2) (hT : TpM tx p N) (hD : DM D ci N) (hw : WD tx D) (hci : ci ≤ 1000 + p) : S_Mod_readsShuns N (PoM tx N (clo tx (rdShuns tx D p))) := by
  have h7 := hw.1
  have t1 := te_le hp
  have t2 := te_le t1.2
  have t3 := te_le t2.2
  refine W_Mod_readsShuns N ⟨_, m_nxt hW hp hT, ?_⟩
  rintro N1 ⟨hT1, f1⟩
  have hD1 : DM D ci N1 := hD.fr (f1.wk (fun c z => z) (fun k hk => Or.inl (by omega)))
  have tf1 : TfM N N1 := TfM.nx f1
  refine ⟨_, m_needsHouse (r := 1) t1.2 hT1 (by omega) (hD1.nm hw), ?_⟩
  rintro r N2 ⟨f2, u1, u2⟩
  have tf2 : TfM N N2 := tf1.tr (TfM.of f2 (fun k hk => by omega))
  cases ca : tkH tx (dn D) (dnm D) (te_ tx p) with
  | inl f =>
    obtain ⟨rfl, e⟩ := u1 f ca
    exact ⟨by decide, fun z => absurd rfl z, fun _ => PoM_f (f := f) (clo_l (by unfold rdShuns; rw [bnd_l ca])) tf2 e⟩
  | inr a =>
    obtain ⟨rfl, ea, hT2⟩ := u2 a ca
    have ra := tkH_r ca
    have hD2 : DM D ci N2 := hD1.fr (f2.wk (fun c z => z) (fun k hk => by omega))
    refine ⟨by decide, fun _ => ⟨_, m_nxt hW t1.2 hT2, ?_⟩, fun z => by omega⟩
    rintro N3 ⟨hT3, f3⟩
    have hD3 : DM D ci N3 := hD2.fr (f3.wk (fun c z => z) (fun k hk => Or.inl (by omega)))
    have tf3 : TfM N N3 := tf2.tr (TfM.nx f3)
    refine ⟨_, m_needsHouse (r := 1) t2.2 hT3 (by omega) (hD3.nm hw), ?_⟩
    rintro r N4 ⟨f4, v1, v2⟩
    have tf4 : TfM N N4 := tf3.tr (TfM.of f4 (fun k hk => by omega))
    cases cb : tkH tx (dn D) (dnm D) (te_ tx (te_ tx p)) with
    | inl f =>
      obtain ⟨rfl, e⟩ := v1 f cb
      exact ⟨by decide, fun z => absurd rfl z, fun _ => PoM_f (f := f) (clo_l (by unfold rdShuns; rw [bnd_r ca, bnd_l cb])) tf4 e⟩
    | inr a2 =>
      obtain ⟨rfl, eb, hT4⟩ := v2 a2 cb
      have rb := tkH_r cb
      have hD4 : DM D ci N4 := hD3.fr (f4.wk (fun c z => z) (fun k hk => by omega))
      have hsh := (hw.2.1 a ra.1).2.2.2.2.2
      have e9 : N4 9 (7 + a) = (dsh D a : Int) := (hD4.2.1 a ra.1).2.2.2.2.2
      have hbt := bitz (a := dsh D a) (k := a2) (by omega) (by omega)
      have bad : (a = a2 ∨ (dsh D a).testBit a2 = true) → ∃ P5 : Int → Mm → Prop, S_Mod_fails 3 N4 P5 ∧ ∀ (r5 : Int) (M5 : Mm), P5 r5 M5 → (r5 = 0 ∨ r5 = 1) ∧ PoM tx N (clo tx (rdShuns tx D p)) r5 M5 := by
        intro hbad
        refine ⟨_, m_fails (k := 3) hT4, ?_⟩
        rintro r N5 ⟨rfl, x1, x2⟩
        exact ⟨Or.inl rfl, PoM_f (f := (3, tb_ tx (te_ tx (te_ tx p)))) (clo_l (by unfold rdShuns; rw [bnd_r ca, bnd_r cb, if_pos hbad])) (tf4.tr (TfM.fl x2)) x1⟩
      rw [ea, eb, show ((7 : Int) + (a : Int)).toNat = 7 + a by omega, e9]
      refine ⟨by decide, fun _ => ⟨by omega, by omega, fun z => bad (Or.inl (by omega)), fun z => ⟨by omega, fun y => ⟨by omega, by omega, ?_⟩, fun y => bad (Or.inr (hbt.2.mp y))⟩⟩, fun z => by omega⟩
      intro N6 g6
      have hp6 := pw6 (show a2 < 7 by omega)
      rw [shl1 (by omega), orI_nat (by omega) (by omega)] at g6
      have hT6 : TpM tx (te_ tx (te_ tx p)) N6 := hT4.cell g6 (by omega)
      have tf6 : TfM N N6 := tf4.tr (TfM.up' g6 (by omega) (by show 7 ≤ 7 + a; omega))
      refine ⟨_, m_nxt hW t2.2 hT6, ?_⟩
      rintro N7 ⟨hT7, f7⟩
      have tf7 : TfM N N7 := tf6.tr (TfM.nx f7)
      refine m_end hW t3.2 hT7 (D := addS D a a2) (ci := ci) ?_ (by omega) tf7 (by unfold rdShuns; rw [bnd_r ca, bnd_r cb, if_neg (fun q => by
          rcases q with q | q
          · exact z (by omega)
          · exact y (hbt.2.mpr q))])
      have e : ∀ c, c ≠ 1 → c ≠ 9 → N7 c = N4 c := fun c h1 h9 => by rw [f7.1 c h1 (fun z => z), g6, upr_eq, if_neg h9]
      have e1 : ∀ k, ¬ (4 ≤ k ∧ k ≤ 8) → N7 1 k = N4 1 k := fun k hk => by rw [f7.2 k hk, g6, upr_eq, if_neg (by omega)]
      obtain ⟨d1, d2, d3, d4, d5⟩ := hD4
      refine ⟨by rw [e 3 (by omega) (by omega), e1 23 (by omega), e1 21 (by omega)]; exact d1, fun q hq => ?_, by rw [e 10 (by omega) (by omega)]; exact d3, d4.fr (by rw [e 11 (by omega) (by omega)]) (by rw [e 12 (by omega) (by omega)]) (fun j _ => by rw [e 13 (by omega) (by omega)]), d5.fr (by rw [e 11 (by omega) (by omega)]) (by rw [e 12 (by omega) (by omega)]) (fun j _ => by rw [e 13 (by omega) (by omega)])⟩
      have g := d2 q hq
      rw [e 4 (by omega) (by omega), e 5 (by omega) (by omega), e 6 (by omega) (by omega), e 7 (by omega) (by omega), e 8 (by omega) (by omega)]
      refine ⟨g.1, g.2.1, g.2.2.1, g.2.2.2.1, g.2.2.2.2.1, ?_⟩
      rw [f7.1 9 (by omega) (fun z => z), g6, upr_eq, if_pos rfl, up1_eq]
      show _ = ((up1 (dsh D) a (dsh D a ||| 2 ^ a2) q : Nat) : Int)
      rw [up1_eq]
      by_cases e : q = a
      · rw [if_pos (by omega), if_pos e]
      · rw [if_neg (by omega), if_neg e]; exact g.2.2.2.2.2
theorem tlb_tab : ∀ a c : Bool, ∀ n : Nat, n = (if a = true then 2 else 0) + (if c = true then 4 else 0) → (andI (shrI (n : Int) 1) 1 = 1 ↔ a = true) ∧ (andI (shrI (n : Int) 2) 1 = 1 ↔ c = true) ∧ (a = false → orI (n : Int) (shlI 1 1) = (n : Int) + 2) ∧ (c = false → orI (n : Int) (shlI 1 2) = (n : Int) + 4) := by
  intro a c n hn
  subst hn
  revert a c
  decide +kernel
theorem m_readsOne {tx : TX} {p ci w : Nat} {D : DT} {D' : Int → DT} {N : Mm} {lo hi v0 : Int} {told : Bool} {res : Sum FLT (DT × Nat)} (hW : WX tx) (hp : p ≤ tx.2) (hT : TpM tx p N) (hD : DM D ci N) (hci : ci ≤ 1000 + p) (hlo : rng lo) (hhi : rng hi) (hw : w = 1 ∨ w = 2)
    (ht : andI (shrI (tlb D : Int) (w : Int)) 1 = 1 ↔ told = true) (ho : told = false → orI (tlb D : Int) (shlI 1 (w : Int)) = v0)
    (hr1 : told = true → res = .inl (3, tb_ tx p)) (hr2 : told = false → res = bnd (tkN tx (te_ tx p) lo hi) fun a => .inr (D' a.1, a.2))
    (hD' : told = false → ∀ v N', N' 3 = up1 (N 3) (4 + w) v → N' 1 23 = v0 → (∀ c, c ≠ 1 → c ≠ 3 → N' c = N c) → N' 1 21 = N 1 21 → DM (D' v) ci N') : S_Mod_readsOne (w : Int) lo hi N (PoM tx N (clo tx res)) := by
  have t1 := te_le hp
  have h23 := hD.1.2.2.2.2.1
  have hTw : S_Mod_isTwice (w : Int) N (fun r N' => (told = true → r = 1 ∧ N' = N) ∧ (told = false → r = 0 ∧ N' = upr N 1 (up1 (N 1) 23 v0))) := by
    refine W_Mod_isTwice _ N ?_
    rw [h23]
    refine ⟨fun z => ?_, fun z => ?_⟩
    · have hf : told = false := by
        cases c : told
        · rfl
        · exact absurd (ht.mpr c) z
      rintro N1 rfl
      exact ⟨fun y => (by rw [hf] at y; cases y), fun _ => ⟨rfl, by rw [ho hf]⟩⟩
    · exact ⟨fun _ => ⟨rfl, rfl⟩, fun y => by have := ht.mp z; rw [y] at this; cases this⟩
  refine W_Mod_readsOne _ _ _ N ⟨_, hTw, ?_⟩
  rintro r N1 ⟨u1, u2⟩
  cases ct : told
  · obtain ⟨rfl, g1⟩ := u2 ct
    have hT1 : TpM tx p N1 := hT.fr (by rw [g1, upr_eq, if_neg (by omega)]) (fun k _ _ => by rw [g1, upr_eq, if_pos rfl, up1_eq, if_neg (by omega)])
    have tf1 : TfM N N1 := by rw [g1]; exact TfM.u1 (by omega)
    refine ⟨by decide, fun _ => ⟨_, m_nxt hW hp hT1, ?_⟩, fun z => absurd rfl z⟩
    rintro N2 ⟨hT2, f2⟩
    have tf2 : TfM N N2 := tf1.tr (TfM.nx f2)
    refine ⟨_, m_needsNumber hW t1.2 hT2 hlo hhi, ?_⟩
    rintro r N3 ⟨f3, v1, v2⟩
    have tf3 : TfM N N3 := tf2.tr (TfM.of f3 (fun k hk => by omega))
    cases c : tkN tx (te_ tx p) lo hi with
    | inl f =>
      obtain ⟨rfl, e⟩ := v1 f c
      exact ⟨by decide, fun z => absurd rfl z, fun _ => PoM_f (f := f) (clo_l (by rw [hr2 ct, bnd_l c])) tf3 e⟩
    | inr x =>
      obtain ⟨rfl, hT3, e36⟩ := v2 x c
      have rx := tkN_r t1.2 c
      refine ⟨by decide, fun _ => ⟨by omega, ?_⟩, fun z => by omega⟩
      intro N4 g4
      rw [e36, show ((4 : Int) + (w : Int)).toNat = 4 + w by omega] at g4
      have tf4 : TfM N N4 := tf3.tr (TfM.up' g4 (by omega) (by show 4 ≤ 4 + w; omega))
      refine m_end hW rx.2.2.2 (hT3.cell g4 (by omega)) (D := D' x.1) (ci := ci) ?_ (by omega) tf4 (by rw [hr2 ct, bnd_r c])
      refine hD' ct x.1 N4 ?_ ?_ (fun c h1 h3 => ?_) ?_
      · rw [g4, upr_eq, if_pos rfl, f3.1 3 (by omega) (fun z => z), f2.1 3 (by omega) (fun z => z), g1, upr_eq, if_neg (by omega)]
      · rw [g4, upr_eq, if_neg (by omega), f3.2 23 (by omega), f2.2 23 (by omega), g1, upr_eq, if_pos rfl, up1_eq, if_pos rfl]
      · rw [g4, upr_eq, if_neg h3, f3.1 c h1 (fun z => z), f2.1 c h1 (fun z => z), g1, upr_eq, if_neg h1]
      · rw [g4, upr_eq, if_neg (by omega), f3.2 21 (by omega), f2.2 21 (by omega), g1, upr_eq, if_pos rfl, up1_eq, if_neg (by omega)]
  · obtain ⟨rfl, rfl⟩ := u1 ct
    refine ⟨by decide, fun z => by omega, fun _ => ⟨_, m_fails (k := 3) hT, ?_⟩⟩
    rintro r N2 ⟨rfl, a, b⟩
    exact ⟨Or.inl rfl, PoM_f (f := (3, tb_ tx p)) (clo_l (hr1 ct)) (TfM.fl b) a⟩
theorem m_readsRains {tx : TX} {p ci : Nat} {D : DT} {N : Mm} (hW : WX tx) (hp : p ≤ tx.2) (hT : TpM tx p N) (hD : DM D ci N) (hw : WD tx D) (hci : ci ≤ 1000 + p) : S_Mod_readsRains N (PoM tx N (clo tx (rdRains tx D p))) := by
  have t1 := te_le hp
  have h7 := hD.1.2.2.2.1
  have hnr := hw.2.2.2.2.1.1
  refine e_Mod_readsRains N fun K hK => w_Mod_readsRains_0 hK N ?_
  rw [h7]
  refine ⟨by omega, fun z => ⟨_, m_nxt hW hp hT, ?_⟩, fun z => ⟨_, m_fails (k := 3) hT, ?_⟩⟩
  · have hz : ¬ 0 < (drn D).1 := by omega
    rintro N1 ⟨hT1, f1⟩
    have hres : rdRains tx D p = bnd (rdRn tx 13 0 (drn D).2 (te_ tx p)) fun a => .inr (setR D a.1.1 a.1.2, a.2) := by unfold rdRains; rw [if_neg hz]
    rw [hres] at hK
    obtain ⟨R, hR⟩ : ∃ R, R = rdRn tx 13 0 (drn D).2 (te_ tx p) := ⟨_, rfl⟩
    rw [← hR] at hK
    have key : ∀ (k i : Nat) (f : Nat → Int) (q : Nat) (N3 : Mm), k + i = 13 → te_ tx p ≤ q → q ≤ tx.2 → TpM tx q N3 → (∀ j, j < i → N3 10 (12 + j) = f j) → (∀ c, c ≠ 1 → c ≠ 10 → N3 c = N c) → (∀ k, ¬ ((4 ≤ k ∧ k ≤ 9) ∨ k = 36) → N3 1 k = N 1 k) → TfM N N3 → R = rdRn tx k i f q → K NM RRM 22 [(0, vr 1), (1, vi (i : Int))] [] N3 := by
      intro k
      induction k with
      | zero =>
        intro i f q N3 hk hq0 hq hT3 h10 e e1 tf he
        rw [rdRn] at he
        have hw := rdRn_w 13 0 (drn D).2 (te_ tx p) ((i, f), q) t1.2 (by omega) (fun j hj => by omega) (hR ▸ he) rfl
        have : i ≤ 12 := hw.1
        omega
      | succ k ih =>
        intro i f q N3 hk hq0 hq hT3 h10 e e1 tf he
        rw [rdRn] at he
        have htk := tk_le (tx := tx) (p := q)
        have hm := mk_2 htk
        have hml := mk_le (k := tk_ tx q)
        have k35 : K NM RRM 35 [(0, vr 1), (1, vi (i : Int))] [] N3 ∨ (i ≠ 0 ∧ tk_ tx q ≠ 3) := by
          by_cases hc : i ≠ 0 ∧ tk_ tx q ≠ 3
          · exact Or.inr hc
          · left
            rw [if_neg hc] at he
            refine w_Mod_readsRains_35 hK _ N3 ?_
            rw [hT3.2.2.2.2.1]
            refine ⟨by omega, fun y => ?_, fun y => ⟨_, m_fails (k := 1) hT3, ?_⟩⟩
            · have h3 := hm.2.1.mp y
              have htv := tv_in hq h3
              rw [if_neg (fun w => w h3)] at he
              rw [hT3.2.2.2.2.2.2 h3]
              refine ⟨by omega, fun x => ⟨by omega, fun w => ⟨by omega, ?_⟩, fun w => ⟨_, m_fails (k := 5) hT3, ?_⟩⟩, fun x => ⟨_, m_fails (k := 4) hT3, ?_⟩⟩
              · rw [if_neg (by omega), if_neg (by omega)] at he
                intro N4 g4
                rw [show ((12 : Int) + (i : Int)).toNat = 12 + i by omega] at g4
                have kp := tk_pos hq (by omega)
                refine ⟨_, m_nxt hW hq (hT3.cell g4 (by omega)), ?_⟩
                rintro N5 ⟨hT5, f5⟩
                refine ih (i + 1) (up1 f i (tv_ tx q)) (te_ tx q) N5 (by omega) (by omega) kp.2 hT5 (fun j hj => ?_) (fun c h1 h2 => ?_) (fun k hk => ?_) ((tf.tr (TfM.up' g4 (by omega) (by show 12 ≤ 12 + i; omega))).tr (TfM.nx f5)) he
                · rw [f5.1 10 (by omega) (fun z => z), g4, upr_eq, if_pos rfl, up1_eq, up1_eq]
                  by_cases ej : j = i
                  · rw [if_pos (by omega), if_pos ej]
                  · rw [if_neg (by omega), if_neg ej]; exact h10 j (by omega)
                · rw [f5.1 c h1 (fun z => z), g4, upr_eq, if_neg h2]; exact e c h1 h2
                · rw [f5.2 k (by omega), g4, upr_eq, if_neg (by omega)]; exact e1 k hk
              · rw [if_neg (by omega), if_pos (by omega)] at he
                rintro r N4 ⟨rfl, a, b⟩
                exact ⟨Or.inl rfl, PoM_f (f := (5, tb_ tx q)) (clo_l (by rw [bnd_l he])) (tf.tr (TfM.fl b)) a⟩
              · rw [if_pos (by omega)] at he
                rintro r N4 ⟨rfl, a, b⟩
                exact ⟨Or.inl rfl, PoM_f (f := (4, tb_ tx q)) (clo_l (by rw [bnd_l he])) (tf.tr (TfM.fl b)) a⟩
            · have h3 : tk_ tx q ≠ 3 := fun w => y (hm.2.1.mpr w)
              rw [if_pos h3] at he
              rintro r N4 ⟨rfl, a, b⟩
              exact ⟨Or.inl rfl, PoM_f (f := (1, tb_ tx q)) (clo_l (by rw [bnd_l he])) (tf.tr (TfM.fl b)) a⟩
        refine w_Mod_readsRains_22 hK _ N3 ⟨by omega, fun y => ?_, fun y => ⟨_, m_isSign hW hq hT3 (by decide), ?_⟩⟩
        · rcases k35 with h | h
          · exact h
          · omega
        · rintro r N4 ⟨rfl, rfl⟩
          refine ⟨zo_rng _, fun x => ?_, fun x => ?_⟩
          · -- the end
            have h59 := zo_ne x
            have hk4 := (isS_k h59).1
            rw [if_pos ⟨by omega, by omega⟩] at he
            intro N5 g5
            refine m_end hW hq (hT3.cell g5 (by omega)) (D := setR D i f) (ci := ci) ?_ (by omega) (tf.tr (TfM.up' g5 (by omega) (by show 4 ≤ 7; omega))) (by rw [bnd_r he])
            have F : ∀ c, c ≠ 1 → c ≠ 3 → c ≠ 10 → N5 c = N c := fun c h1 h3 h10 => by rw [g5, upr_eq, if_neg h3]; exact e c h1 h10
            have F1 : ∀ k, ¬ ((4 ≤ k ∧ k ≤ 9) ∨ k = 36) → N5 1 k = N 1 k := fun k hk => by rw [g5, upr_eq, if_neg (by omega)]; exact e1 k hk
            have F3 : N5 3 = up1 (N 3) 7 (i : Int) := by rw [g5, upr_eq, if_pos rfl, e 3 (by omega) (by omega)]
            obtain ⟨d1, d2, d3, d4, d5⟩ := hD
            refine ⟨⟨by rw [F3, up1_eq, if_neg (by omega)]; exact d1.1, by rw [F3, up1_eq, if_neg (by omega)]; exact d1.2.1, by rw [F3, up1_eq, if_neg (by omega)]; exact d1.2.2.1, by rw [F3, up1_eq, if_pos rfl]; rfl, by rw [F1 23 (by omega)]; exact d1.2.2.2.2.1, by rw [F1 21 (by omega)]; exact d1.2.2.2.2.2.1, d1.2.2.2.2.2.2⟩, fun q hq => ?_, fun j hj => ?_, d4.fr (by rw [F 11 (by omega) (by omega) (by omega)]) (by rw [F 12 (by omega) (by omega) (by omega)]) (fun j _ => by rw [F 13 (by omega) (by omega) (by omega)]), d5.fr (by rw [F 11 (by omega) (by omega) (by omega)]) (by rw [F 12 (by omega) (by omega) (by omega)]) (fun j _ => by rw [F 13 (by omega) (by omega) (by omega)])⟩
            · rw [F 4 (by omega) (by omega) (by omega), F 5 (by omega) (by omega) (by omega), F 6 (by omega) (by omega) (by omega), F 7 (by omega) (by omega) (by omega), F 8 (by omega) (by omega) (by omega), F 9 (by omega) (by omega) (by omega)]; exact d2 q hq
            · rw [g5, upr_eq, if_neg (by omega)]; exact h10 j hj
          · rcases k35 with h | h
            · exact h
            · -- neither a number nor the end: it fails there
              rw [if_pos h] at he
              refine w_Mod_readsRains_35 hK _ N4 ?_
              rw [hT3.2.2.2.2.1]
              refine ⟨by omega, fun w => absurd (hm.2.1.mp w) h.2, fun w => ⟨_, m_fails (k := 1) hT3, ?_⟩⟩
              rintro r N5 ⟨rfl, a, b⟩
              refine ⟨Or.inl rfl, PoM_f (f := (1, tb_ tx q)) ?_ (tf.tr (TfM.fl b)) a⟩
              unfold clo
              rw [bnd_r (by rw [bnd_r he])]
              show (if isS_ tx q 59 = true then _ else _) = _
              rw [zo_0 x, if_neg Bool.false_ne_true]
    exact key 13 0 (drn D).2 (te_ tx p) N1 rfl (Nat.le_refl _) t1.2 hT1 (fun j hj => by omega) (fun c h1 _ => f1.1 c h1 (fun z => z)) (fun k hk => f1.2 k (by omega)) (TfM.nx f1) hR
  · rintro r N1 ⟨rfl, a, b⟩
    exact ⟨Or.inl rfl, PoM_f (f := (3, tb_ tx p)) (clo_l (by unfold rdRains; rw [if_pos (by omega)])) (TfM.fl b) a⟩
