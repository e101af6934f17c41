theorem hd_mid {tx : TX} {w n : Nat} {N0 N N2 N3 N4 : Mm} {s : PRS} {m v : Int} (hW : WX tx) (hn : 1000 ≤ n) (h : MidM tx w n N0 s N) (a1 : appM (n + s.2.2.1.length) N N2 [m]) (a2 : FrM (fun c => c = 13) (fun k => k = 21) N N2) (h3 : N3 = upr N2 15 (up1 (N2 15) w v) ∨ N3 = N2) (hT : TpM tx (te_ tx s.1) N4) (hf : FrM (fun _ => False) (fun k => 4 ≤ k ∧ k ≤ 8) N3 N4) : MidM tx w n N0 (te_ tx s.1, s.2.1, s.2.2.1 ++ [m], s.2.2.2) N4 := by
  have f3 : FrM (fun c => c = 15) (fun _ => False) N2 N3 := by
    rcases h3 with rfl | rfl
    · exact FrM.up rfl (by omega)
    · exact FrM.rf
  have hT3 : TpM tx s.1 N3 := (h.2.1.st (a2.wk (fun c hc => Or.inl hc) (fun k hk => hk))).st (f3.wk (fun c hc => Or.inr (Or.inr hc)) (fun k z => z.elim))
  have := (mid_st hn h a1 a2 h3 hT3).1.nx hT hf
  exact this
theorem m_lp {tx : TX} {pr : Bool} {K : KT} {P : Int → Mm → Prop} {w n p : Nat} {q : Nat → PR} {op : Nat → Option (Int × Int)} {A : Mm → Prop} {Z : Nat → Mm → Prop} {N0 : Mm} (hW : WX tx) (hGq : GdQ tx pr q) (hop : opG tx op) (hH : HdM tx K w op Z A) (hO : OpM tx pr K P w q A Z) (hA : ∀ N, A N → bs (N 14) w = w) (hnp : n ≤ 1000 + p) (hn0 : 1000 ≤ n) (h22 : N0 1 22 = zo pr) :
    ∀ k s N, GdR tx pr p s → tx.2 - s.1 < k → MidM tx w n N0 s N → Z s.1 N →
    (∀ f, lp tx q op k s = .inl f → ∀ N', StM N0 N' → N' 1 9 = (f.1 : Int) + 16 * (f.2 : Int) → P 0 N') →
    (∀ s', lp tx q op k s = .inr s' → ∀ N', MidM tx w n N0 s' N' → Z s'.1 N' → op s'.1 = none → k11 K w 0 N') → k11 K w 0 N := by
  have hlen := hW.1
  intro k
  induction k with
  | zero => intro s N _ h; omega
  | succ k ih =>
    intro s N hg hk hm hZ fail ok
    cases c : op s.1 with
    | none => exact ok s (lp_n c) N hm hZ c
    | some cm =>
      have hoc := hop _ _ c
      obtain ⟨g1, g2, g3, g4, -⟩ := id hg
      have htp := tk_pos g2 hoc.1
      refine hH s.1 (n + s.2.2.1.length) N cm g2 (by omega) hm.2.1 hm.2.2.1.1 hZ c ?_
      intro N2 N3 N4 v a1 a2 h3 hT4 hf4 hA4
      have hm4 := hd_mid hW hn0 hm a1 a2 h3 hT4 hf4
      have h21 : N4 1 21 = ((n + s.2.2.1.length + 1 : Nat) : Int) := by
        have := hm4.2.2.1.1
        rw [this]
        show ((n + (s.2.2.1 ++ [cm.2]).length : Nat) : Int) = _
        rw [List.length_append]; rfl
      refine hO (te_ tx s.1) (n + s.2.2.1.length + 1) N4 htp.2 (by omega) (by omega) hT4 h21 (by rw [hm4.1.1.2 22 (by omega)]; exact h22) hA4 (fun f hf N' hs h9 => ?_) (fun s2 hs2 N5 hm5 hZ5 => ?_)
      · exact fail f (lp_f c hf) N' (hm4.1.tr hs) h9
      · rw [hA N4 hA4]
        have gs2 := (hGq (te_ tx s.1) htp.2).1 s2 hs2
        refine ih (joinR s s2 cm) N5 (join_g hg gs2 hoc.1 hoc.2.1 hoc.2.2) ?_ ?_ hZ5 (fun f hf => fail f (by rw [lp_y c hs2]; exact hf)) (fun s' hs' => ok s' (by rw [lp_y c hs2]; exact hs'))
        · have := gs2.1
          show tx.2 - s2.1 < k
          omega
        · refine mid_mid (s := (te_ tx s.1, s.2)) hm4 (s2 := s2) ?_ ⟨rfl, ?_⟩
          · rw [List.length_append]
            exact hm5
          · show s.2.2.1 ++ cm.2 :: s2.2.2.1 = (s.2.2.1 ++ [cm.2]) ++ s2.2.2.1
            rw [List.append_assoc]; rfl
theorem m_seq {tx : TX} {pr : Bool} {K : KT} {P : Int → Mm → Prop} {w : Nat} {q : Nat → PR} {op : Nat → Option (Int × Int)} {A : Mm → Prop} {Z : Nat → Mm → Prop} (hW : WX tx) (hGq : GdQ tx pr q) (hop : opG tx op) (hH : HdM tx K w op Z A) (hO : OpM tx pr K P w q A Z) (hA : ∀ N, A N → bs (N 14) w = w) : OpM tx pr K P w (seqK tx q op 1000) A (fun p N => Z p N ∧ op p = none) := by
  have hlen := hW.1
  intro p n N hp hn hn0 hT h21 h22 hAN fail ok
  refine hO p n N hp hn hn0 hT h21 h22 hAN (fun f hf => fail f (seq_f hf)) (fun s hs N' hm hZ => ?_)
  rw [hA N hAN] at ok ⊢
  have gs := (hGq p hp).1 s hs
  have := gs.1
  exact m_lp hW hGq hop hH hO hA hn hn0 h22 1000 s N' gs (by omega) hm hZ (fun f hf => fail f (by rw [seq_y hs]; exact hf)) (fun s' hs' N' a b c => ok s' (by rw [seq_y hs]; exact hs') N' a ⟨b, c⟩)
abbrev Ac (w : Nat) (q : Prop) (c : Int) (N : Mm) : Prop := N 15 w = c ∧ Qb w q (N 14)
abbrev Zs (tx : TX) (w : Nat) (q : Prop) (c : Int) (p : Nat) (N : Mm) : Prop := (Ac w q c N ∧ opMul tx p = none) ∧ opAdd tx p = none
abbrev Zt (tx : TX) (w : Nat) (q : Prop) (p : Nat) (N : Mm) : Prop := Qb w q (N 14) ∧ opMul tx p = none ∧ opAdd tx p = none ∧ ((N 15 w = 0 ∧ opCmp tx p = none) ∨ N 15 w = 1)
theorem m_tst {tx : TX} {pr : Bool} {K : KT} {P : Int → Mm → Prop} (hK : EKr K P) {w : Nat} (hw : w < 7) {q : Nat → PR} (hW : WX tx) (hGq : GdQ tx pr q) (h0 : OpM tx pr K P w q (Ac w True 0) (Zs tx w True 0)) (h1 : OpM tx pr K P w q (Ac w True 1) (Zs tx w True 1)) : OpM tx pr K P w (seqK tx q (opCmp tx) 1) (Ac w True 0) (Zt tx w True) := by
  have hlen := hW.1
  intro p n N hp hn hn0 hT h21 h22 hAN fail ok
  refine h0 p n N hp hn hn0 hT h21 h22 hAN (fun f hf => fail f (seq_f hf)) (fun s hs N' hm hZ => ?_)
  have hbs : bs (N 14) w = w := hAN.2.2 trivial
  rw [hbs] at ok ⊢
  have gs := (hGq p hp).1 s hs
  obtain ⟨g1, g2, g3, g4, -⟩ := id gs
  cases c : opCmp tx s.1 with
  | none => exact ok s (by rw [seq_y hs, lp_n c]) N' hm ⟨hZ.1.1.2, hZ.1.2, hZ.2, Or.inl ⟨hZ.1.1.1, c⟩⟩
  | some cm =>
    have hoc := opCmp_g tx _ _ c
    have htp := tk_pos g2 hoc.1
    refine hd_com hK hW hw (q := True) s.1 (n + s.2.2.1.length) N' cm g2 (by omega) hm.2.1 hm.2.2.1.1 hZ.1.1 c ?_
    intro N2 N3 N4 v a1 a2 h3 hT4 hf4 hA4
    have hm4 := hd_mid hW hn0 hm a1 a2 h3 hT4 hf4
    have h21' : N4 1 21 = ((n + s.2.2.1.length + 1 : Nat) : Int) := by
      have := hm4.2.2.1.1
      rw [this]
      show ((n + (s.2.2.1 ++ [cm.2]).length : Nat) : Int) = _
      rw [List.length_append]; rfl
    refine h1 (te_ tx s.1) (n + s.2.2.1.length + 1) N4 htp.2 (by omega) (by omega) hT4 h21' (by rw [hm4.1.1.2 22 (by omega)]; exact h22) hA4 (fun f hf N' hs' h9 => ?_) (fun s2 hs2 N5 hm5 hZ5 => ?_)
    · exact fail f (by rw [seq_y hs]; exact lp_f c hf) N' (hm4.1.tr hs') h9
    · have hbs4 : bs (N4 14) w = w := hA4.2.2 trivial
      rw [hbs4]
      refine ok (joinR s s2 cm) (by rw [seq_y hs, lp_y c hs2, lp]) N5 ?_ ⟨hZ5.1.1.2, hZ5.1.2, hZ5.2, Or.inr hZ5.1.1.1⟩
      refine mid_mid (s := (te_ tx s.1, s.2)) hm4 (s2 := s2) ?_ ⟨rfl, ?_⟩
      · rw [List.length_append]
        exact hm5
      · show s.2.2.1 ++ cm.2 :: s2.2.2.1 = (s.2.2.1 ++ [cm.2]) ++ s2.2.2.1
        rw [List.append_assoc]; rfl
theorem m_qE {tx : TX} {pr : Bool} {K : KT} {P : Int → Mm → Prop} (hK : EKr K P) {w : Nat} (hw : w < 7) {q : Nat → PR} (hW : WX tx) (hGq : GdQ tx pr q) (hq : ∀ c : Int, OpM tx pr K P w q (Ac w True c) (fun _ N => Ac w True c N)) : OpM tx pr K P w (qE tx q) (Ac w True 0) (fun p N => Zt tx w True p N ∧ opBoo tx p = none) := by
  have hbs : ∀ c N, Ac w True c N → bs (N 14) w = w := fun c N h => h.2.2 trivial
  have g1 := seq_g hGq (opMul_g tx) 1000
  have g2 := seq_g g1 (opAdd_g tx) 1000
  have g3 := seq_g g2 (opCmp_g tx) 1
  have s1 := fun c : Int => m_seq hW hGq (opMul_g tx) (hd_mul hK hW (w := w) (c := c) (q := True)) (hq c) (hbs c)
  have s2 := fun c : Int => m_seq hW g1 (opAdd_g tx) (hd_add hK hW (w := w) (c := c) (q := True)) (s1 c) (hbs c)
  have s3 := m_tst hK hw hW g2 (s2 0) (s2 1)
  exact m_seq hW g3 (opBoo_g tx) (hd_boo hK hW hw (q := True) (Z := Zt tx w True) (fun p N h => h.1)) s3 (hbs 0)
/-- past a row of not -/
theorem pop152 {tx : TX} {K : KT} {P : Int → Mm → Prop} (hK : EKr K P) {N : Mm} (pc : Nat) (hpc : pc = 152 ∨ pc = 379) : ∀ w, w < 7 → (∀ i, 1 ≤ i → i ≤ w → rng (N 14 i)) → (∃ P1 : Mm → Prop, S_Mod_nextToken N P1 ∧ ∀ N1, P1 N1 → k11 K (bs (N 14) w) 0 N1) → K NM RRM pc [(0, vr 1), (1, vi (w : Int)), (2, vi 0)] [] N := by
  intro w
  induction w with
  | zero =>
    intro _ _ h
    rcases hpc with rfl | rfl
    · exact w_Mod_reads_152 hK _ _ N ⟨by decide, fun _ => h, fun z => absurd (Int.le_refl _) z⟩
    · exact w_Mod_reads_379 hK _ _ N ⟨by decide, fun _ => h, fun z => absurd (Int.le_refl _) z⟩
  | succ w ih =>
    intro hw hr h
    have hr1 := hr (w + 1) (by omega) (Nat.le_refl _)
    have e1 : ((w + 1 : Nat) : Int) + -1 = (w : Int) := by omega
    rw [bs] at h
    have go : N 14 (w + 1) = 1 → K NM RRM pc [(0, vr 1), (1, vi (w : Int)), (2, vi 0)] [] N := fun e => by
      rw [if_pos e] at h
      exact ih (by omega) (fun i a b => hr i a (by omega)) h
    have st : N 14 (w + 1) ≠ 1 → ∃ P1 : Mm → Prop, S_Mod_nextToken N P1 ∧ ∀ N1, P1 N1 → k11 K (w + 1) 0 N1 := fun e => by
      rw [if_neg e] at h
      exact h
    rcases hpc with rfl | rfl
    · refine w_Mod_reads_152 hK _ _ N ?_
      rw [Int.toNat_natCast, e1]
      exact ⟨by omega, fun z => by omega, fun _ => ⟨by omega, hr1, fun z => st z, fun z => go z⟩⟩
    · refine w_Mod_reads_379 hK _ _ N ?_
      rw [Int.toNat_natCast, e1]
      exact ⟨by omega, fun z => by omega, fun _ => ⟨by omega, hr1, fun z => st z, fun z => go z⟩⟩
/-- behind an E: no operator is left -/
theorem ex304 {tx : TX} {K : KT} {P : Int → Mm → Prop} (hK : EKr K P) (hW : WX tx) {w p : Nat} (hw : w < 7) {q : Prop} {N : Mm} (hp : p ≤ tx.2) (hT : TpM tx p N) (hZ : Zt tx w q p N) (hB : opBoo tx p = none)
    (c41 : isS_ tx p 41 = true → 0 < w → ∃ P5 : Mm → Prop, S_Mod_puts 29 N P5 ∧ ∀ M5 : Mm, P5 M5 → K NM RRM 379 [(0, vr 1), (1, vi ((w : Int) + (-1))), (2, vi 0)] [] M5) (c399 : (isS_ tx p 41 = false ∨ w = 0) → K NM RRM 399 [(0, vr 1), (1, vi (w : Int))] [] N) : k11 K w 0 N := by
  have n42 : isS_ tx p 42 = false := isS_f (fun z => by have := hZ.2.1; unfold opMul at this; rw [if_pos z] at this; cases this)
  have n43 : isS_ tx p 43 = false := isS_f (fun z => by have := hZ.2.2.1; unfold opAdd at this; rw [if_pos z] at this; cases this)
  have n45 : isS_ tx p 45 = false := isS_f (fun z => by have := hZ.2.2.1; unfold opAdd at this; rw [n43, if_neg Bool.false_ne_true, if_pos z] at this; cases this)
  have n20 : wo_ tx p ≠ 20 := fun z => by unfold opBoo at hB; rw [if_pos z] at hB; cases hB
  have n21 : wo_ tx p ≠ 21 := fun z => by unfold opBoo at hB; rw [if_neg n20, if_pos z] at hB; cases hB
  have k304 : K NM RRM 304 [(0, vr 1), (1, vi (w : Int)), (2, vi 0)] [] N := by
    refine w_Mod_reads_304 hK _ _ N ⟨_, m_isWord (o := 20) hp hT (by omega) (by omega), ?_⟩
    rintro r N1 ⟨rfl, rfl⟩
    rw [decide_eq_false n20]
    refine ⟨by decide, fun z => absurd rfl z, fun _ => ⟨_, m_isWord (o := 21) hp hT (by omega) (by omega), ?_⟩⟩
    rintro r N2 ⟨rfl, rfl⟩
    rw [decide_eq_false n21]
    refine ⟨by decide, fun _ => ⟨_, m_isSign hW hp hT (by decide), ?_⟩, fun z => absurd rfl z⟩
    rintro r N3 ⟨rfl, rfl⟩
    refine ⟨zo_rng _, fun z => c399 (Or.inl (zo_0 z)), fun z => ⟨by omega, fun y => c399 (Or.inr (by omega)), fun y => c41 (zo_ne z) (by omega)⟩⟩
  refine hd_cmp hK hW hp hT n43 n45 n42 (fun h => ?_) (fun _ _ => k304)
  rcases hZ.2.2.2 with ⟨-, hn⟩ | h1
  · exfalso
    unfold opCmp at hn
    rcases h with h | h
    · rw [if_pos h] at hn; cases hn
    · rw [isS_v h (by decide), if_neg Bool.false_ne_true, if_pos h] at hn; cases hn
  · refine w_Mod_reads_263 hK _ _ N ?_
    rw [Int.toNat_natCast, h1]
    exact ⟨by omega, by decide, fun _ => k304, fun z => by omega⟩
/-- ahead of a PART -/
theorem m_pre {tx : TX} {pr : Bool} {K : KT} {P : Int → Mm → Prop} (hK : EKr K P) (hW : WX tx) {w p : Nat} {N : Mm} (hp : p ≤ tx.2) (hT : TpM tx p N) (h22 : N 1 22 = zo pr)
    (k65 : (lfc tx pr p ≠ none ∨ isS_ tx p 40 = true ∨ wo_ tx p = 19) → K NM RRM 65 [(0, vr 1), (1, vi (w : Int)), (2, vi 1), (3, vi (fcM tx pr p)), (4, vi (zo (decide (wo_ tx p = 19)))), (5, vi (zo (isS_ tx p 40)))] [] N) (fail : lfc tx pr p = none → isS_ tx p 40 = false → wo_ tx p ≠ 19 → ∀ N', N' 1 9 = 1 + 16 * (tb_ tx p : Int) → frF N N' → P 0 N') : k11 K w 1 N := by
  have htk := tk_le (tx := tx) (p := p)
  have hm := mk_2 htk
  have hml := mk_le (k := tk_ tx p)
  have hfr : 0 ≤ fcM tx pr p ∧ fcM tx pr p ≤ 5 := by
    by_cases e : tk_ tx p = 3
    · have := (fc3 (pr := pr) e).1; omega
    · exact (lfc_M e).2.2
  refine w_Mod_reads_11 hK _ _ N ⟨by decide, fun z => by omega, fun _ => ⟨_, m_fact hp hT h22, ?_⟩⟩
  rintro r N1 ⟨rfl, rfl⟩
  refine ⟨_, m_isWord (o := 19) hp hT (by omega) (by omega), ?_⟩
  rintro r N2 ⟨rfl, rfl⟩
  refine ⟨_, m_isSign hW hp hT (by decide), ?_⟩
  rintro r N3 ⟨rfl, rfl⟩
  rw [hT.2.2.2.2.1]
  refine ⟨by omega, fun z => k65 (Or.inl (fun y => ?_)), fun z => ⟨zo_rng _, fun z2 => k65 (Or.inr (Or.inr (of_decide_eq_true (zo_ne z2)))), fun z2 => ⟨zo_rng _, fun z3 => k65 (Or.inr (Or.inl (zo_ne z3))), fun z3 => ⟨by omega, fun z4 => k65 (Or.inl ?_), fun z4 => ⟨_, m_fails (k := 1) hT, ?_⟩⟩⟩⟩⟩
  · by_cases e : tk_ tx p = 3
    · rw [(fc3 e).2] at y; cases y
    · exact z ((lfc_M e).1.mpr y)
  · rw [(fc3 (hm.2.1.mp z4)).2]; exact fun y => by cases y
  · rintro r N4 ⟨rfl, a, b⟩
    have e : tk_ tx p ≠ 3 := fun y => z4 (hm.2.1.mpr y)
    exact ⟨Or.inl rfl, fail ((lfc_M e).1.mp z) (zo_0 z3) (of_decide_eq_false (zo_0 z2)) N4 a b⟩
theorem frF.st {N N' : Mm} (h : frF N N') : StM N N' := ⟨h.wk (fun c z => z.elim) (fun k hk => Or.inl (by omega)), fun i _ => by rw [h.1 13 (by omega) (fun z => z)]⟩
