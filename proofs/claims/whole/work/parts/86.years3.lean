theorem m_begins {tx : TX} {N : Mm} (hW : WX tx) (ht : ∀ j, j < tx.2 → N 2 j = tx.1 j) (h1 : N 1 1 = (tx.2 : Int)) : S_Mod_begins N (fun N' => TpM tx 0 N' ∧ FrM (fun _ => False) (fun k => (4 ≤ k ∧ k ≤ 8) ∨ k = 1 ∨ k = 3) N N' ∧ N' 1 1 = 0) := by
  refine W_Mod_begins N ?_
  intro M1 d1 M2 d2 M3 d3
  have f3 : FrM (fun _ => False) (fun k => (4 ≤ k ∧ k ≤ 8) ∨ k = 1 ∨ k = 3) N M3 := by
    refine FrM.tr (N1 := M1) (by rw [d1]; exact FrM.u1 (by omega)) (FrM.tr (N1 := M2) (by rw [d2]; exact FrM.u1 (by omega)) (by rw [d3]; exact FrM.u1 (by omega)))
  have e3 : M3 1 3 = (tx.2 : Int) ∧ M3 1 4 = 0 ∧ M3 1 1 = 0 := by
    rw [d3, upr_eq, if_pos rfl, d2, upr_eq, if_pos rfl, d1, upr_eq, if_pos rfl]
    exact ⟨h1, rfl, rfl⟩
  refine ⟨_, m_nextToken (p := 0) hW (fun j hj => by rw [f3.1 2 (by omega) (fun z => z)]; exact ht j hj) e3.1 e3.2.1 (by omega), ?_⟩
  rintro M4 ⟨a, b⟩
  exact ⟨a, f3.tr (b.wk (fun c z => z) (fun k hk => Or.inl hk)), by rw [b.2 1 (by omega)]; exact e3.2.2⟩
/-- what the years leave in the model -/
def AyM (Y : YT) (N N' : Mm) : Prop := ∃ N5 : Mm, TyM N N5 ∧ N5 1 1 = 0 ∧ RYM Y N5 ∧ N' 26 = up1 (N5 26) 0 (N5 26 5) ∧ (∀ c, 27 ≤ c → c ≤ 29 → ∀ j, N' c j = if 40 * 0 ≤ j ∧ j < 40 * 0 + 40 then N5 c (40 * 5 + (j - 40 * 0)) else N5 c j) ∧ FrM (fun c => 26 ≤ c ∧ c ≤ 29) (fun _ => False) N5 N'
def rYs (R : Sum FLT YT) : Int := match R with
  | .inl f => (f.1 : Int) + 16 * (f.2 : Int)
  | .inr _ => 0
def AYm (R : Sum FLT YT) (N N' : Mm) : Prop := match R with
  | .inl _ => TyM N N' ∧ N' 1 1 = 0
  | .inr y => AyM y N N'
def AyC (Y : YT) (M M' : Mm) : Prop := ∃ M2, FrC inY M M2 ∧ M2 2 1 = 0 ∧ RYC Y M2 ∧ M' 47 3 = M2 32 3 ∧ (∀ j, 1 ≤ j → j ≤ 3 → ∀ i, i < 40 → M' (47 + j) i = M2 (32 + j) i) ∧ FrC (fun c => 47 ≤ c ∧ c ≤ 50) M2 M'
def AYc (R : Sum FLT YT) (M M' : Mm) : Prop := match R with
  | .inl _ => FrC inY M M' ∧ M' 2 1 = 0
  | .inr y => AyC y M M'
theorem m_years {tx : TX} {n : Nat} {nm : Nat → List Nat} {N : Mm} (hW : WX tx) (ht : ∀ j, j < tx.2 → N 2 j = tx.1 j) (h1 : N 1 1 = (tx.2 : Int)) (hN : NmM n nm 0 N) : S_Mod_years N (fun x N' => x = rYs (rdYs tx n nm 41 Y0 0) ∧ AYm (rdYs tx n nm 41 Y0 0) N N') := by
  obtain ⟨R, hR⟩ : ∃ R, R = rdYs tx n nm 41 Y0 0 := ⟨_, rfl⟩
  rw [← hR]
  refine e_Mod_years N fun K hK => w_Mod_years_0 hK N ?_
  intro N1 g1 N2 g2 N3 g3
  have t1 : TyM N N1 := TyM.of (q := fun k => k = 0) (by rw [g1]; exact FrM.u1 rfl) (fun k hk => Or.inr (Or.inr (Or.inr hk)))
  have t2 : TyM N1 N2 := TyM.u26 g2
  have t3 : TyM N2 N3 := TyM.of (q := fun k => k = 36) (by rw [g3]; exact FrM.u1 rfl) (fun k hk => Or.inl (Or.inr (Or.inr hk)))
  have tt := t1.tr (t2.tr t3)
  have ht3 : ∀ j, j < tx.2 → N3 2 j = tx.1 j := fun j hj => by rw [tt.1.1 2 (by omega) (by omega)]; exact ht j hj
  have h13 : N3 1 1 = (tx.2 : Int) := by rw [g3, upr_eq, if_pos rfl, up1_eq, if_neg (by omega), g2, upr_eq, if_neg (by omega), g1, upr_eq, if_pos rfl, up1_eq, if_neg (by omega)]; exact h1
  have e265 : N3 26 5 = 0 := by rw [g3, upr_eq, if_neg (by omega), g2, upr_eq, if_pos rfl, up1_eq, if_pos rfl]
  refine ⟨_, m_begins hW ht3 h13, ?_⟩
  rintro N4 ⟨hT4, f4, e4⟩
  have t4 : TyM N N4 := tt.tr (TyM.of f4 (fun k hk => by
    rcases hk with hk | hk | hk
    · exact Or.inl (Or.inl (by omega))
    · exact Or.inr (Or.inl hk)
    · exact Or.inr (Or.inr (Or.inl hk))))
  have key : ∀ (k : Nat) (Y : YT) (p : Nat) (N5 : Mm), k + Y.1 = 41 → p ≤ tx.2 → TpM tx p N5 → RYM Y N5 → WY n Y → TyM N N5 → N5 1 1 = 0 → R = rdYs tx n nm k Y p → K NM RRM 21 [(0, vr 1)] [] N5 := by
    intro k
    induction k with
    | zero => intro Y p N5 hk hp hT hY hw; have := hw.1; omega
    | succ k ih =>
      intro Y p N5 hk hp hT hY hw t5 e5 he
      rw [rdYs] at he
      have htk := tk_le (tx := tx) (p := p)
      have h6 := hT.2.2.2.2.1
      have hm0 : mk_ (tk_ tx p) = 0 ↔ tk_ tx p = 0 := by
        unfold mk_
        split
        · omega
        · split
          · omega
          · split
            · omega
            · split <;> omega
      have hml := mk_le (k := tk_ tx p)
      refine w_Mod_years_21 hK N5 ?_
      rw [h6]
      refine ⟨by omega, fun z => ?_, fun z => ?_⟩
      · rw [if_pos (hm0.mp z)] at he
        refine ⟨_, m_laysLines (a := 5) (b := 0) (by omega) (by omega) (by omega), ?_⟩
        rintro N6 ⟨b1, b2, b3⟩
        rw [he]
        exact ⟨rfl, N5, t5, e5, hY, b1, b2, b3⟩
      · rw [if_neg (fun y => z (hm0.mpr y))] at he
        have hN5 : NmM n nm 0 N5 := by
          obtain ⟨q1, q2, q3⟩ := hN
          refine ⟨?_, q2, fun h hh => ?_⟩
          · rw [t5.1.1 3 (by omega) (by omega)]; exact q1
          · rw [t5.1.1 4 (by omega) (by omega)]; exact q3 h hh
        refine ⟨_, m_yLine hW hp hT hN5 hw hY, ?_⟩
        rintro r N6 ⟨t6, e6, u1, u2⟩
        cases c : clo tx (rdY tx n nm Y p) with
        | inl f =>
          obtain ⟨rfl, e⟩ := u1 f c
          rw [bnd_l c] at he
          refine ⟨by decide, fun y => absurd rfl y, fun _ => ?_⟩
          rw [he]
          exact ⟨e, t5.tr t6, by rw [e6]; exact e5⟩
        | inr x =>
          obtain ⟨rfl, hT6, hY6⟩ := u2 x c
          rw [bnd_r c] at he
          obtain ⟨y, hy, a1, a2, a3⟩ := clo_r c
          have wx := rdY_w hw hp hy
          refine ⟨by decide, fun _ => ih x.1 x.2 N6 (by rw [a1, wx.2.2.2]; omega) (by rw [a2]; exact (te_le wx.2.2.1).2) hT6 hY6 (by rw [a1]; exact wx.1) (t5.tr t6) (by rw [e6]; exact e5) he, fun z => absurd z (by decide)⟩
  refine key 41 Y0 0 N4 rfl (by omega) hT4 ⟨?_, fun i hi => absurd hi (Nat.not_lt_zero _)⟩ ⟨by decide, fun i hi => absurd hi (Nat.not_lt_zero _)⟩ t4 e4 hR
  rw [f4.1 26 (by omega) (fun z => z), e265]; rfl
theorem rdYs_w {tx : TX} {n : Nat} {nm : Nat → List Nat} : ∀ k Y p Y', WY n Y → p ≤ tx.2 → rdYs tx n nm k Y p = .inr Y' → WY n Y'
  | 0, Y, p, Y', hw, _, h => by rw [rdYs] at h; cases h; exact hw
  | k + 1, Y, p, Y', hw, hp, h => by
    rw [rdYs] at h
    split at h
    · cases h; exact hw
    · obtain ⟨x, hx, h⟩ := bnd_inr h
      obtain ⟨y, hy, a1, a2, a3⟩ := clo_r hx
      have wx := rdY_w hw hp hy
      exact rdYs_w k _ _ _ (by rw [a1]; exact wx.1) (by rw [a2]; exact (te_le wx.2.2.1).2) h
theorem SimY.fr2 {n yb sl : Nat} {M N M' N' : Mm} (h : SimY n M N yb sl) (e : ∀ i, i < 4 → M' (yb + i) = M (yb + i)) (f26 : N' 26 sl = N 26 sl) (f : ∀ c, 27 ≤ c → c ≤ 29 → ∀ i, i < 40 → N' c (40 * sl + i) = N c (40 * sl + i)) : SimY n M' N' yb sl := by
  have e0 := e 0 (by omega); rw [Nat.add_zero] at e0
  obtain ⟨L, h1, h2, h3, h4⟩ := h
  refine ⟨L, by rw [e0]; exact h1, by rw [f26]; exact h2, h3, fun i hi => ?_⟩
  rw [e 1 (by omega), e 2 (by omega), e 3 (by omega), f 27 (by omega) (by omega) i (by omega), f 28 (by omega) (by omega) i (by omega), f 29 (by omega) (by omega) i (by omega)]
  exact h4 i hi
/-- the years were told, or a text of them failed -/
theorem Sim.yrs {t : TT} {tb B : Nat} {M N M' N' : Mm} (h : Sim t tb B M N) (e : FrC (fun c => c = 2 ∨ (32 ≤ c ∧ c ≤ 35) ∨ (47 ≤ c ∧ c ≤ 50)) M M') (f : FrM (fun c => 26 ≤ c ∧ c ≤ 29) (fun k => qT k ∨ k = 1 ∨ k = 3 ∨ k = 0) N N') (f26 : ∀ k, 1 ≤ k → k < 5 → N' 26 k = N 26 k) (f27 : ∀ c, 27 ≤ c → c ≤ 29 → ∀ k, 40 ≤ k → k < 200 → N' c k = N c k) (hY' : SimY (tn t) M' N' 47 0) (hP' : SimP M' N') : Sim t tb B M' N' := by
  obtain ⟨hW, hT, hS, hN, hP, hY, hH, hU, hM⟩ := h
  have hn := hW.1
  have htb := hT.1
  have e1 : M' 1 = M 1 := e 1 (by omega)
  have f34 : N' 34 = N 34 := f.1 34 (by omega) (by omega)
  refine ⟨hW, hT.fr (by rw [e1]) (by rw [e1]) (fun c h1 h2 h3 h4 => e _ (by omega)) (fun c h1 h2 => f.1 c (by omega) (by omega)), hS.fr (fun c h1 h2 => e c (by omega)) (fun c h1 => f.1 c (by omega) (by omega)), ⟨(hN.1.fr (fun i hi => e _ (by omega))).cg hn (fun i _ => by rw [f34]), hN.2.cg hn (fun i _ => by rw [f34])⟩, hP', hY', hH.fr (e 41 (by omega)) (e 51 (by omega)) (e 52 (by omega)) (fun c h1 h2 => f.1 c (by omega) (by omega)), hU.fr (Nat.le_refl _) (by rw [e1]) (by rw [e1]) (fun c h1 h2 => e c (by omega)) (f.2 50 (by show ¬ (qT 50 ∨ _); omega)) (f.1 37 (by omega) (by omega)), fun i hi => ?_⟩
  obtain ⟨m1, m2, m3⟩ := hM i hi
  rw [e 59 (by omega), f.1 38 (by omega) (by omega), f.1 36 (by omega) (by omega)]
  refine ⟨m1, m2, fun q => ?_⟩
  obtain ⟨a, b, c, d⟩ := m3 q
  exact ⟨a.fr (fun j hj => e _ (by omega)), b, c.fr2 (fun j hj => e _ (by omega)) (f26 _ (by omega) (by omega)) (fun c a b j hj => f27 c a b _ (by omega) (by omega)), d.fr (e _ (by omega)) (e _ (by omega)) (e _ (by omega)) (fun c a b => f.1 c (by omega) (by omega))⟩
theorem op_years {t : TT} {tb B : Nat} {M N : Mm} (h : Sim t tb B M N) : Op S_Main_years S_Mod_years B M N := by
  obtain ⟨hWt, hT, hS, hN, hP, hY, hH, hU, hM⟩ := id h
  have htb := hT.1
  have hn := hWt.1
  obtain ⟨len, p1, p2, p3, p4⟩ := hP
  have hW : WX (M 3, len) := ⟨p3, fun i hi => (p4 i hi).2⟩
  have ht : ∀ j, j < (M 3, len).2 → N 2 j = (M 3, len).1 j := fun j hj => (p4 j hj).1.symm
  obtain ⟨nm, hnm⟩ : ∃ nm : Nat → List Nat, ∀ q, q < tn t → (okw (nm q) ∧ M (tb + 1) q = enc 32 (nm q) ∧ N 4 q = enc 27 (nm q)) := by
    have h6 := hT.2.2.2.2.2.1
    have h7 : ∀ q, ∃ l, q < tn t → (okw l ∧ M (tb + 1) q = enc 32 l ∧ N 4 q = enc 27 l) := by
      intro q
      by_cases hq : q < tn t
      · obtain ⟨l, hl⟩ := h6 q hq
        exact ⟨l, fun _ => hl⟩
      · exact ⟨[], fun z => absurd z hq⟩
    exact ⟨fun q => Classical.choose (h7 q), fun q hq => Classical.choose_spec (h7 q) hq⟩
  have hNC : NmC (tn t) nm tb M := ⟨hT.2.2.2.1.1.1, hn, fun q hq => ⟨(hnm q hq).1, (hnm q hq).2.1⟩⟩
  have hNM : NmM (tn t) nm 0 N := ⟨hT.2.2.2.2.1.1.1, hn, fun q hq => ⟨(hnm q hq).1, by rw [Nat.mul_zero, Nat.zero_add]; exact (hnm q hq).2.2⟩⟩
  have hb := (at_tw htb).1
  have hC : S_Main_years M (fun x M' => x = rYs (rdYs (M 3, len) (tn t) nm 41 Y0 0) ∧ AYc (rdYs (M 3, len) (tn t) nm 41 Y0 0) M M') := by
    refine W_Main_years M ⟨_, c_beginReading p1 hW, ?_⟩
    rintro M1 ⟨a1, a2, a3⟩
    refine ⟨tb, by rw [a3 1 (by omega)]; exact hT.2.1, hb, _, c_yRead hW a1 hb (hNC.fr (a3 tb (by omega)) (a3 (tb + 1) (by omega))), ?_⟩
    rintro r M2 ⟨b1, b2, b3, b4⟩
    have f2 : FrC inY M M2 := (a3.wk (fun c hc => Or.inl hc)).tr b1
    cases c : rdYs (M 3, len) (tn t) nm 41 Y0 0 with
    | inl f =>
      obtain ⟨rfl, e⟩ := b3 f c
      exact ⟨by decide, fun z => absurd rfl z, fun _ => ⟨e, f2, by rw [b2]; exact a2⟩⟩
    | inr Y =>
      obtain ⟨rfl, hY2⟩ := b4 Y c
      refine ⟨by decide, fun _ => ⟨_, c_YcopyFrom atC_47 atC_32 (by omega), ?_⟩, fun z => absurd z (by decide)⟩
      rintro M3 ⟨c1, c2, c3⟩
      exact ⟨rfl, M2, f2, by rw [b2]; exact a2, hY2, c1, c2, c3⟩
  have hD := m_years hW ht p2 hNM
  cases hR : rdYs (M 3, len) (tn t) nm 41 Y0 0 with
  | inl f =>
    rw [hR] at hC hD
    refine ⟨_, _, _, hC, hD, ?_⟩
    rintro M' N' ⟨a1, a2⟩ ⟨b1, b2⟩
    exact ⟨t, tb, (h.yrs (a1.wk (fun c hc => by omega)) b1.1 (fun k _ hk => b1.2.1 k hk) (fun c h1 h2 k _ hk => b1.2.2 c h1 h2 k hk) (hY.fr2 (fun i hi => a1 _ (by omega)) (b1.2.1 0 (by omega)) (fun c h1 h2 i hi => b1.2.2 c h1 h2 _ (by omega))) (SimP_0 a2 b2)).mono (Nat.le_succ _)⟩
  | inr Y =>
    have hw := rdYs_w 41 Y0 0 Y (n := tn t) ⟨by decide, fun i hi => absurd hi (Nat.not_lt_zero _)⟩ (by omega) hR
    rw [hR] at hC hD
    refine ⟨_, _, _, hC, hD, ?_⟩
    rintro M' N' ⟨M2, a1, a2, a3, a4, a5, a6⟩ ⟨N5, b1, b2, b3, b4, b5, b6⟩
    have fC : FrC (fun c => c = 2 ∨ (32 ≤ c ∧ c ≤ 35) ∨ (47 ≤ c ∧ c ≤ 50)) M M' := (a1.wk (fun c hc => by omega)).tr (a6.wk (fun c hc => by omega))
    have hw1 := hw.1
    refine ⟨t, tb, (h.yrs fC (b1.1.tr (b6.wk (fun c hc => hc) (fun k z => z.elim))) (fun k h1 hk => ?_) (fun c h1 h2 k h3 hk => ?_) ⟨Y.1, ?_, ?_, hw1, fun i hi => ?_⟩ (SimP_0 ?_ ?_)).mono (Nat.le_succ _)⟩
    · rw [b4, up1_eq, if_neg (by omega)]; exact b1.2.1 k hk
    · rw [b5 c h1 h2 k, if_neg (by omega)]; exact b1.2.2 c h1 h2 k hk
    · rw [a4]; exact a3.1
    · rw [b4, up1_eq, if_pos rfl]; exact b3.1
    · have ec := a3.2 i hi
      have em := b3.2 i hi
      obtain ⟨q1, q2, q3, q4⟩ := hw.2 i hi
      have d1 : M' (47 + 1) i = Y.2.1 i := (a5 1 (by omega) (by omega) i (by omega)).trans ec.1
      have x5 : ∀ c, 27 ≤ c → c ≤ 29 → N' c (40 * 0 + i) = N5 c (200 + i) := fun c h1 h2 => by
        rw [b5 c h1 h2, if_pos (by omega)]; congr 1; omega
      have d2 : N' 27 (40 * 0 + i) = Y.2.1 i := (x5 27 (by omega) (by omega)).trans em.1
      rw [d1, d2]
      refine ⟨rfl, q1, fun z => ?_, fun z => ?_, fun z => ?_⟩
      · rw [a5 2 (by omega) (by omega) i (by omega), x5 28 (by omega) (by omega)]
        have u := ec.2.1 z
        have v : N5 28 (200 + i) = (Y.2.2.1 i : Int) := em.2.1 z
        have w := q2 z
        show M2 34 i = N5 28 (200 + i) ∧ 0 ≤ M2 34 i ∧ M2 34 i < (tn t : Int)
        rw [u, v]
        exact ⟨rfl, by omega, by omega⟩
      · rw [a5 3 (by omega) (by omega) i (by omega), x5 29 (by omega) (by omega)]
        have u := ec.2.2 (Or.inl z)
        have v : N5 29 (200 + i) = Y.2.2.2 i := em.2.2 (Or.inl z)
        have w := q3 z
        show M2 35 i = N5 29 (200 + i) ∧ 0 ≤ M2 35 i ∧ M2 35 i ≤ 6
        rw [u, v]
        exact ⟨rfl, w.1, w.2⟩
      · rw [a5 3 (by omega) (by omega) i (by omega), x5 29 (by omega) (by omega)]
        have u := ec.2.2 (Or.inr z)
        have v : N5 29 (200 + i) = Y.2.2.2 i := em.2.2 (Or.inr z)
        have w := q4 z
        show M2 35 i = N5 29 (200 + i) ∧ 1 ≤ M2 35 i ∧ M2 35 i ≤ 99
        rw [u, v]
        exact ⟨rfl, w.1, w.2⟩
    · rw [a6 2 (by omega)]; exact a2
    · rw [b6.2 1 (fun z => z)]; exact b2
