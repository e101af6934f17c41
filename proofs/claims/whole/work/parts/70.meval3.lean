theorem mp_leaf {tx : TX} {pr : Bool} {p : Nat} {K : KT} {P : Int → Mm → Prop} (hK : EKw K P) {ln L w : Nat} (hln : ln < 4) (hL : L ≤ 2000) (hw : w < 7) {e : EnvT} (hpe : pr = true → e 0 = 1) (hp : p ≤ tx.2) {x : Int × Int × (EnvT → Int)} (h : lfc tx pr p = some x) : MVP e K ln L w [x.2.1] (x.2.2 e) := by
  have hg := (lfc_g hp h).2.2.1
  intro i N hc cont
  have hlen : i + 1 ≤ L := hc.2.1
  have hm : N 13 i = x.2.1 := hc.2.2 0 (by show 0 < 1; omega)
  have hv : ∀ v : Int, (x.2.1 < 20 → v = N 25 x.2.1.toNat) → (100 ≤ x.2.1 → v = x.2.1 - 100) → v = x.2.2 e := by
    intro v h1 h2
    have he := hc.1.2
    unfold lfc at h
    by_cases c : tk_ tx p = 3
    · rw [if_pos c] at h
      have := tv_in hp c
      cases h
      have h3 : v = 100 + tv_ tx p - 100 := h2 (by show 100 ≤ 100 + tv_ tx p; omega)
      show v = tv_ tx p
      omega
    · rw [if_neg c] at h
      by_cases c1 : wo_ tx p = 22
      · rw [if_pos c1] at h; cases h
        rw [h1 (by decide)]; exact he 1 (by omega) (by omega) (Or.inl (by omega))
      · rw [if_neg c1] at h
        by_cases c2 : wo_ tx p = 23
        · rw [if_pos c2] at h; cases h
          rw [h1 (by decide)]; exact he 2 (by omega) (by omega) (Or.inl (by omega))
        · rw [if_neg c2] at h
          by_cases c3 : wo_ tx p = 24
          · rw [if_pos c3] at h; cases h
            rw [h1 (by decide)]; exact he 3 (by omega) (by omega) (Or.inl (by omega))
          · rw [if_neg c3] at h
            by_cases c4 : wo_ tx p = 25 ∧ pr = true
            · rw [if_pos c4] at h; cases h
              rw [h1 (by decide)]; exact he 4 (by omega) (by omega) (Or.inr (hpe c4.2))
            · rw [if_neg c4] at h
              by_cases c5 : wo_ tx p = 26 ∧ pr = true
              · rw [if_pos c5] at h; cases h
                rw [h1 (by decide)]; exact he 5 (by omega) (by omega) (Or.inr (hpe c5.2))
              · rw [if_neg c5] at h; cases h
  refine w14 hK hln hw hc.1.1 (by omega) hL hm (by omega) (fun z => by omega) (fun z => by omega) (fun z => by omega) (fun z => by omega) (fun z => by omega) (fun _ v h1 h2 => ?_)
  rw [hv v h1 h2]
  refine w_Mod_worked_243 hK _ _ _ _ _ N ⟨by omega, fun _ => ?_, fun z => by omega⟩
  have := cont N fw.rf
  exact this
theorem mp_part {tx : TX} {pr : Bool} {K : KT} {P : Int → Mm → Prop} (hK : EKw K P) {ln L : Nat} (hln : ln < 4) (hL : L ≤ 2000) {e : EnvT} (he : eR e) (hpe : pr = true → e 0 = 1) : ∀ d w, w + d = 5 → ∀ p s, p ≤ tx.2 → pPart tx pr d p = .inr s → MVP e K ln L w s.2.2.1 (s.2.2.2 e) := by
  intro d
  induction d with
  | zero => intro w hw p s hp hs; exact absurd hs p0_no
  | succ d ih =>
    intro w hw p s hp hs
    rw [pPart_s] at hs
    -- a level deeper
    have deep : ∀ (m o : Int), (m = 28 ∧ o = 0) ∨ (m = 30 ∧ o = 1) → ∀ i N ms, cdM e ln L i (m :: ms) N → (∀ N2, FrM inW (fun _ => False) N N2 → (∀ c, 16 ≤ c → c ≤ 24 → ∀ j, j ≤ w → N2 c j = N c j) → N2 24 (w + 1) = o → N2 17 (w + 1) = 0 → N2 19 (w + 1) = 0 → N2 20 (w + 1) = 0 → N2 21 (w + 1) = 20 → N2 23 (w + 1) = 0 → cdM e ln L (i + 1) ms N2 → k14 K ln (w + 1) (i + 1) N2) → k14 K ln w i N := by
      intro m o hmo i N ms hc cont
      have hlen := hc.2.1
      rw [List.length_cons] at hlen
      have hm : N 13 i = m := by
        have := hc.2.2 0 (by rw [List.length_cons]; omega)
        rw [Nat.add_zero] at this
        exact this
      have go : ∀ N1 : Mm, N1 = upr N 24 (up1 (N 24) (w + 1) o) → ∃ P2 : Mm → Prop, S_Mod_opens ((w : Int) + 1) N1 P2 ∧ ∀ M2 : Mm, P2 M2 → K NM RRM 14 [(0, vr 1), (1, vi (ln : Int)), (2, vi ((w : Int) + 1)), (3, vi ((i : Int) + 1))] [] M2 := by
        intro N1 g1
        have f1 : fw (fun c => c = 24) (w + 1) N N1 := by rw [g1]; exact fw.up (by omega) rfl
        refine ⟨_, m_opens (w := w + 1) (by omega), ?_⟩
        rintro N2 ⟨t17, t19, t20, t21, t23, f2⟩
        have hcr : cdM e ln L (i + 1) ms N := cdM.r (ms := [m]) hc
        have := cont N2 (f1.1.tr f2.1) (fun c a b j hj => by rw [f2.2.1 c a b j (by omega), f1.2.1 c a b j (by omega)]) (by rw [f2.2.2 24 (by omega) (by omega) (by omega), g1, upr_eq, if_pos rfl, up1_eq, if_pos rfl]) t17 t19 t20 t21 t23 ((hcr.fr f1).fr f2)
        exact this
      refine w14 hK hln (by omega) hc.1.1 (by omega) hL hm (by omega) (fun _ => ?_) (fun z => by omega) (fun z => by omega) (fun z => by omega) (fun z => by omega) (fun z => by omega)
      refine w_Mod_worked_46 hK _ _ _ _ N ?_
      rw [show ((w : Int) + 1).toNat = w + 1 by omega]
      refine ⟨by omega, fun z => ⟨by omega, ?_⟩, fun z => ⟨by omega, ?_⟩⟩
      · have : o = 0 := by rcases hmo with h | h <;> omega
        rw [this] at go; exact go
      · have : o = 1 := by rcases hmo with h | h <;> omega
        rw [this] at go; exact go
    by_cases c : isS_ tx p 40 = true
    · rw [if_pos c] at hs
      have htp := tk_pos hp (by have := isS_k c; omega)
      cases c2 : qE tx (pPart tx pr d) (te_ tx p) with
      | inl f => rw [c2] at hs; cases hs
      | inr r =>
        rw [c2] at hs
        have hs2 : parR r tx = .inr s := hs
        unfold parR at hs2
        by_cases c3 : isS_ tx r.1 41 = true
        · rw [if_pos c3] at hs2
          cases hs2
          have hE := mq_E hK hln hL (w := w + 1) (by omega) he (pPart_g (pr := pr) d) (ih (w + 1) (by omega)) (te_ tx p) r htp.2 c2
          intro i N hc cont
          have hc' : cdM e ln L i (28 :: (r.2.2.1 ++ [29])) N := hc
          refine deep 28 0 (Or.inl ⟨rfl, rfl⟩) i N _ hc' (fun N2 f2 k2 b24 b17 b19 b20 b21 b23 hc2 => ?_)
          refine hE (i + 1) N2 hc2.l ⟨b17, b19, b20, b21, b23, Or.inr b24⟩ (fun N3 f3 z3 => ?_)
          have hc3 := hc2.r.fr f3
          have hlen : i + 1 + r.2.2.1.length + 1 ≤ L := hc3.2.1
          have hm : N3 13 (i + 1 + r.2.2.1.length) = 29 := hc3.2.2 0 (by show 0 < 1; omega)
          refine w14 hK hln (by omega) hc3.1.1 (by omega) hL hm (by decide) (fun z => by omega) (fun z => by omega) (fun z => by omega) (fun z => by omega) (fun z => by omega) (fun _ v _ _ => ?_)
          refine w_Mod_worked_243 hK _ _ _ _ _ N3 ⟨by decide, fun z => absurd rfl z, fun _ => ⟨_, m_tests (w := w + 1) (by omega) z3.1, ?_⟩⟩
          rintro N4 ⟨t16, -, -, -, -, -, f4⟩
          rw [Int.toNat_natCast, t16, z3.2, show ((w + 1 : Nat) : Int) + -1 = (w : Int) by omega]
          refine ⟨by omega, ?_⟩
          have ff : fw (fun _ => False) w N N4 := by
            have a3 : fw (fun _ => False) w N2 N3 := f3.dp
            have a4 : fw (fun _ => False) w N3 N4 := f4.dp
            refine ⟨(f2.tr a3.1).tr a4.1, fun c a b j hj => ?_, fun c a b _ => ?_⟩
            · rw [a4.2.1 c a b j hj, a3.2.1 c a b j hj, k2 c a b j (by omega)]
            · rw [a4.2.2 c a b (fun z => z), a3.2.2 c a b (fun z => z), k2 c a b w (Nat.le_refl _)]
          have := cont N4 ff
          have hidx : i + (28 :: (r.2.2.1 ++ [(29 : Int)])).length - 1 = i + 1 + r.2.2.1.length := by
            rw [List.length_cons, List.length_append, List.length_singleton]; omega
          have hthis : k268 K ln w (i + (28 :: (r.2.2.1 ++ [(29 : Int)])).length - 1) (r.2.2.2 e) N4 := this
          rw [hidx] at hthis
          exact hthis
        · rw [if_neg c3] at hs2; cases hs2
    · rw [if_neg c] at hs
      by_cases c1 : wo_ tx p = 19
      · rw [if_pos c1] at hs
        have htp := tk_pos hp (by have := wo_k (tx := tx) (p := p) (by omega); omega)
        cases c2 : pPart tx pr d (te_ tx p) with
        | inl f => rw [c2] at hs; cases hs
        | inr r =>
          rw [c2] at hs
          cases hs
          have g := (pPart_g (pr := pr) d (te_ tx p) htp.2).1 r c2
          have hl : 1 ≤ r.2.2.1.length := g.2.2.2.2.2.1
          have hrv := gd_rng g he
          intro i N hc cont
          have hc' : cdM e ln L i (30 :: r.2.2.1) N := hc
          refine deep 30 1 (Or.inr ⟨rfl, rfl⟩) i N _ hc' (fun N2 f2 k2 b24 b17 b19 b20 b21 b23 hc2 => ?_)
          refine ih (w + 1) (by omega) (te_ tx p) r htp.2 c2 (i + 1) N2 hc2 (fun N3 f3 => ?_)
          have e24 : N3 24 (w + 1) = 1 := by rw [f3.2.2 24 (by omega) (by omega) (fun z => z)]; exact b24
          have ff : fw (fun _ => False) w N N3 := by
            have a3 : fw (fun _ => False) w N2 N3 := f3.dp
            refine ⟨f2.tr a3.1, fun c a b j hj => ?_, fun c a b _ => ?_⟩
            · rw [a3.2.1 c a b j hj, k2 c a b j (by omega)]
            · rw [a3.2.2 c a b (fun z => z), k2 c a b w (Nat.le_refl _)]
          have hc0 := cont N3 ff
          have hidx : i + (30 :: r.2.2.1).length - 1 = i + 1 + r.2.2.1.length - 1 := by rw [List.length_cons]; omega
          have hthis : k268 K ln w (i + (30 :: r.2.2.1).length - 1) (if r.2.2.2 e = 0 then 1 else 0) N3 := hc0
          rw [hidx] at hthis
          refine w_Mod_worked_268 hK _ _ _ _ N3 ?_
          rw [Int.toNat_natCast, e24, show ((w + 1 : Nat) : Int) + -1 = (w : Int) by omega]
          refine ⟨by omega, fun z => by omega, fun _ => ⟨by omega, by decide, fun z => absurd rfl z, fun _ => ⟨hrv, fun z => ?_, fun z => ?_⟩⟩⟩
          · rw [if_neg z] at hthis; exact hthis
          · rw [if_pos z] at hthis; exact hthis
      · rw [if_neg c1] at hs
        cases c2 : lfc tx pr p with
        | none => rw [c2] at hs; cases hs
        | some x =>
          rw [c2] at hs
          cases hs
          exact mp_leaf hK hln hL (by omega) hpe hp c2
/-- the model's law comes to what was read -/
theorem m_worked {tx : TX} {pr : Bool} {p ln a : Nat} {N : Mm} {s : PRS} {e : EnvT} (hln : ln < 4) (hp : p ≤ tx.2) (hs : qE tx (pPart tx pr 5) p = .inr s) (he : eR e) (hpe : pr = true → e 0 = 1) (hE : ∀ j, 1 ≤ j → j ≤ 5 → (j ≤ 3 ∨ e 0 = 1) → N 25 j = e j) (h11 : N 11 ln = (a : Int)) (h12 : N 12 ln = ((a + s.2.2.1.length : Nat) : Int)) (hL : a + s.2.2.1.length ≤ 2000) (hc : ∀ j, j < s.2.2.1.length → N 13 (a + j) = s.2.2.1.getD j 0) : S_Mod_worked (ln : Int) N (fun r N' => r = s.2.2.2 e ∧ rng r ∧ FrM inW (fun _ => False) N N') := by
  have gs := (qE_g (pPart_g (pr := pr) 5) p hp).1 s hs
  refine e_Mod_worked _ N fun K hK => w_Mod_worked_0 hK _ N ⟨_, m_opens (w := 0) (by omega), ?_⟩
  rintro N1 ⟨t17, t19, t20, t21, t23, f1⟩
  rw [Int.toNat_natCast, f1.1.1 11 (by omega) (by omega), h11]
  refine ⟨by omega, ?_⟩
  have hE1 := mq_E (w := 0) hK hln hL (by omega) he (pPart_g (pr := pr) 5) (mp_part hK hln hL he hpe 5 0 rfl) p s hp hs
  have hcd : cdM e ln (a + s.2.2.1.length) a s.2.2.1 N := ⟨⟨h12, hE⟩, Nat.le_refl _, hc⟩
  have := hE1 a N1 (hcd.fr f1) ⟨t17, t19, t20, t21, t23, Or.inl rfl⟩ (fun N2 f2 z2 => ?_)
  · exact this
  · refine w_Mod_worked_14 hK _ _ _ N2 ?_
    rw [Int.toNat_natCast, f2.1.1 12 (by omega) (by omega), f1.1.1 12 (by omega) (by omega), h12]
    refine ⟨by omega, by omega, by omega, fun _ => ⟨_, m_tests (w := 0) (by omega) z2.1, ?_⟩, fun z => absurd (Int.le_refl _) z⟩
    rintro N3 ⟨t16, -, -, -, -, -, f3⟩
    refine ⟨by rw [t16, z2.2], by rw [t16, z2.2]; exact gd_rng gs he, (f1.1.tr f2.1).tr f3.1⟩
def env3 (w d g : Int) : EnvT := fun i => if i = 1 then w else if i = 2 then d else if i = 3 then g else 0
abbrev env5 (w d g bl wl : Int) : EnvT := fun i => if i = 0 then 1 else if i = 1 then w else if i = 2 then d else if i = 3 then g else if i = 4 then bl else wl
theorem LM0_of {tx : TX} {p a : Nat} {N : Mm} {s : PRS} (hp : p ≤ tx.2) (hs : qE tx (pPart tx false 5) p = .inr s) (h11 : N 11 0 = (a : Int)) (h12 : N 12 0 = ((a + s.2.2.1.length : Nat) : Int)) (hL : a + s.2.2.1.length ≤ 1000) (hc : ∀ j, j < s.2.2.1.length → N 13 (a + j) = s.2.2.1.getD j 0) : LM0 N (fun w d g => s.2.2.2 (env3 w d g)) := by
  intro N0 e11 e12 e13 r1 r2 r3
  have := m_worked (N := N0) (ln := 0) (e := env3 (N0 25 1) (N0 25 2) (N0 25 3)) (by omega) hp hs ⟨r1, r2, r3, (show rng 0 by decide), (show rng 0 by decide)⟩ (fun z => by cases z) (fun j a b c => ?_) (by rw [e11 _ (by omega)]; exact h11) (by rw [e12 _ (by omega)]; exact h12) (by omega) (fun j hj => by rw [e13 _ (by omega)]; exact hc j hj)
  · exact this
  · have : j = 1 ∨ j = 2 ∨ j = 3 := by
      rcases c with c | c
      · omega
      · have c2 : (0 : Int) = 1 := c
        omega
    rcases this with rfl | rfl | rfl <;> rfl
theorem LM1_of {tx : TX} {p a : Nat} {N : Mm} {s : PRS} (hp : p ≤ tx.2) (hs : qE tx (pPart tx true 5) p = .inr s) (h11 : N 11 1 = (a : Int)) (h12 : N 12 1 = ((a + s.2.2.1.length : Nat) : Int)) (hL : a + s.2.2.1.length ≤ 1000) (hc : ∀ j, j < s.2.2.1.length → N 13 (a + j) = s.2.2.1.getD j 0) : LM1 N (fun w d g bl wl => s.2.2.2 (env5 w d g bl wl)) := by
  intro N0 e11 e12 e13 r1 r2 r3 r4 r5
  have := m_worked (N := N0) (ln := 1) (e := env5 (N0 25 1) (N0 25 2) (N0 25 3) (N0 25 4) (N0 25 5)) (by omega) hp hs ⟨r1, r2, r3, r4, r5⟩ (fun _ => rfl) (fun j a b c => ?_) (by rw [e11 _ (by omega)]; exact h11) (by rw [e12 _ (by omega)]; exact h12) (by omega) (fun j hj => by rw [e13 _ (by omega)]; exact hc j hj)
  · exact this
  · have : j = 1 ∨ j = 2 ∨ j = 3 ∨ j = 4 ∨ j = 5 := by omega
    rcases this with rfl | rfl | rfl | rfl | rfl <;> rfl
theorem LC0_of {tx : TX} {b p : Nat} {M : Mm} {s : PRS} (hW : WX tx) (hb : At shC NN b (.inl 0)) (hp : p ≤ tx.2) (hs : qE tx (pPart tx false 5) p = .inr s) (h3 : M b 3 = (s.2.1.length : Int)) (hc : ∀ i, i < s.2.1.length → M (b + 1) i = s.2.1.getD i 0) : LC M b (fun w d g _ _ => s.2.2.2 (env3 w d g)) := by
  have gs := (qE_g (pPart_g (pr := false) 5) p hp).1 s hs
  have := LC_of hW hb hp hs h3 hc
  intro M0 e0 e1 w d g bl wl hw hd hg hbl hwl
  have h := this M0 e0 e1 w d g bl wl hw hd hg hbl hwl
  have e : s.2.2.2 (env5 w d g bl wl) = s.2.2.2 (env3 w d g) := gs.2.2.2.2.2.2.2.1 rfl _ _ rfl rfl rfl
  show S_Law_value b w d g bl wl M0 (fun r M' => r = s.2.2.2 (env3 w d g) ∧ rng r ∧ FrC (fun c => c = b + 2) M0 M')
  rw [← e]
  exact h
