abbrev EKv (K : KT) (P : Int → Mm → Prop) : Prop := EK shC yX1_value cX1_value 9 (some .int) 2 NN NN (QI RRC P) K
abbrev k6 (K : KT) (b : Nat) (e : EnvT) (st i : Nat) (M : Mm) : Prop := K NN RRC 6 [(0, vr b), (1, vi (e 1)), (2, vi (e 2)), (3, vi (e 3)), (4, vi (e 4)), (5, vi (e 5)), (6, vi (st : Int)), (7, vi (i : Int))] [] M
abbrev eR (e : EnvT) : Prop := rng (e 1) ∧ rng (e 2) ∧ rng (e 3) ∧ rng (e 4) ∧ rng (e 5)
/-- the class works the codes cs: v comes on top -/
def CV (K : KT) (b L : Nat) (e : EnvT) (cs : List Int) (v : Int) (k : Nat) : Prop :=
  ∀ (st i : Nat) (M : Mm), M b 3 = (L : Int) → i + cs.length ≤ L → (∀ j, j < cs.length → M (b + 1) (i + j) = cs.getD j 0) → st + k ≤ 24 →
    (∀ M', FrC (fun c => c = b + 2) M M' → (∀ j, j < st → M' (b + 2) j = M (b + 2) j) → M' (b + 2) st = v → k6 K b e (st + 1) (i + cs.length) M') → k6 K b e st i M
theorem CV.wk {K : KT} {b L : Nat} {e : EnvT} {cs : List Int} {v : Int} {k k' : Nat} (h : CV K b L e cs v k) (hk : k ≤ k') : CV K b L e cs v k' := fun st i M a1 a2 a3 a4 => h st i M a1 a2 a3 (by omega)
theorem cv_leaf {tx : TX} {pr : Bool} {p : Nat} {K : KT} {P : Int → Mm → Prop} (hK : EKv K P) {b L : Nat} (hb : At shC NN b (.inl 0)) (hL : L ≤ 1000) {e : EnvT} (he : eR e) (hp : p ≤ tx.2) {x : Int × Int × (EnvT → Int)} (h : lfc tx pr p = some x) : CV K b L e [x.1] (x.2.2 e) 1 := by
  have hg := (lfc_g hp h).2.1
  have hval : ∀ M : Mm, S_Law_leafValue x.1 (e 1) (e 2) (e 3) (e 4) (e 5) M (fun r M' => r = x.2.2 e ∧ M' = M) := by
    intro M
    refine W_Law_leafValue _ _ _ _ _ _ M ?_
    unfold lfc at h
    by_cases c : tk_ tx p = 3
    · rw [if_pos c] at h
      have := tv_in hp c
      cases h
      refine ⟨by show rng (tv_ tx p); omega, fun (z : tv_ tx p = _) => by omega, fun (z : tv_ tx p = _) => by omega, fun (z : tv_ tx p = _) => by omega, fun (z : tv_ tx p = _) => by omega, fun (z : tv_ tx p = _) => by omega, fun _ => ⟨rfl, rfl⟩⟩
    · rw [if_neg c] at h
      by_cases c1 : wo_ tx p = 22
      · rw [if_pos c1] at h; cases h
        exact ⟨by decide, fun z => absurd z (by decide), fun z => absurd z (by decide), fun z => absurd z (by decide), fun z => absurd z (by decide), fun _ => ⟨rfl, rfl⟩, fun z => absurd rfl z.2.2.2.2⟩
      · rw [if_neg c1] at h
        by_cases c2 : wo_ tx p = 23
        · rw [if_pos c2] at h; cases h
          exact ⟨by decide, fun z => absurd z (by decide), fun z => absurd z (by decide), fun z => absurd z (by decide), fun _ => ⟨rfl, rfl⟩, fun z => absurd z (by decide), fun z => absurd rfl z.2.2.2.1⟩
        · rw [if_neg c2] at h
          by_cases c3 : wo_ tx p = 24
          · rw [if_pos c3] at h; cases h
            exact ⟨by decide, fun z => absurd z (by decide), fun z => absurd z (by decide), fun _ => ⟨rfl, rfl⟩, fun z => absurd z (by decide), fun z => absurd z (by decide), fun z => absurd rfl z.2.2.1⟩
          · rw [if_neg c3] at h
            by_cases c4 : wo_ tx p = 25 ∧ pr = true
            · rw [if_pos c4] at h; cases h
              exact ⟨by decide, fun z => absurd z (by decide), fun _ => ⟨rfl, rfl⟩, fun z => absurd z (by decide), fun z => absurd z (by decide), fun z => absurd z (by decide), fun z => absurd rfl z.2.1⟩
            · rw [if_neg c4] at h
              by_cases c5 : wo_ tx p = 26 ∧ pr = true
              · rw [if_pos c5] at h; cases h
                exact ⟨by decide, fun _ => ⟨rfl, rfl⟩, fun z => absurd z (by decide), fun z => absurd z (by decide), fun z => absurd z (by decide), fun z => absurd z (by decide), fun z => absurd rfl z.1⟩
              · rw [if_neg c5] at h; cases h
  intro st i M h3 hi hc hst cont
  have hi1 : i + 1 ≤ L := hi
  have ec : M (b + 1) i = x.1 := hc 0 (by show 0 < 1; omega)
  have k120 : K NN RRC 120 [(0, vr b), (1, vi (e 1)), (2, vi (e 2)), (3, vi (e 3)), (4, vi (e 4)), (5, vi (e 5)), (6, vi (st : Int)), (7, vi (i : Int)), (8, vi x.1)] [] M := by
    refine w_Law_value_120 hK b hb _ _ _ _ _ _ _ _ M ⟨by omega, fun z => by omega, fun _ => ⟨_, hval M, ?_⟩⟩
    rintro r M1 ⟨rfl, rfl⟩
    refine ⟨by omega, ?_⟩
    rintro M2 rfl
    rw [Int.toNat_natCast]
    refine cont _ (FrC.up rfl) (fun j hj => ?_) ?_
    · rw [upr_eq, if_pos rfl, up1_eq, if_neg (by omega)]
    · rw [upr_eq, if_pos rfl, up1_eq, if_pos rfl]
  refine w_Law_value_6 hK b hb _ _ _ _ _ _ _ M ?_
  rw [h3, Int.toNat_natCast, ec]
  refine ⟨by omega, by omega, fun z => by omega, fun _ => ⟨by omega, by omega, fun _ => ?_, fun z => by omega⟩⟩
  refine w_Law_value_65 hK b hb _ _ _ _ _ _ _ _ M ⟨by omega, fun _ => k120, fun z => ⟨by omega, fun _ => k120, fun z2 => by omega⟩⟩
theorem cv_not {K : KT} {P : Int → Mm → Prop} (hK : EKv K P) {b L : Nat} (hb : At shC NN b (.inl 0)) (hL : L ≤ 1000) {e : EnvT} {cs : List Int} {v : Int} {k : Nat} (hv : rng v) (h : CV K b L e cs v k) (hk : 1 ≤ k) : CV K b L e (cs ++ [-1]) (if v = 0 then 1 else 0) k := by
  intro st i M h3 hi hc hst cont
  rw [List.length_append] at hi hc cont
  have hi1 : i + (cs.length + 1) ≤ L := hi
  refine h st i M h3 (by omega) (fun j hj => by rw [hc j (by show j < cs.length + 1; omega), getD_l hj]) hst ?_
  intro M1 f1 s1 v1
  have ec : M1 (b + 1) (i + cs.length) = -1 := by
    rw [f1 (b + 1) (by omega), hc cs.length (by show cs.length < cs.length + 1; omega), getD_r (Nat.le_refl _), Nat.sub_self]; rfl
  refine w_Law_value_6 hK b hb _ _ _ _ _ _ _ M1 ?_
  rw [f1 b (by omega), h3, Int.toNat_natCast, ec, show ((st + 1 : Nat) : Int) - 1 = (st : Int) by omega, Int.toNat_natCast, v1]
  have fin : ∀ y : Int, y = (if v = 0 then 1 else 0) → k6 K b e (st + 1) (i + (cs.length + 1)) (upr M1 (b + 2) (up1 (M1 (b + 2)) st y)) := by
    rintro y rfl
    refine cont _ (f1.tr (FrC.up rfl)) (fun j hj => ?_) ?_
    · rw [upr_eq, if_pos rfl, up1_eq, if_neg (by omega)]; exact s1 j hj
    · rw [upr_eq, if_pos rfl, up1_eq, if_pos rfl]
  refine ⟨by omega, by omega, fun z => by omega, fun _ => ⟨by omega, by decide, fun z => absurd rfl z, fun _ => ⟨by omega, fun z => by omega, fun _ => ⟨by omega, hv, fun z => ⟨by omega, ?_⟩, fun z => ⟨by omega, ?_⟩⟩⟩⟩⟩
  · rintro M2 rfl
    exact fin 0 (by rw [if_neg z])
  · rintro M2 rfl
    exact fin 1 (by rw [if_pos z])
theorem c_joined {M : Mm} {c x y : Int} (hc : -8 ≤ c ∧ c ≤ -2) (hx : rng x) (hy : rng y) : S_Law_joined c x y M (fun r M' => r = jnI c x y ∧ M' = M) := by
  refine W_Law_joined _ _ _ M ?_
  unfold jnI
  refine ⟨by omega, fun z => ⟨hx, fun a => ⟨?_, rfl⟩, fun a => ⟨hy, fun d => ⟨?_, rfl⟩, fun d => ⟨?_, rfl⟩⟩⟩, fun z => ⟨hx, hy, fun a => ⟨?_, rfl⟩, fun a => ⟨?_, rfl⟩⟩, fun z => ⟨hx, hy, fun a => ⟨?_, rfl⟩, fun a => ⟨?_, rfl⟩⟩, fun z => ⟨?_, rfl⟩, fun z => ⟨?_, rfl⟩, fun z => ⟨?_, rfl⟩, fun z => ⟨hx, fun a => ⟨?_, rfl⟩, fun a => ⟨hy, fun d => ⟨?_, rfl⟩, fun d => ⟨?_, rfl⟩⟩⟩⟩
  · rw [if_pos z, if_pos a]
  · rw [if_pos z, if_neg a, if_pos d]
  · rw [if_pos z, if_neg a, if_neg d]
  · rw [if_neg (by omega), if_pos z, if_neg a]
  · rw [if_neg (by omega), if_pos z, if_pos a]
  · rw [if_neg (by omega), if_neg (by omega), if_pos z, if_neg (by omega)]
  · rw [if_neg (by omega), if_neg (by omega), if_pos z, if_pos (by omega)]
  · rw [if_neg (by omega), if_neg (by omega), if_neg (by omega), if_pos z]
  · rw [if_neg (by omega), if_neg (by omega), if_neg (by omega), if_neg (by omega), if_pos z]
  · rw [if_neg (by omega), if_neg (by omega), if_neg (by omega), if_neg (by omega), if_neg (by omega), if_pos z]
  · rw [if_neg z.1, if_neg z.2.1, if_neg z.2.2.1, if_neg z.2.2.2.1, if_neg z.2.2.2.2.1, if_neg z.2.2.2.2.2, if_pos a]
  · rw [if_neg z.1, if_neg z.2.1, if_neg z.2.2.1, if_neg z.2.2.2.1, if_neg z.2.2.2.2.1, if_neg z.2.2.2.2.2, if_neg (fun q => q a), if_pos d]
  · rw [if_neg z.1, if_neg z.2.1, if_neg z.2.2.1, if_neg z.2.2.2.1, if_neg z.2.2.2.2.1, if_neg z.2.2.2.2.2, if_neg (fun q => q a), if_neg d]
theorem cv_join {K : KT} {P : Int → Mm → Prop} (hK : EKv K P) {b L : Nat} (hb : At shC NN b (.inl 0)) (hL : L ≤ 1000) {e : EnvT} {cs cs2 : List Int} {v v2 c : Int} {k : Nat} (hc9 : -8 ≤ c ∧ c ≤ -2) (hv : rng v) (hv2 : rng v2) (h : CV K b L e cs v (k + 1)) (h2 : CV K b L e cs2 v2 k) (hk : 1 ≤ k) : CV K b L e (cs ++ cs2 ++ [c]) (jnI c v v2) (k + 1) := by
  intro st i M h3 hi hc hst cont
  rw [List.length_append, List.length_append] at hi hc cont
  have hi1 : i + (cs.length + cs2.length + 1) ≤ L := hi
  refine h st i M h3 (by omega) (fun j hj => by rw [hc j (by show j < cs.length + cs2.length + 1; omega), getD_l (by rw [List.length_append]; omega), getD_l hj]) hst ?_
  intro M1 f1 s1 v1
  refine h2 (st + 1) (i + cs.length) M1 (by rw [f1 b (by omega)]; exact h3) (by omega) (fun j hj => ?_) (by omega) ?_
  · rw [f1 (b + 1) (by omega), Nat.add_assoc, hc (cs.length + j) (by show cs.length + j < cs.length + cs2.length + 1; omega), getD_l (by rw [List.length_append]; omega), getD_r (by omega), show cs.length + j - cs.length = j by omega]
  · intro M2 f2 s2 w2
    have ec : M2 (b + 1) (i + cs.length + cs2.length) = c := by
      rw [f2 (b + 1) (by omega), f1 (b + 1) (by omega), Nat.add_assoc, hc (cs.length + cs2.length) (by show cs.length + cs2.length < cs.length + cs2.length + 1; omega), getD_r (by rw [List.length_append]; omega), List.length_append, Nat.sub_self]; rfl
    have el : M2 (b + 2) st = v := by rw [s2 st (by omega)]; exact v1
    have e1 : ((st + 1 + 1 : Nat) : Int) + -1 - 1 = (st : Int) := by omega
    have e2 : ((st + 1 + 1 : Nat) : Int) + -1 = ((st + 1 : Nat) : Int) := by omega
    refine w_Law_value_6 hK b hb _ _ _ _ _ _ _ M2 ?_
    rw [f2 b (by omega), f1 b (by omega), h3, Int.toNat_natCast, ec]
    refine ⟨by omega, by omega, fun z => by omega, fun _ => ⟨by omega, by omega, fun _ => ?_, fun z => by omega⟩⟩
    refine w_Law_value_65 hK b hb _ _ _ _ _ _ _ _ M2 ?_
    rw [e1, e2, Int.toNat_natCast, Int.toNat_natCast, el, w2]
    refine ⟨by omega, fun z => by omega, fun _ => ⟨by omega, fun z => by omega, fun _ => ⟨by omega, fun z => by omega, fun _ => ⟨by omega, by omega, _, c_joined hc9 hv hv2, ?_⟩⟩⟩⟩
    rintro r M3 ⟨rfl, rfl⟩
    refine ⟨by omega, ?_⟩
    rintro M4 rfl
    have := cont (upr M3 (b + 2) (up1 (M3 (b + 2)) st (jnI c v v2))) ((f1.tr f2).tr (FrC.up rfl)) (fun j hj => by rw [upr_eq, if_pos rfl, up1_eq, if_neg (by omega), s2 j (by omega)]; exact s1 j hj) (by rw [upr_eq, if_pos rfl, up1_eq, if_pos rfl])
    rw [show i + (cs.length + cs2.length + [c].length) = i + cs.length + cs2.length + 1 by rw [List.length_singleton]; omega] at this
    exact this
abbrev CQ (tx : TX) (K : KT) (b L : Nat) (e : EnvT) (q : Nat → PR) (k : Nat) : Prop := ∀ p s, p ≤ tx.2 → q p = .inr s → CV K b L e s.2.1 (s.2.2.2 e) k
theorem gd_rng {tx : TX} {pr : Bool} {p : Nat} {r : PRS} {e : EnvT} (h : GdR tx pr p r) (he : eR e) : rng (r.2.2.2 e) := h.2.2.2.2.2.2.1 e he.1 he.2.1 he.2.2.1 he.2.2.2.1 he.2.2.2.2
theorem cq_lp {tx : TX} {pr : Bool} {K : KT} {P : Int → Mm → Prop} (hK : EKv K P) {b L : Nat} (hb : At shC NN b (.inl 0)) (hL : L ≤ 1000) {e : EnvT} (he : eR e) {q : Nat → PR} {op : Nat → Option (Int × Int)} {k : Nat} (hk : 1 ≤ k) (hGq : GdQ tx pr q) (hop : opG tx op) (h : CQ tx K b L e q k) {p : Nat} : ∀ m r, GdR tx pr p r → CV K b L e r.2.1 (r.2.2.2 e) (k + 1) → ∀ s, lp tx q op m r = .inr s → CV K b L e s.2.1 (s.2.2.2 e) (k + 1)
  | 0, r, hg, hr, s, hs => by rw [lp] at hs; cases hs; exact hr
  | m + 1, r, hg, hr, s, hs => by
    cases c : op r.1 with
    | none => rw [lp_n c] at hs; cases hs; exact hr
    | some cm =>
      have hoc := hop _ _ c
      have htp := tk_pos hg.2.1 hoc.1
      cases c2 : q (te_ tx r.1) with
      | inl f => rw [lp_f c c2] at hs; cases hs
      | inr r2 =>
        rw [lp_y c c2] at hs
        have g2 := (hGq _ htp.2).1 r2 c2
        exact cq_lp hK hb hL he hk hGq hop h m _ (join_g hg g2 hoc.1 hoc.2.1 hoc.2.2) (cv_join hK hb hL hoc.2.1 (gd_rng hg he) (gd_rng g2 he) hr (h _ _ htp.2 c2) hk) s hs
theorem cq_seq {tx : TX} {pr : Bool} {K : KT} {P : Int → Mm → Prop} (hK : EKv K P) {b L : Nat} (hb : At shC NN b (.inl 0)) (hL : L ≤ 1000) {e : EnvT} (he : eR e) {q : Nat → PR} {op : Nat → Option (Int × Int)} {k m : Nat} (hk : 1 ≤ k) (hGq : GdQ tx pr q) (hop : opG tx op) (h : CQ tx K b L e q k) : CQ tx K b L e (seqK tx q op m) (k + 1) := by
  intro p s hp hs
  cases c : q p with
  | inl f => rw [seq_f c] at hs; cases hs
  | inr r =>
    rw [seq_y c] at hs
    exact cq_lp hK hb hL he hk hGq hop h m r ((hGq p hp).1 r c) ((h p r hp c).wk (by omega)) s hs
theorem cq_E {tx : TX} {pr : Bool} {K : KT} {P : Int → Mm → Prop} (hK : EKv K P) {b L : Nat} (hb : At shC NN b (.inl 0)) (hL : L ≤ 1000) {e : EnvT} (he : eR e) {q : Nat → PR} {k : Nat} (hk : 1 ≤ k) (hGq : GdQ tx pr q) (h : CQ tx K b L e q k) : CQ tx K b L e (qE tx q) (k + 4) := by
  have g1 := seq_g hGq (opMul_g tx) 1000
  have g2 := seq_g g1 (opAdd_g tx) 1000
  have g3 := seq_g g2 (opCmp_g tx) 1
  have s1 := cq_seq (m := 1000) hK hb hL he hk hGq (opMul_g tx) h
  have s2 := cq_seq (m := 1000) hK hb hL he (by omega) g1 (opAdd_g tx) s1
  have s3 := cq_seq (m := 1) hK hb hL he (by omega) g2 (opCmp_g tx) s2
  exact cq_seq (m := 1000) hK hb hL he (by omega) g3 (opBoo_g tx) s3
theorem seq_in {tx : TX} {q : Nat → PR} {op : Nat → Option (Int × Int)} {k p : Nat} {s : PRS} (h : seqK tx q op k p = .inr s) : ∃ s', q p = .inr s' := by
  cases c : q p with
  | inl f => rw [seq_f c] at h; cases h
  | inr r => exact ⟨r, rfl⟩
theorem p0_no {tx : TX} {pr : Bool} {p : Nat} {s : PRS} : pPart tx pr 0 p ≠ .inr s := by
  rw [pPart_0]
  split
  · exact fun z => by cases z
  · exact fun z => by cases z
theorem qE0_no {tx : TX} {pr : Bool} {p : Nat} {s : PRS} : qE tx (pPart tx pr 0) p ≠ .inr s := by
  intro h
  obtain ⟨s1, h1⟩ := seq_in h
  obtain ⟨s2, h2⟩ := seq_in h1
  obtain ⟨s3, h3⟩ := seq_in h2
  obtain ⟨s4, h4⟩ := seq_in h3
  exact p0_no h4
theorem cq_part {tx : TX} {pr : Bool} {K : KT} {P : Int → Mm → Prop} (hK : EKv K P) {b L : Nat} (hb : At shC NN b (.inl 0)) (hL : L ≤ 1000) {e : EnvT} (he : eR e) : ∀ d, CQ tx K b L e (pPart tx pr d) (4 * d - 3)
  | 0 => fun p s hp hs => absurd hs p0_no
  | d + 1 => by
    intro p s hp hs
    have ih := cq_part (tx := tx) (pr := pr) hK hb hL he d
    rw [pPart_s] at hs
    by_cases c : isS_ tx p 40 = true
    · rw [if_pos c] at hs
      have htp := tk_pos hp (by have := isS_k c; omega)
      cases c2 : qE tx (pPart tx pr d) (te_ tx p) with
      | inl f => rw [c2] at hs; cases hs
      | inr r =>
        rw [c2] at hs
        have hs2 : parR r tx = .inr s := hs
        cases d with
        | zero => exact absurd c2 qE0_no
        | succ d =>
          have := cq_E hK hb hL he (by omega) (pPart_g (pr := pr) (d + 1)) ih (te_ tx p) r htp.2 c2
          unfold parR at hs2
          split at hs2
          · cases hs2
            exact this.wk (by omega)
          · cases hs2
    · rw [if_neg c] at hs
      by_cases c1 : wo_ tx p = 19
      · rw [if_pos c1] at hs
        have htp := tk_pos hp (by have := wo_k (tx := tx) (p := p) (by omega); omega)
        cases c2 : pPart tx pr d (te_ tx p) with
        | inl f => rw [c2] at hs; cases hs
        | inr r =>
          rw [c2] at hs
          cases hs
          have g := (pPart_g (pr := pr) d (te_ tx p) htp.2).1 r c2
          cases d with
          | zero => exact absurd c2 p0_no
          | succ d => exact (cv_not hK hb hL (gd_rng g he) (ih (te_ tx p) r htp.2 c2) (by omega)).wk (by omega)
      · rw [if_neg c1] at hs
        cases c2 : lfc tx pr p with
        | none => rw [c2] at hs; cases hs
        | some x =>
          rw [c2] at hs
          cases hs
          exact (cv_leaf hK hb hL he hp c2).wk (by omega)
/-- the class's law comes to what was read -/
theorem LC_of {tx : TX} {pr : Bool} {b p : Nat} {M : Mm} {s : PRS} (hW : WX tx) (hb : At shC NN b (.inl 0)) (hp : p ≤ tx.2) (hs : qE tx (pPart tx pr 5) p = .inr s) (h3 : M b 3 = (s.2.1.length : Int)) (hc : ∀ i, i < s.2.1.length → M (b + 1) i = s.2.1.getD i 0) : LC M b (fun w d g bl wl => s.2.2.2 (fun i => if i = 0 then 1 else if i = 1 then w else if i = 2 then d else if i = 3 then g else if i = 4 then bl else wl)) := by
  have hlen := hW.1
  intro M0 e0 e1 w d g bl wl hw hd hg hbl hwl
  have gs := (qE_g (pPart_g (pr := pr) 5) p hp).1 s hs
  have he : eR (fun i => if i = 0 then 1 else if i = 1 then w else if i = 2 then d else if i = 3 then g else if i = 4 then bl else wl) := ⟨hw, hd, hg, hbl, hwl⟩
  have hr := gd_rng gs he
  have hl1 := gs.2.2.1
  have hl2 := gs.2.1
  refine e_Law_value b _ _ _ _ _ M0 fun K hK => w_Law_value_0 hK b hb _ _ _ _ _ M0 ?_
  have hCV := cq_E (tx := tx) hK hb (L := s.2.1.length) (by have := gs.2.2.1; have := gs.2.1; omega) he (by omega) (pPart_g (pr := pr) 5) (cq_part hK hb (by have := gs.2.2.1; have := gs.2.1; omega) he 5) p s hp hs
  refine hCV 0 0 M0 (by rw [e0]; exact h3) (by omega) (fun j hj => by rw [Nat.zero_add, e1]; exact hc j hj) (by omega) ?_
  intro M1 f1 _ v1
  refine w_Law_value_6 hK b hb _ _ _ _ _ _ _ M1 ?_
  rw [f1 b (by omega), e0, h3, v1]
  exact ⟨by omega, by omega, fun _ => ⟨by decide, fun z => absurd z (by decide), fun _ => ⟨rfl, hr, f1⟩⟩, fun z => by omega⟩
