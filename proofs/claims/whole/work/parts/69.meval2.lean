theorem w14 {K : KT} {P : Int → Mm → Prop} (hK : EKw K P) {ln L w i : Nat} {N : Mm} {m : Int} (hln : ln < 4) (hw : w < 7) (h12 : N 12 ln = (L : Int)) (hi : i < L) (hL : L ≤ 2000) (hm : N 13 i = m) (hr : 1 ≤ m ∧ m ≤ 10099)
    (c46 : m = 28 ∨ m = 30 → K NM RRM 46 [(0, vr 1), (1, vi (ln : Int)), (2, vi (w : Int)), (3, vi (i : Int)), (4, vi m)] [] N)
    (c89 : m = 20 ∨ m = 21 → K NM RRM 89 [(0, vr 1), (1, vi (ln : Int)), (2, vi (w : Int)), (3, vi (i : Int)), (4, vi m)] [] N)
    (c22 : m = 22 → k14 K ln w (i + 1) (upr N 23 (up1 (N 23) w 22)))
    (c137 : m = 24 ∨ m = 25 → K NM RRM 137 [(0, vr 1), (1, vi (ln : Int)), (2, vi (w : Int)), (3, vi (i : Int)), (4, vi m)] [] N)
    (c194 : m = 26 ∨ m = 27 → K NM RRM 194 [(0, vr 1), (1, vi (ln : Int)), (2, vi (w : Int)), (3, vi (i : Int)), (4, vi m)] [] N)
    (c243 : (m < 20 ∨ m = 29 ∨ 100 ≤ m ∨ m = 23 ∨ 31 ≤ m) → ∀ v : Int, (m < 20 → v = N 25 m.toNat) → (100 ≤ m → v = m - 100) → K NM RRM 243 [(0, vr 1), (1, vi (ln : Int)), (2, vi (w : Int)), (3, vi (i : Int)), (4, vi m)] [vi v] N) : k14 K ln w i N := by
  refine w_Mod_worked_14 hK _ _ _ N ?_
  rw [Int.toNat_natCast, Int.toNat_natCast, h12, hm]
  have rm : rng m := by omega
  refine ⟨by omega, by omega, by omega, fun z => by omega, fun _ => ⟨by omega, rm, fun z => c46 (Or.inl z), fun z => ⟨rm, fun z2 => ⟨rm, fun z3 => c89 (Or.inl z3), fun z3 => ⟨rm, fun z4 => ⟨rm, fun z5 => ⟨rm, fun z6 => c137 (Or.inl z6), fun z6 => ⟨rm, fun z7 => ⟨rm, fun z8 => c194 (Or.inl z8), fun z8 => ⟨rm, fun z9 => ⟨rm, fun y => ⟨rm, fun x => c243 (by omega) 0 (fun q => by omega) (fun q => by omega), fun x => ⟨by omega, c243 (by omega) _ (fun _ => rfl) (fun q => by omega)⟩⟩, fun y => c243 (by omega) _ (fun q => by omega) (fun _ => ?_)⟩, fun z9 => c194 (Or.inr z9)⟩⟩, fun z7 => c137 (Or.inr z7)⟩⟩, fun z5 => ⟨by omega, ?_⟩⟩, fun z4 => c89 (Or.inr z4)⟩⟩, fun z2 => c46 (Or.inr z2)⟩⟩⟩
  · show (Int32.ofInt m - Int32.ofInt 100).toInt = m - 100
    have : Int32.ofInt m - Int32.ofInt 100 = Int32.ofInt (m - 100) := by
      rw [← Int32.ofInt_sub]
    rw [this, oI (by omega)]
  · rintro N1 rfl
    rw [z5]
    exact c22 z5
abbrev Bw (w : Nat) (N : Mm) : Prop := w = 0 ∨ N 24 w = 0
abbrev S22 (c : Nat) : Prop := c = 22 ∨ c = 23
abbrev S20 (c : Nat) : Prop := 20 ≤ c ∧ c ≤ 23
abbrev S18 (c : Nat) : Prop := 18 ≤ c ∧ c ≤ 23
abbrev S16 (c : Nat) : Prop := 16 ≤ c ∧ c ≤ 23
theorem Bw.fr {S : Nat → Prop} {w : Nat} {N N' : Mm} (h : Bw w N) (f : fw S w N N') (hS : ¬ S 24) : Bw w N' := by
  rcases h with h | h
  · exact Or.inl h
  · exact Or.inr (by rw [f.2.2 24 (by omega) (by omega) hS]; exact h)
/-- a value at the depth of a row -/
theorem e268 {K : KT} {P : Int → Mm → Prop} (hK : EKw K P) {ln w i : Nat} {v : Int} {N : Mm} (hw : w < 7) (hB : Bw w N) (h23 : N 23 w = 0 ∨ N 23 w = 22) (c0 : N 23 w = 0 → k14 K ln w (i + 1) (upr N 22 (up1 (N 22) w v))) (c1 : N 23 w = 22 → k14 K ln w (i + 1) (upr N 22 (up1 (N 22) w (mulW (N 22 w) v)))) : k268 K ln w i v N := by
  have k300 : K NM RRM 300 [(0, vr 1), (1, vi (ln : Int)), (2, vi (w : Int)), (3, vi (i : Int)), (5, vi v)] [] N := by
    refine w_Mod_worked_300 hK _ _ _ _ N ?_
    rw [Int.toNat_natCast]
    refine ⟨by omega, by omega, fun z => ⟨by omega, by omega, ?_⟩, fun z => ⟨by omega, ?_⟩⟩
    · rintro N1 rfl; exact c1 (by omega)
    · rintro N1 rfl; exact c0 z
  refine w_Mod_worked_268 hK _ _ _ _ N ?_
  rw [Int.toNat_natCast]
  refine ⟨by omega, fun _ => k300, fun z => ⟨by omega, by omega, fun _ => k300, fun y => by omega⟩⟩
theorem addW0 {x : Int} (h : rng x) : addW 0 x = x := by
  unfold addW
  rw [show Int32.ofInt 0 = 0 from rfl, Int32.zero_add, oI h]
theorem jn7 (x y : Int) : jnI (-7) x y = if x = 0 then 0 else if y = 0 then 0 else 1 := by unfold jnI; rw [if_pos rfl]
theorem jn6 (x y : Int) : jnI (-6) x y = if x = y then 1 else 0 := by unfold jnI; rw [if_neg (show ¬ (-6 : Int) = -7 by decide), if_pos rfl]
theorem jn5 (x y : Int) : jnI (-5) x y = if x < y then 1 else 0 := by unfold jnI; rw [if_neg (show ¬ (-5 : Int) = -7 by decide), if_neg (show ¬ (-5 : Int) = -6 by decide), if_pos rfl]
theorem jn4 (x y : Int) : jnI (-4) x y = subW x y := by unfold jnI; rw [if_neg (show ¬ (-4 : Int) = -7 by decide), if_neg (show ¬ (-4 : Int) = -6 by decide), if_neg (show ¬ (-4 : Int) = -5 by decide), if_pos rfl]
theorem jn3 (x y : Int) : jnI (-3) x y = addW x y := by unfold jnI; rw [if_neg (show ¬ (-3 : Int) = -7 by decide), if_neg (show ¬ (-3 : Int) = -6 by decide), if_neg (show ¬ (-3 : Int) = -5 by decide), if_neg (show ¬ (-3 : Int) = -4 by decide), if_pos rfl]
theorem jn2 (x y : Int) : jnI (-2) x y = mulW x y := by unfold jnI; rw [if_neg (show ¬ (-2 : Int) = -7 by decide), if_neg (show ¬ (-2 : Int) = -6 by decide), if_neg (show ¬ (-2 : Int) = -5 by decide), if_neg (show ¬ (-2 : Int) = -4 by decide), if_neg (show ¬ (-2 : Int) = -3 by decide), if_pos rfl]
theorem jn8 (x y : Int) : jnI (-8) x y = if x ≠ 0 then 1 else if y = 0 then 0 else 1 := by unfold jnI; rw [if_neg (show ¬ (-8 : Int) = -7 by decide), if_neg (show ¬ (-8 : Int) = -6 by decide), if_neg (show ¬ (-8 : Int) = -5 by decide), if_neg (show ¬ (-8 : Int) = -4 by decide), if_neg (show ¬ (-8 : Int) = -3 by decide), if_neg (show ¬ (-8 : Int) = -2 by decide)]
theorem opMul_c {tx : TX} {p : Nat} {cm : Int × Int} (h : opMul tx p = some cm) : cm = (-2, 22) := by
  unfold opMul at h
  split at h
  · cases h; rfl
  · cases h
theorem opAdd_c {tx : TX} {p : Nat} {cm : Int × Int} (h : opAdd tx p = some cm) : cm = (-3, 20) ∨ cm = (-4, 21) := by
  unfold opAdd at h
  split at h
  · cases h; exact Or.inl rfl
  · split at h
    · cases h; exact Or.inr rfl
    · cases h
theorem opCmp_c {tx : TX} {p : Nat} {cm : Int × Int} (h : opCmp tx p = some cm) : cm = (-5, 24) ∨ cm = (-6, 25) := by
  unfold opCmp at h
  split at h
  · cases h; exact Or.inl rfl
  · split at h
    · cases h; exact Or.inr rfl
    · cases h
theorem opBoo_c {tx : TX} {p : Nat} {cm : Int × Int} (h : opBoo tx p = some cm) : cm = (-7, 26) ∨ cm = (-8, 27) := by
  unfold opBoo at h
  split at h
  · cases h; exact Or.inl rfl
  · split at h
    · cases h; exact Or.inr rfl
    · cases h
theorem mq_pro {tx : TX} {pr : Bool} {K : KT} {P : Int → Mm → Prop} (hK : EKw K P) {ln L w : Nat} (hln : ln < 4) (hL : L ≤ 2000) (hw : w < 7) {e : EnvT} (he : eR e) {q : Nat → PR} (hGq : GdQ tx pr q) (hq : ∀ p s, p ≤ tx.2 → q p = .inr s → MVP e K ln L w s.2.2.1 (s.2.2.2 e)) : MQ_ tx K ln L w S22 (fun N => N 23 w = 0 ∧ Bw w N) (fun v N => N 22 w = v) e (qPro tx q) := by
  refine mq_seq (B := Bw w) he 1000 hGq (opMul_g tx) (fun N N' h f => h.2.fr f (by omega)) (fun p s hp hs => ?_) (fun p cm hcm p2 s hp2 hs => ?_)
  · have g := (hGq p hp).1 s hs
    have hl : 1 ≤ s.2.2.1.length := g.2.2.2.2.2.1
    intro i N hc hA cont
    refine hq p s hp hs i N hc (fun N1 f1 => ?_)
    have e23 : N1 23 w = 0 := by rw [f1.2.2 23 (by omega) (by omega) (fun z => z)]; exact hA.1
    refine e268 hK hw (hA.2.fr f1 (fun z => z)) (Or.inl e23) (fun _ => ?_) (fun z => by omega)
    rw [show i + s.2.2.1.length - 1 + 1 = i + s.2.2.1.length by omega]
    refine cont _ ((f1.wk (fun c z => z.elim)).tr (fw.up (by omega) (Or.inl rfl))) ?_
    show (upr N1 22 _) 22 w = _
    rw [upr_eq, if_pos rfl, up1_eq, if_pos rfl]
  · have g := (hGq p2 hp2).1 s hs
    have hl : 1 ≤ s.2.2.1.length := g.2.2.2.2.2.1
    rw [opMul_c hcm]
    intro v1 i N hv1 hZ hB hc cont
    have hlen := hc.2.1
    rw [List.length_cons] at hlen
    have hm : N 13 i = 22 := by
      have := hc.2.2 0 (by rw [List.length_cons]; omega)
      rw [Nat.add_zero] at this
      exact this
    refine w14 hK hln hw hc.1.1 (by omega) hL hm (by decide) (fun z => by omega) (fun z => by omega) (fun _ => ?_) (fun z => by omega) (fun z => by omega) (fun z => by omega)
    have f0 : fw S22 w N (upr N 23 (up1 (N 23) w 22)) := fw.up (by omega) (Or.inr rfl)
    have hc1 : cdM e ln L (i + 1) s.2.2.1 (upr N 23 (up1 (N 23) w 22)) := (show cdM e ln L (i + [(22 : Int)].length) s.2.2.1 N from cdM.r (ms := [22]) hc).fr f0
    refine hq p2 s hp2 hs (i + 1) _ hc1 (fun N1 f1 => ?_)
    have e23 : N1 23 w = 22 := by rw [f1.2.2 23 (by omega) (by omega) (fun z => z), upr_eq, if_pos rfl, up1_eq, if_pos rfl]
    have e22 : N1 22 w = v1 := by rw [f1.2.2 22 (by omega) (by omega) (fun z => z), upr_eq, if_neg (by omega)]; exact hZ
    refine e268 hK hw ((hB.fr f0 (by omega)).fr f1 (fun z => z)) (Or.inr e23) (fun z => by omega) (fun _ => ?_)
    rw [show i + 1 + s.2.2.1.length - 1 + 1 = i + (s.2.2.1.length + 1) by omega, e22]
    refine cont _ ((f0.tr (f1.wk (fun c z => z.elim))).tr (fw.up (by omega) (Or.inl rfl))) ?_
    show (upr N1 22 _) 22 w = jnI (-2) _ _
    rw [upr_eq, if_pos rfl, up1_eq, if_pos rfl, jn2]
abbrev As (w : Nat) (N : Mm) : Prop := N 20 w = 0 ∧ N 21 w = 20 ∧ N 23 w = 0 ∧ Bw w N
abbrev ZS (w : Nat) (v : Int) (N : Mm) : Prop := rng (N 21 w) ∧ pS N w = v
theorem mq_sum {tx : TX} {pr : Bool} {K : KT} {P : Int → Mm → Prop} (hK : EKw K P) {ln L w : Nat} (hln : ln < 4) (hL : L ≤ 2000) (hw : w < 7) {e : EnvT} (he : eR e) {q : Nat → PR} (hGq : GdQ tx pr q) (hq : MQ_ tx K ln L w S22 (fun N => N 23 w = 0 ∧ Bw w N) (fun v N => N 22 w = v) e q) : MQ_ tx K ln L w S20 (As w) (ZS w) e (seqK tx q (opAdd tx) 1000) := by
  refine mq_seq (B := Bw w) he 1000 hGq (opAdd_g tx) (fun N N' h f => h.2.2.2.fr f (by omega)) (fun p s hp hs => ?_) (fun p cm hcm p2 s hp2 hs => ?_)
  · have g := (hGq p hp).1 s hs
    intro i N hc hA cont
    refine hq p s hp hs i N hc ⟨hA.2.2.1, hA.2.2.2⟩ (fun N1 f1 z1 => cont N1 (f1.wk (fun c hc => by omega)) ?_)
    have e20 : N1 20 w = 0 := by rw [f1.2.2 20 (by omega) (by omega) (by omega)]; exact hA.1
    have e21 : N1 21 w = 20 := by rw [f1.2.2 21 (by omega) (by omega) (by omega)]; exact hA.2.1
    refine ⟨by rw [e21]; decide, ?_⟩
    unfold pS
    rw [if_neg (by omega), e20, z1, addW0 (gd_rng g he)]
  · intro v1 i N hv1 hZ hB hc cont
    have hlen := hc.2.1
    rw [List.length_cons] at hlen
    have hm : N 13 i = cm.2 := by
      have := hc.2.2 0 (by rw [List.length_cons]; omega)
      rw [Nat.add_zero] at this
      exact this
    have hcc := opAdd_c hcm
    have hcm2 : cm.2 = 20 ∨ cm.2 = 21 := by rcases hcc with h | h <;> rw [h] <;> simp
    refine w14 hK hln hw hc.1.1 (by omega) hL hm (by omega) (fun z => by omega) (fun _ => ?_) (fun z => by omega) (fun z => by omega) (fun z => by omega) (fun z => by omega)
    refine w_Mod_worked_89 hK _ _ _ _ N ⟨_, m_sums hw hZ.1, ?_⟩
    intro N1 g1
    refine ⟨by omega, ?_⟩
    intro N2 g2
    rw [Int.toNat_natCast] at g2
    have f1 : fw S20 w N N1 := by rw [g1]; exact (fw.up (by omega) (by omega)).tr (fw.up (by omega) (by omega))
    have f2 : fw S20 w N N2 := f1.tr (by rw [g2]; exact fw.up (by omega) (by omega))
    have e20 : N2 20 w = v1 := by rw [g2, upr_eq, if_neg (by omega), g1, upr_eq, if_neg (by omega), upr_eq, if_pos rfl, up1_eq, if_pos rfl]; exact hZ.2
    have e21 : N2 21 w = cm.2 := by rw [g2, upr_eq, if_pos rfl, up1_eq, if_pos rfl]
    have e23 : N2 23 w = 0 := by rw [g2, upr_eq, if_neg (by omega), g1, upr_eq, if_pos rfl, up1_eq, if_pos rfl]
    have hc2 : cdM e ln L (i + 1) s.2.2.1 N2 := (show cdM e ln L (i + [cm.2].length) s.2.2.1 N from cdM.r (ms := [cm.2]) hc).fr f2
    refine hq p2 s hp2 hs (i + 1) N2 hc2 ⟨e23, hB.fr f2 (by omega)⟩ (fun N3 f3 z3 => ?_)
    have := cont N3 (f2.tr (f3.wk (fun c hc => by omega))) ⟨by rw [f3.2.2 21 (by omega) (by omega) (by omega), e21]; omega, ?_⟩
    · rw [show i + 1 + s.2.2.1.length = i + (s.2.2.1.length + 1) by omega]
      exact this
    · unfold pS
      rw [f3.2.2 21 (by omega) (by omega) (by omega), e21, f3.2.2 20 (by omega) (by omega) (by omega), e20, z3]
      rcases hcc with h | h
      · rw [h]
        show (if (20 : Int) = 21 then _ else _) = jnI (-3) _ _
        rw [if_neg (show ¬ (20 : Int) = 21 by decide), jn3]
      · rw [h]
        show (if (21 : Int) = 21 then _ else _) = jnI (-4) _ _
        rw [if_pos rfl, jn4]
abbrev At_ (w : Nat) (N : Mm) : Prop := N 19 w = 0 ∧ As w N
abbrev ZT (w : Nat) (v : Int) (N : Mm) : Prop := okT N w ∧ pT N w = v
theorem mq_tst {tx : TX} {pr : Bool} {K : KT} {P : Int → Mm → Prop} (hK : EKw K P) {ln L w : Nat} (hln : ln < 4) (hL : L ≤ 2000) (hw : w < 7) {e : EnvT} (he : eR e) {q : Nat → PR} (hGq : GdQ tx pr q) (hq : MQ_ tx K ln L w S20 (As w) (ZS w) e q) : MQ_ tx K ln L w S18 (At_ w) (ZT w) e (seqK tx q (opCmp tx) 1) := by
  intro p s hp hs
  cases c : q p with
  | inl f => rw [seq_f c] at hs; cases hs
  | inr r =>
    rw [seq_y c] at hs
    have gr := (hGq p hp).1 r c
    have fst : ∀ i N, cdM e ln L i r.2.2.1 N → At_ w N → (∀ N', fw S18 w N N' → N' 19 w = 0 → ZS w (r.2.2.2 e) N' → k14 K ln w (i + r.2.2.1.length) N') → k14 K ln w i N := by
      intro i N hc hA cont
      refine hq p r hp c i N hc hA.2 (fun N1 f1 z1 => cont N1 (f1.wk (fun c hc => by omega)) ?_ z1)
      rw [f1.2.2 19 (by omega) (by omega) (by omega)]; exact hA.1
    cases c1 : opCmp tx r.1 with
    | none =>
      rw [lp_n c1] at hs
      cases hs
      intro i N hc hA cont
      refine fst i N hc hA (fun N1 f1 h19 z1 => cont N1 f1 ⟨⟨z1.1, Or.inl h19⟩, ?_⟩)
      unfold pT
      rw [if_neg (by omega), if_neg (by omega)]; exact z1.2
    | some cm =>
      have hoc := opCmp_g tx _ _ c1
      have htp := tk_pos gr.2.1 hoc.1
      cases c2 : q (te_ tx r.1) with
      | inl f => rw [lp_f c1 c2] at hs; cases hs
      | inr r2 =>
        rw [lp_y c1 c2, lp] at hs
        cases hs
        have hcc := opCmp_c c1
        have hcm2 : cm.2 = 24 ∨ cm.2 = 25 := by rcases hcc with h | h <;> rw [h] <;> simp
        intro i N hc hA cont
        have hc' : cdM e ln L i (r.2.2.1 ++ cm.2 :: r2.2.2.1) N := hc
        refine fst i N hc'.l hA (fun N1 f1 h19 z1 => ?_)
        have hcr := hc'.r.fr f1
        have hlen := hcr.2.1
        rw [List.length_cons] at hlen
        have hm : N1 13 (i + r.2.2.1.length) = cm.2 := by
          have := hcr.2.2 0 (by rw [List.length_cons]; omega)
          rw [Nat.add_zero] at this
          exact this
        refine w14 hK hln hw hcr.1.1 (by omega) hL hm (by omega) (fun z => by omega) (fun z => by omega) (fun z => by omega) (fun _ => ?_) (fun z => by omega) (fun z => by omega)
        refine w_Mod_worked_137 hK _ _ _ _ N1 ⟨_, m_sums hw z1.1, ?_⟩
        intro N2 g2
        rw [Int.toNat_natCast]
        refine ⟨by omega, by omega, ?_⟩
        intro N3 g3
        refine ⟨by omega, ?_⟩
        intro N4 g4
        refine ⟨by omega, ?_⟩
        intro N5 g5
        refine ⟨by omega, ?_⟩
        intro N6 g6
        have e220 : N2 20 w = r.2.2.2 e := by rw [g2, upr_eq, if_neg (by omega), upr_eq, if_pos rfl, up1_eq, if_pos rfl]; exact z1.2
        have e18 : N6 18 w = r.2.2.2 e := by rw [g6, upr_eq, if_neg (by omega), g5, upr_eq, if_neg (by omega), g4, upr_eq, if_neg (by omega), g3, upr_eq, if_pos rfl, up1_eq, if_pos rfl]; exact e220
        have e19 : N6 19 w = cm.2 := by rw [g6, upr_eq, if_neg (by omega), g5, upr_eq, if_neg (by omega), g4, upr_eq, if_pos rfl, up1_eq, if_pos rfl]
        have e20 : N6 20 w = 0 := by rw [g6, upr_eq, if_neg (by omega), g5, upr_eq, if_pos rfl, up1_eq, if_pos rfl]
        have e21 : N6 21 w = 20 := by rw [g6, upr_eq, if_pos rfl, up1_eq, if_pos rfl]
        have e23 : N6 23 w = 0 := by rw [g6, upr_eq, if_neg (by omega), g5, upr_eq, if_neg (by omega), g4, upr_eq, if_neg (by omega), g3, upr_eq, if_neg (by omega), g2, upr_eq, if_pos rfl, up1_eq, if_pos rfl]
        have f6 : fw S18 w N1 N6 := by
          rw [g6, g5, g4, g3, g2]
          exact (((((fw.up (by omega) (by omega)).tr (fw.up (by omega) (by omega))).tr (fw.up (by omega) (by omega))).tr (fw.up (by omega) (by omega))).tr (fw.up (by omega) (by omega))).tr (fw.up (by omega) (by omega))
        have hB : Bw w N6 := (hA.2.2.2.2.fr f1 (by omega)).fr f6 (by omega)
        have hc6 : cdM e ln L (i + r.2.2.1.length + 1) r2.2.2.1 N6 := (show cdM e ln L (i + r.2.2.1.length + [cm.2].length) r2.2.2.1 N1 from cdM.r (ms := [cm.2]) hcr).fr f6
        refine hq (te_ tx r.1) r2 htp.2 c2 _ N6 hc6 ⟨e20, e21, e23, hB⟩ (fun N7 f7 z7 => ?_)
        have e719 : N7 19 w = cm.2 := by rw [f7.2.2 19 (by omega) (by omega) (by omega)]; exact e19
        have e718 : N7 18 w = r.2.2.2 e := by rw [f7.2.2 18 (by omega) (by omega) (by omega)]; exact e18
        have hv1 := gd_rng gr he
        have := cont N7 ((f1.tr f6).tr (f7.wk (fun c hc => by omega))) ⟨⟨z7.1, Or.inr ⟨by omega, by rw [e718]; exact hv1⟩⟩, ?_⟩
        · have hidx : i + (joinR r r2 cm).2.2.1.length = i + r.2.2.1.length + 1 + r2.2.2.1.length := by
            show i + (r.2.2.1 ++ cm.2 :: r2.2.2.1).length = _
            rw [List.length_append, List.length_cons]; omega
          rw [hidx] at this
          exact this
        · show pT N7 w = jnI cm.1 (r.2.2.2 e) (r2.2.2.2 e)
          unfold pT
          rw [e719, e718, z7.2]
          rcases hcc with h | h
          · rw [h]
            show (if (24 : Int) = 24 then _ else _) = jnI (-5) _ _
            rw [if_pos rfl, jn5]
            by_cases y : r2.2.2.2 e ≤ r.2.2.2 e
            · rw [if_pos y, if_neg (by omega)]
            · rw [if_neg y, if_pos (by omega)]
          · rw [h]
            show (if (25 : Int) = 24 then _ else if (25 : Int) = 25 then _ else _) = jnI (-6) _ _
            rw [if_neg (show ¬ (25 : Int) = 24 by decide), if_pos rfl, jn6]
abbrev Ae (w : Nat) (N : Mm) : Prop := N 17 w = 0 ∧ At_ w N
abbrev ZE (w : Nat) (v : Int) (N : Mm) : Prop := okE N w ∧ pB N w (pT N w) = v
theorem mq_boo {tx : TX} {pr : Bool} {K : KT} {P : Int → Mm → Prop} (hK : EKw K P) {ln L w : Nat} (hln : ln < 4) (hL : L ≤ 2000) (hw : w < 7) {e : EnvT} (he : eR e) {q : Nat → PR} (hGq : GdQ tx pr q) (hq : MQ_ tx K ln L w S18 (At_ w) (ZT w) e q) : MQ_ tx K ln L w S16 (Ae w) (ZE w) e (seqK tx q (opBoo tx) 1000) := by
  refine mq_seq (B := Bw w) he 1000 hGq (opBoo_g tx) (fun N N' h f => h.2.2.2.2.2.fr f (by omega)) (fun p s hp hs => ?_) (fun p cm hcm p2 s hp2 hs => ?_)
  · intro i N hc hA cont
    refine hq p s hp hs i N hc hA.2 (fun N1 f1 z1 => cont N1 (f1.wk (fun c hc => by omega)) ?_)
    have e17 : N1 17 w = 0 := by rw [f1.2.2 17 (by omega) (by omega) (by omega)]; exact hA.1
    refine ⟨⟨z1.1, Or.inl e17⟩, ?_⟩
    unfold pB
    rw [if_neg (by omega), if_neg (by omega)]; exact z1.2
  · intro v1 i N hv1 hZ hB hc cont
    have hlen := hc.2.1
    rw [List.length_cons] at hlen
    have hm : N 13 i = cm.2 := by
      have := hc.2.2 0 (by rw [List.length_cons]; omega)
      rw [Nat.add_zero] at this
      exact this
    have hcc := opBoo_c hcm
    have hcm2 : cm.2 = 26 ∨ cm.2 = 27 := by rcases hcc with h | h <;> rw [h] <;> simp
    refine w14 hK hln hw hc.1.1 (by omega) hL hm (by omega) (fun z => by omega) (fun z => by omega) (fun z => by omega) (fun z => by omega) (fun _ => ?_) (fun z => by omega)
    refine w_Mod_worked_194 hK _ _ _ _ N ⟨_, m_tests hw hZ.1, ?_⟩
    rintro N1 ⟨t16, t17, t19, t20, t21, t23, f1⟩
    refine ⟨by omega, ?_⟩
    intro N2 g2
    rw [Int.toNat_natCast] at g2
    have f2 : fw S16 w N N2 := (f1.wk (fun c hc => by omega)).tr (by rw [g2]; exact fw.up (by omega) (by omega))
    have e16 : N2 16 w = v1 := by rw [g2, upr_eq, if_neg (by omega), t16]; exact hZ.2
    have e17 : N2 17 w = cm.2 := by rw [g2, upr_eq, if_pos rfl, up1_eq, if_pos rfl]
    have hAt : At_ w N2 := by
      refine ⟨?_, ?_, ?_, ?_, hB.fr f2 (by omega)⟩ <;> rw [g2, upr_eq, if_neg (by omega)] <;> assumption
    have hc2 : cdM e ln L (i + 1) s.2.2.1 N2 := (show cdM e ln L (i + [cm.2].length) s.2.2.1 N from cdM.r (ms := [cm.2]) hc).fr f2
    refine hq p2 s hp2 hs (i + 1) N2 hc2 hAt (fun N3 f3 z3 => ?_)
    have e317 : N3 17 w = cm.2 := by rw [f3.2.2 17 (by omega) (by omega) (by omega)]; exact e17
    have e316 : N3 16 w = v1 := by rw [f3.2.2 16 (by omega) (by omega) (by omega)]; exact e16
    have := cont N3 (f2.tr (f3.wk (fun c hc => by omega))) ⟨⟨z3.1, Or.inr ⟨by omega, by rw [e316]; exact hv1⟩⟩, ?_⟩
    · rw [show i + 1 + s.2.2.1.length = i + (s.2.2.1.length + 1) by omega]
      exact this
    · unfold pB
      rw [e317, e316, z3.2]
      rcases hcc with h | h
      · rw [h]
        show (if (26 : Int) = 26 then _ else _) = jnI (-7) _ _
        rw [if_pos rfl, jn7]
      · rw [h]
        show (if (27 : Int) = 26 then _ else if (27 : Int) = 27 then _ else _) = jnI (-8) _ _
        rw [if_neg (show ¬ (27 : Int) = 26 by decide), if_pos rfl, jn8]
theorem mq_E {tx : TX} {pr : Bool} {K : KT} {P : Int → Mm → Prop} (hK : EKw K P) {ln L w : Nat} (hln : ln < 4) (hL : L ≤ 2000) (hw : w < 7) {e : EnvT} (he : eR e) {q : Nat → PR} (hGq : GdQ tx pr q) (hq : ∀ p s, p ≤ tx.2 → q p = .inr s → MVP e K ln L w s.2.2.1 (s.2.2.2 e)) : MQ_ tx K ln L w S16 (Ae w) (ZE w) e (qE tx q) := by
  have g1 := seq_g hGq (opMul_g tx) 1000
  have g2 := seq_g g1 (opAdd_g tx) 1000
  have g3 := seq_g g2 (opCmp_g tx) 1
  have s1 := mq_pro hK hln hL hw he hGq hq
  have s2 := mq_sum hK hln hL hw he g1 s1
  have s3 := mq_tst hK hln hL hw he g2 s2
  exact mq_boo hK hln hL hw he g3 s3
