theorem law_at {b : Nat} (h : At shC NN b (.inl 0)) : 12 ≤ b ∧ b + 2 ≤ 31 := by
  have : ∀ b, b ≤ 200 → shC b = .inl 0 → 12 ≤ b ∧ b + 2 ≤ 31 := by decide +kernel
  exact this b h.2.2 h.1
theorem c_isSign {tx : TX} {p : Nat} {M : Mm} {c : Int} (hW : WX tx) (hp : p ≤ tx.2) (hT : TpC tx p M) (hc : rng c) : S_Tape_isSign 2 c M (fun r M' => M' = M ∧ r = zo (isS_ tx p c)) := by
  obtain ⟨-, -, -, -, h5, -, -, -, h11⟩ := hT
  have hk : tk_ tx p ≤ 4 := by
    unfold tk_
    split
    · omega
    · split
      · split <;> omega
      · split
        · split <;> omega
        · split <;> omega
  refine W_Tape_isSign 2 atC_2 _ M ?_
  rw [h5]
  unfold isS_
  refine ⟨by omega, fun z => ⟨rfl, ?_⟩, fun z => ?_⟩
  · rw [decide_eq_false (by omega)]; rfl
  · have h4 : tk_ tx p = 4 := by omega
    have hv := tv_sg hp hW h4
    rw [h11 h4]
    refine ⟨by omega, hc, fun z2 => ⟨rfl, ?_⟩, fun z2 => ⟨rfl, ?_⟩⟩
    · rw [decide_eq_false (fun y => z2 y.2)]; rfl
    · rw [decide_eq_true ⟨h4, z2⟩]; rfl
theorem tk_le {tx : TX} {p : Nat} : tk_ tx p ≤ 4 := by
  unfold tk_
  split
  · omega
  · split
    · split <;> omega
    · split
      · split <;> omega
      · split <;> omega
theorem c_fail {tx : TX} {p : Nat} {M : Mm} {k : Int} (hT : TpC tx p M) : S_Tape_fail 2 k M (fun r M' => r = 0 ∧ M' 2 10 = k + 16 * (tb_ tx p : Int) ∧ M' 2 1 = M 2 1 ∧ FrC (fun c => c = 2) M M') := by
  refine W_Tape_fail 2 atC_2 _ M ?_
  rintro M1 rfl
  refine ⟨rfl, ?_, ?_, FrC.up rfl⟩ <;> rw [upr_eq, if_pos rfl, up1_eq]
  · rw [if_pos rfl, hT.2.2.1]
  · rw [if_neg (by omega)]
theorem c_adv {tx : TX} {p : Nat} {M : Mm} (hW : WX tx) (hp : p ≤ tx.2) (hT : TpC tx p M) : S_Tape_advance 2 M (fun M' => TpC tx (te_ tx p) M' ∧ fr2 M M') := c_advance hW hT.1 hT.2.1 hT.2.2.2.1 (te_ok hp).2.2.1
/-- codes came behind -/
def app (b n : Nat) (M M' : Mm) (cs : List Int) : Prop := M' b 3 = ((n + cs.length : Nat) : Int) ∧ (∀ i, i < n → M' (b + 1) i = M (b + 1) i) ∧ ∀ i, i < cs.length → M' (b + 1) (n + i) = cs.getD i 0
theorem getD_l {l l' : List Int} {i : Nat} {d : Int} (h : i < l.length) : (l ++ l').getD i d = l.getD i d := by
  rw [List.getD_eq_getElem?_getD, List.getD_eq_getElem?_getD, List.getElem?_append_left h]
theorem getD_r {l l' : List Int} {i : Nat} {d : Int} (h : l.length ≤ i) : (l ++ l').getD i d = l'.getD (i - l.length) d := by
  rw [List.getD_eq_getElem?_getD, List.getD_eq_getElem?_getD, List.getElem?_append_right h]
theorem app.tr {b n : Nat} {M M1 M2 : Mm} {cs cs2 : List Int} (h1 : app b n M M1 cs) (h2 : app b (n + cs.length) M1 M2 cs2) : app b n M M2 (cs ++ cs2) := by
  obtain ⟨a1, a2, a3⟩ := h1
  obtain ⟨b1, b2, b3⟩ := h2
  refine ⟨by rw [b1, List.length_append]; omega, fun i hi => by rw [b2 i (by omega)]; exact a2 i hi, fun i hi => ?_⟩
  rw [List.length_append] at hi
  by_cases c : i < cs.length
  · rw [b2 (n + i) (by omega), a3 i c, getD_l c]
  · rw [getD_r (by omega)]
    have := b3 (i - cs.length) (by omega)
    rw [← this]
    congr 1; omega
theorem app.nil {b n : Nat} {M : Mm} (h : M b 3 = (n : Int)) : app b n M M [] := ⟨by rw [h]; rfl, fun _ _ => rfl, fun i hi => by cases hi⟩
theorem app.fr {b n : Nat} {M M1 M2 : Mm} {cs : List Int} (h : app b n M M1 cs) (e0 : M2 b 3 = M1 b 3) (e1 : M2 (b + 1) = M1 (b + 1)) : app b n M M2 cs := by
  unfold app
  rw [e0, e1]; exact h
theorem c_add {b n : Nat} {M : Mm} {x : Int} (hb : At shC NN b (.inl 0)) (h : M b 3 = (n : Int)) (hn : n < 1000) : S_Law_add b x M (fun M' => app b n M M' [x] ∧ FrC (fun c => c = b ∨ c = b + 1) M M' ∧ M' b 0 = M b 0) := by
  refine W_Law_add b hb _ M ?_
  rw [h, Int.toNat_natCast]
  refine ⟨by omega, fun z => by omega, fun _ => ⟨by omega, ?_⟩⟩
  rintro M1 rfl M2 rfl
  refine ⟨⟨?_, fun i hi => ?_, fun i hi => ?_⟩, (FrC.up (c := b + 1) (Or.inr rfl)).tr (FrC.up (c := b) (Or.inl rfl)), ?_⟩
  · rw [upr_eq, if_pos rfl, up1_eq, if_pos rfl, upr_eq, if_neg (by omega), h]; rfl
  · rw [upr_eq, if_neg (by omega), upr_eq, if_pos rfl, up1_eq, if_neg (by omega)]
  · have : i = 0 := by
      have : i < 1 := hi
      omega
    subst this
    rw [upr_eq, if_neg (by omega), upr_eq, if_pos rfl, up1_eq, if_pos (by omega)]; rfl
  · rw [upr_eq, if_pos rfl, up1_eq, if_neg (by omega), upr_eq, if_neg (by omega)]
def PoC (tx : TX) (b n : Nat) (M : Mm) (res : PR) (r : Int) (M' : Mm) : Prop := FrC (fun c => c = 2 ∨ c = b ∨ c = b + 1) M M' ∧ M' b 0 = M b 0 ∧ M' 2 1 = M 2 1 ∧ (∀ f, res = .inl f → r = 0 ∧ M' 2 10 = (f.1 : Int) + 16 * (f.2 : Int)) ∧ (∀ s, res = .inr s → r = 1 ∧ TpC tx s.1 M' ∧ app b n M M' s.2.1)
/-- where a reader stands in the middle -/
def MidC (tx : TX) (b n : Nat) (M : Mm) (s : PRS) (M' : Mm) : Prop := FrC (fun c => c = 2 ∨ c = b ∨ c = b + 1) M M' ∧ M' b 0 = M b 0 ∧ M' 2 1 = M 2 1 ∧ TpC tx s.1 M' ∧ app b n M M' s.2.1
abbrev HQ (tx : TX) (b : Nat) (pr : Bool) (q : Nat → PR) (S : Mm → (Int → Mm → Prop) → Prop) : Prop := ∀ p n M, p ≤ tx.2 → n ≤ p → TpC tx p M → M b 3 = (n : Int) → M b 0 = zo pr → S M (PoC tx b n M (q p))
theorem MidC.adv {tx : TX} {b n : Nat} {M M1 M2 : Mm} {s : PRS} (hb : 12 ≤ b) (h : MidC tx b n M s M1) (hT : TpC tx (te_ tx s.1) M2) (hf : fr2 M1 M2) : MidC tx b n M (te_ tx s.1, s.2) M2 :=
  ⟨h.1.tr (hf.1.wk (fun c hc => Or.inl hc)), by rw [hf.1 b (by omega)]; exact h.2.1, by rw [hf.2.1]; exact h.2.2.1, hT, h.2.2.2.2.fr (by rw [hf.1 b (by omega)]) (hf.1 (b + 1) (by omega))⟩
/-- an operand behind an operator: what is read together -/
theorem mid_join {tx : TX} {pr : Bool} {b n p : Nat} {M M1 M2 M3 : Mm} {s s2 : PRS} {cm : Int × Int} (h1 : MidC tx b n M (te_ tx s.1, s.2) M1) (h2 : PoC tx b (n + s.2.1.length) M1 (.inr s2) 1 M2) (h3 : app b (n + s.2.1.length + s2.2.1.length) M2 M3 [cm.1] ∧ FrC (fun c => c = b ∨ c = b + 1) M2 M3 ∧ M3 b 0 = M2 b 0) (hb : 12 ≤ b) : MidC tx b n M (joinR s s2 cm) M3 := by
  obtain ⟨a1, a2, a3, a4, a5⟩ := h1
  obtain ⟨b1, b2, b3, -, b5⟩ := h2
  obtain ⟨-, c2, c3⟩ := b5 s2 rfl
  obtain ⟨d1, d2, d3⟩ := h3
  refine ⟨(a1.tr b1).tr (d2.wk (fun c hc => Or.inr hc)), by rw [d3, b2]; exact a2, by rw [d2 2 (by omega), b3]; exact a3, ?_, ?_⟩
  · obtain ⟨e1, e2, e3⟩ := c2
    refine ⟨fun j hj => by rw [d2 3 (by omega)]; exact e1 j hj, ?_⟩
    rw [d2 2 (by omega)]; exact ⟨e2, e3⟩
  · have h12 := a5.tr c3
    have h123 := h12.tr (by rw [List.length_append, ← Nat.add_assoc]; exact d1)
    exact h123
theorem PoC_inl {tx : TX} {b n : Nat} {M M1 M2 : Mm} {s : PRS} {f : Nat × Nat} {n2 : Nat} {r : Int} (h1 : MidC tx b n M s M1) (h2 : PoC tx b n2 M1 (.inl f) r M2) : PoC tx b n M (.inl f) 0 M2 := by
  obtain ⟨a1, a2, a3, a4, a5⟩ := h1
  obtain ⟨b1, b2, b3, b4, -⟩ := h2
  exact ⟨a1.tr b1, by rw [b2]; exact a2, by rw [b3]; exact a3, fun f' e => by cases e; exact ⟨rfl, (b4 f rfl).2⟩, fun s e => by cases e⟩
theorem PoC_mid {tx : TX} {b n : Nat} {M M1 : Mm} {s : PRS} (h : MidC tx b n M s M1) : PoC tx b n M (.inr s) 1 M1 := ⟨h.1, h.2.1, h.2.2.1, fun f e => (by cases e), fun s' e => by cases e; exact ⟨rfl, h.2.2.2.1, h.2.2.2.2⟩⟩
theorem mid_PoC {tx : TX} {b n : Nat} {M M1 : Mm} {s : PRS} {r : Int} (h : PoC tx b n M (.inr s) r M1) : r = 1 ∧ MidC tx b n M s M1 := ⟨(h.2.2.2.2 s rfl).1, h.1, h.2.1, h.2.2.1, (h.2.2.2.2 s rfl).2⟩
theorem PoC_r {tx : TX} {b n : Nat} {M M1 : Mm} {q : PR} {r : Int} (h : PoC tx b n M q r M1) : r = 0 ∨ r = 1 := by
  cases q with
  | inl f => exact Or.inl (h.2.2.2.1 f rfl).1
  | inr s => exact Or.inr (h.2.2.2.2 s rfl).1
/-- one turn of a class's loop: the operator, the operand, the code -/
theorem c_turn {tx : TX} {pr : Bool} {b n p : Nat} {M M1 : Mm} {s : PRS} {q : Nat → PR} {cm : Int × Int} {S : Mm → (Int → Mm → Prop) → Prop} {Z : Int → Mm → Prop} {Y : Mm → Prop} (hW : WX tx) (hb : At shC NN b (.inl 0)) (hnp : n ≤ p) (hg : GdR tx pr p s) (hGq : GdQ tx pr q) (hq : HQ tx b pr q S) (ht : tk_ tx s.1 ≠ 0) (hm : MidC tx b n M s M1) (h0 : M b 0 = zo pr)
    (yes : ∀ s2, q (te_ tx s.1) = .inr s2 → ∀ M3, MidC tx b n M (joinR s s2 cm) M3 → Y M3) (no : ∀ f, q (te_ tx s.1) = .inl f → ∀ M2, PoC tx b n M (.inl f) 0 M2 → Z 0 M2) :
    ∃ P1 : Mm → Prop, S_Tape_advance 2 M1 P1 ∧ ∀ M1 : Mm, P1 M1 → ∃ P2 : Int → Mm → Prop, S M1 P2 ∧ ∀ (r2 : Int) (M2 : Mm), P2 r2 M2 → (rng r2) ∧ (r2 ≠ 0 → (∃ P3 : Mm → Prop, S_Law_add b cm.1 M2 P3 ∧ ∀ M3 : Mm, P3 M3 → Y M3)) ∧ (r2 = 0 → (Z 0 M2)) := by
  have hbl := law_at hb
  have hlen := hW.1
  obtain ⟨g1, g2, g3, g4, -⟩ := hg
  have htp := tk_pos g2 ht
  refine ⟨_, c_adv hW g2 hm.2.2.2.1, ?_⟩
  rintro M2 ⟨hT2, hf2⟩
  have hm2 := hm.adv (by omega) hT2 hf2
  refine ⟨_, hq (te_ tx s.1) (n + s.2.1.length) M2 htp.2 (by omega) hT2 hm2.2.2.2.2.1 (by rw [hm2.2.1]; exact h0), ?_⟩
  intro r M3 hP
  cases c : q (te_ tx s.1) with
  | inl f =>
    rw [c] at hP
    have hr := (hP.2.2.2.1 f rfl).1
    subst hr
    exact ⟨by decide, fun z => absurd rfl z, fun _ => no f c M3 (PoC_inl hm2 hP)⟩
  | inr s2 =>
    rw [c] at hP
    have hr := (hP.2.2.2.2 s2 rfl).1
    subst hr
    have gs2 := (hGq (te_ tx s.1) htp.2).1 s2 c
    obtain ⟨k1, k2, k3, -⟩ := gs2
    have hl3 := (hP.2.2.2.2 s2 rfl).2.2.1
    refine ⟨by decide, fun _ => ⟨_, c_add (n := n + s.2.1.length + s2.2.1.length) (x := cm.1) hb hl3 (by omega), ?_⟩, fun z => by omega⟩
    intro M4 hA
    exact yes s2 c M4 (mid_join (p := p) (pr := pr) hm2 hP hA (by omega))
theorem lp_s {tx : TX} {q : Nat → PR} {op : Nat → Option (Int × Int)} {k : Nat} {r : PRS} : lp tx q op (k + 1) r = match op r.1 with
    | none => .inr r
    | some cm => match q (te_ tx r.1) with
      | .inl f => .inl f
      | .inr r2 => lp tx q op k (joinR r r2 cm) := rfl
theorem lp_n {tx : TX} {q : Nat → PR} {op : Nat → Option (Int × Int)} {k : Nat} {r : PRS} (h : op r.1 = none) : lp tx q op k r = .inr r := by
  cases k with
  | zero => rfl
  | succ k => rw [lp_s, h]
theorem lp_f {tx : TX} {q : Nat → PR} {op : Nat → Option (Int × Int)} {k : Nat} {r : PRS} {cm : Int × Int} {f : Nat × Nat} (h : op r.1 = some cm) (h2 : q (te_ tx r.1) = .inl f) : lp tx q op (k + 1) r = .inl f := by
  rw [lp_s]
  simp only [h, h2]
theorem lp_y {tx : TX} {q : Nat → PR} {op : Nat → Option (Int × Int)} {k : Nat} {r r2 : PRS} {cm : Int × Int} (h : op r.1 = some cm) (h2 : q (te_ tx r.1) = .inr r2) : lp tx q op (k + 1) r = lp tx q op k (joinR r r2 cm) := by
  rw [lp_s]
  simp only [h, h2]
theorem seq_f {tx : TX} {q : Nat → PR} {op : Nat → Option (Int × Int)} {k p : Nat} {f : Nat × Nat} (h : q p = .inl f) : seqK tx q op k p = .inl f := by
  unfold seqK
  rw [h]
theorem seq_y {tx : TX} {q : Nat → PR} {op : Nat → Option (Int × Int)} {k p : Nat} {r : PRS} (h : q p = .inr r) : seqK tx q op k p = lp tx q op k r := by
  unfold seqK
  rw [h]
theorem c_lp {tx : TX} {pr : Bool} {b n p : Nat} {M : Mm} {q : Nat → PR} {op : Nat → Option (Int × Int)} {S : Mm → (Int → Mm → Prop) → Prop} {res : PR} {KK : Nat → Mm → Prop} {m : Nat} (hW : WX tx) (hb : At shC NN b (.inl 0)) (hnp : n ≤ p) (hGq : GdQ tx pr q) (hq : HQ tx b pr q S) (hop : opG tx op) (h0 : M b 0 = zo pr)
    (H0 : ∀ M1, PoC tx b n M res 1 M1 → KK m M1)
    (H1 : ∀ i (s : PRS) M1, i < m → s.1 ≤ tx.2 → TpC tx s.1 M1 → (op s.1 = none → PoC tx b n M res 1 M1) → (∀ cm, op s.1 = some cm → ∃ P1 : Mm → Prop, S_Tape_advance 2 M1 P1 ∧ ∀ M1 : Mm, P1 M1 → ∃ P2 : Int → Mm → Prop, S M1 P2 ∧ ∀ (r2 : Int) (M2 : Mm), P2 r2 M2 → (rng r2) ∧ (r2 ≠ 0 → (∃ P3 : Mm → Prop, S_Law_add b cm.1 M2 P3 ∧ ∀ M3 : Mm, P3 M3 → KK (i + 1) M3)) ∧ (r2 = 0 → (PoC tx b n M res 0 M2))) → KK i M1) :
    ∀ k, k ≤ m → ∀ s M1, GdR tx pr p s → MidC tx b n M s M1 → lp tx q op k s = res → KK (m - k) M1 := by
  intro k
  induction k with
  | zero =>
    intro _ s M1 hg hm he
    rw [lp] at he
    rw [Nat.sub_zero]
    exact H0 M1 (by rw [← he]; exact PoC_mid hm)
  | succ k ih =>
    intro hk s M1 hg hm he
    refine H1 _ s M1 (by omega) hg.2.1 hm.2.2.2.1 (fun hn => ?_) (fun cm hc => ?_)
    · rw [lp_n hn] at he
      rw [← he]; exact PoC_mid hm
    · have hoc := hop _ _ hc
      refine c_turn hW hb hnp hg hGq hq hoc.1 hm h0 (fun s2 hs M3 hm3 => ?_) (fun f hf M2 hP => ?_)
      · have htp := tk_pos hg.2.1 hoc.1
        have := ih (by omega) _ M3 (join_g hg ((hGq _ htp.2).1 s2 hs) hoc.1 hoc.2.1 hoc.2.2) hm3 (by rw [← he, lp_y hc hs])
        rw [show m - (k + 1) + 1 = m - k by omega]
        exact this
      · rw [lp_f hc hf] at he
        rw [← he]; exact hP
/-- the first operand of a row -/
theorem c_fst {tx : TX} {pr : Bool} {b n p : Nat} {M : Mm} {q : Nat → PR} {op : Nat → Option (Int × Int)} {k : Nat} {S : Mm → (Int → Mm → Prop) → Prop} {Y : Mm → Prop} (hGq : GdQ tx pr q) (hp : p ≤ tx.2) (hS : S M (PoC tx b n M (q p))) (yes : ∀ s M1, GdR tx pr p s → MidC tx b n M s M1 → lp tx q op k s = seqK tx q op k p → Y M1) :
    ∃ P1 : Int → Mm → Prop, S M P1 ∧ ∀ (r1 : Int) (M1 : Mm), P1 r1 M1 → (rng r1) ∧ (r1 ≠ 0 → Y M1) ∧ (r1 = 0 → (PoC tx b n M (seqK tx q op k p) 0 M1)) := by
  refine ⟨_, hS, ?_⟩
  intro r M1 hP
  cases c : q p with
  | inl f =>
    rw [c] at hP
    have hr := (hP.2.2.2.1 f rfl).1
    subst hr
    refine ⟨by decide, fun z => absurd rfl z, fun _ => ?_⟩
    rw [seq_f c]; exact hP
  | inr s =>
    rw [c] at hP
    obtain ⟨rfl, hm⟩ := mid_PoC hP
    exact ⟨by decide, fun _ => yes s M1 ((hGq p hp).1 s c) hm (seq_y c).symm, fun z => by omega⟩
theorem c_readProduct {tx : TX} {pr : Bool} {b : Nat} {q : Nat → PR} {w : Int} {dd : Nat} (hW : WX tx) (hb : At shC NN b (.inl 0)) (hdd : 9 ≤ dd) (hGq : GdQ tx pr q) (hq : HQ tx b pr q (S_Law_readPart dd b 2 w)) : HQ tx b pr (qPro tx q) (S_Law_readProduct (dd + 1) b 2 w) := by
  intro p n M hp hn hT h3 h0
  refine e_Law_readProduct (dd + 1) b 2 _ M fun K hK => w_Law_readProduct_0 hK (by omega) b hb 2 atC_2 _ M (c_fst hGq hp (hq p n M hp hn hT h3 h0) (fun s M1 hg hm he => ?_))
  have := c_lp (KK := fun i M1 => K NN RRC 13 [(0, vr b), (1, vr 2), (2, vi w), (3, vi (i : Int))] [] M1) (m := 1000) hW hb hn hGq hq (opMul_g tx) h0 (fun M1 hP => ?_) (fun i s M1 hi hs hT1 hno hyes => ?_) 1000 (Nat.le_refl _) s M1 hg hm he
  · exact this
  · exact w_Law_readProduct_13 hK (by omega) b hb 2 atC_2 _ _ M1 ⟨by omega, fun _ => hP, fun z => by omega⟩
  · refine w_Law_readProduct_13 hK (by omega) b hb 2 atC_2 _ _ M1 ⟨by omega, fun z => by omega, fun _ => ⟨_, c_isSign hW hs hT1 (by decide), ?_⟩⟩
    rintro r M2 ⟨rfl, rfl⟩
    refine ⟨zo_rng _, fun z => hno ?_, fun z => hyes (-2, 22) ?_⟩
    · unfold opMul; rw [if_neg (by rw [zo_0 z]; exact Bool.false_ne_true)]
    · unfold opMul; rw [if_pos (zo_ne z)]
theorem c_readSum {tx : TX} {pr : Bool} {b : Nat} {q : Nat → PR} {w : Int} {dd : Nat} (hW : WX tx) (hb : At shC NN b (.inl 0)) (hdd : 9 ≤ dd) (hGq : GdQ tx pr q) (hq : HQ tx b pr q (S_Law_readProduct dd b 2 w)) : HQ tx b pr (seqK tx q (opAdd tx) 1000) (S_Law_readSum (dd + 1) b 2 w) := by
  intro p n M hp hn hT h3 h0
  refine e_Law_readSum (dd + 1) b 2 _ M fun K hK => w_Law_readSum_0 hK (by omega) b hb 2 atC_2 _ M (c_fst hGq hp (hq p n M hp hn hT h3 h0) (fun s M1 hg hm he => ?_))
  have := c_lp (KK := fun i M1 => K NN RRC 13 [(0, vr b), (1, vr 2), (2, vi w), (3, vi (i : Int))] [] M1) (m := 1000) hW hb hn hGq hq (opAdd_g tx) h0 (fun M1 hP => ?_) (fun i s M1 hi hs hT1 hno hyes => ?_) 1000 (Nat.le_refl _) s M1 hg hm he
  · exact this
  · exact w_Law_readSum_13 hK (by omega) b hb 2 atC_2 _ _ M1 ⟨by omega, fun _ => hP, fun z => by omega⟩
  · refine w_Law_readSum_13 hK (by omega) b hb 2 atC_2 _ _ M1 ⟨by omega, fun z => by omega, fun _ => ⟨_, c_isSign hW hs hT1 (by decide), ?_⟩⟩
    rintro r M2 ⟨rfl, rfl⟩
    refine ⟨zo_rng _, fun z => ⟨_, c_isSign hW hs hT1 (by decide), ?_⟩, fun z => ⟨_, c_isSign hW hs hT1 (by decide), ?_⟩⟩
    · rintro r M3 ⟨rfl, rfl⟩
      refine ⟨zo_rng _, fun y => by omega, fun y => w_Law_readSum_54 hK (by omega) b hb 2 atC_2 _ _ _ M3 (hyes (-3, 20) ?_)⟩
      unfold opAdd; rw [if_pos (zo_ne z)]
    · rintro r M3 ⟨rfl, rfl⟩
      refine ⟨zo_rng _, fun y => hno ?_, fun y => ⟨_, c_isSign hW hs hT1 (by decide), ?_⟩⟩
      · unfold opAdd; rw [if_neg (by rw [zo_0 z]; exact Bool.false_ne_true), if_neg (by rw [zo_0 y]; exact Bool.false_ne_true)]
      · rintro r M4 ⟨rfl, rfl⟩
        refine ⟨zo_rng _, fun x => w_Law_readSum_54 hK (by omega) b hb 2 atC_2 _ _ _ M4 (hyes (-4, 21) ?_), fun x => by omega⟩
        unfold opAdd; rw [if_neg (by rw [zo_0 z]; exact Bool.false_ne_true), if_pos (zo_ne y)]
theorem c_readTest {tx : TX} {pr : Bool} {b : Nat} {q : Nat → PR} {w : Int} {dd : Nat} (hW : WX tx) (hb : At shC NN b (.inl 0)) (hdd : 9 ≤ dd) (hGq : GdQ tx pr q) (hq : HQ tx b pr q (S_Law_readSum dd b 2 w)) : HQ tx b pr (seqK tx q (opCmp tx) 1) (S_Law_readTest (dd + 1) b 2 w) := by
  intro p n M hp hn hT h3 h0
  refine e_Law_readTest (dd + 1) b 2 _ M fun K hK => w_Law_readTest_0 hK (by omega) b hb 2 atC_2 _ M (c_fst hGq hp (hq p n M hp hn hT h3 h0) (fun s M1 hg hm he => ?_))
  have hT1 := hm.2.2.2.1
  have hs := hg.2.1
  have turn : ∀ cm, opCmp tx s.1 = some cm → K NN RRC 47 [(0, vr b), (1, vr 2), (2, vi w)] [vi cm.1] M1 := by
    intro cm hc
    have hoc := opCmp_g tx _ _ hc
    refine w_Law_readTest_47 hK (by omega) b hb 2 atC_2 _ _ M1 (c_turn hW hb hn hg hGq hq hoc.1 hm h0 (fun s2 hs M3 hm3 => ?_) (fun f hf M2 hP => ?_))
    · rw [lp_y hc hs, lp] at he
      show PoC tx b n M (seqK tx q (opCmp tx) 1 p) 1 M3
      rw [← he]; exact PoC_mid hm3
    · rw [lp_f hc hf] at he
      show PoC tx b n M (seqK tx q (opCmp tx) 1 p) 0 M2
      rw [← he]; exact hP
  refine ⟨_, c_isSign hW hs hT1 (by decide), ?_⟩
  rintro r M2 ⟨rfl, rfl⟩
  refine ⟨zo_rng _, fun z => ⟨_, c_isSign hW hs hT1 (by decide), ?_⟩, fun z => ⟨_, c_isSign hW hs hT1 (by decide), ?_⟩⟩
  · rintro r M3 ⟨rfl, rfl⟩
    refine ⟨zo_rng _, fun y => by omega, fun y => turn (-5, 24) ?_⟩
    unfold opCmp; rw [if_pos (zo_ne z)]
  · rintro r M3 ⟨rfl, rfl⟩
    refine ⟨zo_rng _, fun y => ⟨_, c_isSign hW hs hT1 (by decide), ?_⟩, fun y => ?_⟩
    · rintro r M4 ⟨rfl, rfl⟩
      refine ⟨zo_rng _, fun x => turn (-6, 25) ?_, fun x => by omega⟩
      unfold opCmp; rw [if_neg (by rw [zo_0 z]; exact Bool.false_ne_true), if_pos (zo_ne y)]
    · have hno : opCmp tx s.1 = none := by
        unfold opCmp; rw [if_neg (by rw [zo_0 z]; exact Bool.false_ne_true), if_neg (by rw [zo_0 y]; exact Bool.false_ne_true)]
      rw [lp_n hno] at he
      rw [← he]; exact PoC_mid hm
theorem c_readE {tx : TX} {pr : Bool} {b : Nat} {q : Nat → PR} {w : Int} {dd : Nat} (hW : WX tx) (hb : At shC NN b (.inl 0)) (hdd : 9 ≤ dd) (hGq : GdQ tx pr q) (hq : HQ tx b pr q (S_Law_readTest dd b 2 w)) : HQ tx b pr (seqK tx q (opBoo tx) 1000) (S_Law_readE (dd + 1) b 2 w) := by
  intro p n M hp hn hT h3 h0
  refine e_Law_readE (dd + 1) b 2 _ M fun K hK => w_Law_readE_0 hK (by omega) b hb 2 atC_2 _ M (c_fst hGq hp (hq p n M hp hn hT h3 h0) (fun s M1 hg hm he => ?_))
  have := c_lp (KK := fun i M1 => K NN RRC 13 [(0, vr b), (1, vr 2), (2, vi w), (3, vi (i : Int))] [] M1) (m := 1000) hW hb hn hGq hq (opBoo_g tx) h0 (fun M1 hP => ?_) (fun i s M1 hi hs hT1 hno hyes => ?_) 1000 (Nat.le_refl _) s M1 hg hm he
  · exact this
  · exact w_Law_readE_13 hK (by omega) b hb 2 atC_2 _ _ M1 ⟨by omega, fun _ => hP, fun z => by omega⟩
  · have h6 := hT1.2.2.2.2.2.1
    have hlt := wo_lt tx s.1
    refine w_Law_readE_13 hK (by omega) b hb 2 atC_2 _ _ M1 ⟨by omega, fun z => by omega, fun _ => ⟨_, h6, hlt, fun z => ⟨_, h6, hlt, fun y => absurd z y, fun _ => w_Law_readE_57 hK (by omega) b hb 2 atC_2 _ _ _ M1 (hyes (-7, 26) ?_)⟩, fun z => ⟨_, h6, hlt, fun y => hno ?_, fun y => ⟨_, h6, hlt, fun _ => w_Law_readE_57 hK (by omega) b hb 2 atC_2 _ _ _ M1 (hyes (-8, 27) ?_), fun x => by omega⟩⟩⟩⟩
    · unfold opBoo; rw [if_pos z]
    · unfold opBoo; rw [if_neg z, if_neg y]
    · unfold opBoo; rw [if_neg z, if_pos y]
theorem c_qE {tx : TX} {pr : Bool} {b : Nat} {q : Nat → PR} {w : Int} {dd : Nat} (hW : WX tx) (hb : At shC NN b (.inl 0)) (hdd : 9 ≤ dd) (hGq : GdQ tx pr q) (hq : HQ tx b pr q (S_Law_readPart dd b 2 w)) : HQ tx b pr (qE tx q) (S_Law_readE (dd + 4) b 2 w) := by
  have g1 := seq_g hGq (opMul_g tx) 1000
  have g2 := seq_g g1 (opAdd_g tx) 1000
  have g3 := seq_g g2 (opCmp_g tx) 1
  have h1 := c_readProduct hW hb hdd hGq hq
  have h2 := c_readSum hW hb (by omega) g1 h1
  have h3 := c_readTest hW hb (by omega) g2 h2
  exact c_readE hW hb (by omega) g3 h3
theorem c_factCode {tx : TX} {pr : Bool} {p : Nat} {b : Nat} {M : Mm} (hb : At shC NN b (.inl 0)) (h0 : M b 0 = zo pr) (hk : tk_ tx p ≠ 3) : S_Law_factCode b (wo_ tx p) M (fun r M' => M' = M ∧ (lfc tx pr p = none ∧ r = -14 ∨ ∃ x, lfc tx pr p = some x ∧ r = x.1)) := by
  have hlt := wo_lt tx p
  refine W_Law_factCode b hb _ hlt M ⟨_, W_JEnum_ordinal _ hlt M (P := fun r M' => r = (wo_ tx p : Int) ∧ M' = M) ⟨rfl, rfl⟩, ?_⟩
  rintro r M1 ⟨rfl, rfl⟩
  rw [Int.toNat_natCast]
  unfold lfc
  rw [if_neg hk]
  have tab : ∀ o, o < 27 → (wS.getD o 0 = 1 ↔ o = 22) ∧ (wS.getD o 0 = 2 ↔ o = 23) ∧ (wS.getD o 0 = 3 ↔ o = 24) ∧ (wS.getD o 0 = 4 ↔ o = 25) ∧ (wS.getD o 0 = 5 ↔ o = 26) := by decide +kernel
  obtain ⟨t1, t2, t3, t4, t5⟩ := tab _ hlt
  have hz : zo pr = 0 ↔ pr = false := by cases pr <;> simp
  refine ⟨by omega, fun z => ⟨rfl, Or.inr ⟨_, if_pos (t1.mp z), rfl⟩⟩, fun z => ⟨rfl, Or.inr ⟨_, by rw [if_neg (by have := t2.mp z; omega), if_pos (t2.mp z)], rfl⟩⟩, fun z => ⟨rfl, Or.inr ⟨_, by rw [if_neg (by have := t3.mp z; omega), if_neg (by have := t3.mp z; omega), if_pos (t3.mp z)], rfl⟩⟩, fun z => ?_, fun z => ?_, fun z => ?_⟩
  · have hz4 := t4.mp z
    rw [h0]
    refine ⟨zo_rng _, fun y => ⟨rfl, Or.inl ⟨?_, rfl⟩⟩, fun y => ⟨rfl, Or.inr ⟨_, by rw [if_neg (by omega), if_neg (by omega), if_neg (by omega), if_pos ⟨hz4, zo_ne y⟩], rfl⟩⟩⟩
    rw [if_neg (by omega), if_neg (by omega), if_neg (by omega), if_neg (fun x => by rw [hz.mp y] at x; cases x.2), if_neg (fun x => by omega)]
  · have hz5 := t5.mp z
    rw [h0]
    refine ⟨zo_rng _, fun y => ⟨rfl, Or.inl ⟨?_, rfl⟩⟩, fun y => ⟨rfl, Or.inr ⟨_, by rw [if_neg (by omega), if_neg (by omega), if_neg (by omega), if_neg (fun x => by omega), if_pos ⟨hz5, zo_ne y⟩], rfl⟩⟩⟩
    rw [if_neg (by omega), if_neg (by omega), if_neg (by omega), if_neg (fun x => by omega), if_neg (fun x => by rw [hz.mp y] at x; cases x.2)]
  · refine ⟨rfl, Or.inl ⟨?_, rfl⟩⟩
    rw [if_neg (fun y => z.1 (t1.mpr y)), if_neg (fun y => z.2.1 (t2.mpr y)), if_neg (fun y => z.2.2.1 (t3.mpr y)), if_neg (fun y => z.2.2.2.1 (t4.mpr y.1)), if_neg (fun y => z.2.2.2.2 (t5.mpr y.1))]
