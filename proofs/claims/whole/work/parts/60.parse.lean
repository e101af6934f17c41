abbrev EnvT : Type := Nat → Int
/-- where it goes on, the class's codes, the model's, what it comes to -/
abbrev PRS : Type := Nat × List Int × List Int × (EnvT → Int)
abbrev PR : Type := Sum (Nat × Nat) PRS
def jnI (c x y : Int) : Int := if c = -7 then (if x = 0 then 0 else if y = 0 then 0 else 1) else if c = -6 then (if x = y then 1 else 0) else if c = -5 then (if x < y then 1 else 0) else if c = -4 then subW x y else if c = -3 then addW x y else if c = -2 then mulW x y else (if x ≠ 0 then 1 else if y = 0 then 0 else 1)
theorem jnI_r (c x y : Int) : rng (jnI c x y) := by
  unfold jnI
  split
  · split
    · decide
    · split <;> decide
  · split
    · split <;> decide
    · split
      · split <;> decide
      · split
        · exact rng_toInt _
        · split
          · exact rng_toInt _
          · split
            · exact rng_toInt _
            · split
              · decide
              · split <;> decide
def joinR (r r2 : PRS) (cm : Int × Int) : PRS := (r2.1, r.2.1 ++ r2.2.1 ++ [cm.1], r.2.2.1 ++ cm.2 :: r2.2.2.1, fun e => jnI cm.1 (r.2.2.2 e) (r2.2.2.2 e))
def lp (tx : TX) (q : Nat → PR) (op : Nat → Option (Int × Int)) : Nat → PRS → PR
  | 0, r => .inr r
  | k + 1, r => match op r.1 with
    | none => .inr r
    | some cm => match q (te_ tx r.1) with
      | .inl f => .inl f
      | .inr r2 => lp tx q op k (joinR r r2 cm)
def seqK (tx : TX) (q : Nat → PR) (op : Nat → Option (Int × Int)) (k : Nat) (p : Nat) : PR := match q p with
  | .inl f => .inl f
  | .inr r => lp tx q op k r
def isS_ (tx : TX) (p : Nat) (c : Int) : Bool := decide (tk_ tx p = 4 ∧ tv_ tx p = c)
def opMul (tx : TX) (p : Nat) : Option (Int × Int) := if isS_ tx p 42 = true then some (-2, 22) else none
def opAdd (tx : TX) (p : Nat) : Option (Int × Int) := if isS_ tx p 43 = true then some (-3, 20) else if isS_ tx p 45 = true then some (-4, 21) else none
def opCmp (tx : TX) (p : Nat) : Option (Int × Int) := if isS_ tx p 60 = true then some (-5, 24) else if isS_ tx p 61 = true then some (-6, 25) else none
def opBoo (tx : TX) (p : Nat) : Option (Int × Int) := if wo_ tx p = 20 then some (-7, 26) else if wo_ tx p = 21 then some (-8, 27) else none
def lfc (tx : TX) (pr : Bool) (p : Nat) : Option (Int × Int × (EnvT → Int)) :=
  if tk_ tx p = 3 then some (tv_ tx p, 100 + tv_ tx p, fun _ => tv_ tx p) else
  if wo_ tx p = 22 then some (-9, 1, fun e => e 1) else
  if wo_ tx p = 23 then some (-10, 2, fun e => e 2) else
  if wo_ tx p = 24 then some (-11, 3, fun e => e 3) else
  if wo_ tx p = 25 ∧ pr = true then some (-12, 4, fun e => e 4) else
  if wo_ tx p = 26 ∧ pr = true then some (-13, 5, fun e => e 5) else none
def qPro (tx : TX) (q : Nat → PR) : Nat → PR := seqK tx q (opMul tx) 1000
def qSum (tx : TX) (q : Nat → PR) : Nat → PR := seqK tx (qPro tx q) (opAdd tx) 1000
def qTst (tx : TX) (q : Nat → PR) : Nat → PR := seqK tx (qSum tx q) (opCmp tx) 1
def qE (tx : TX) (q : Nat → PR) : Nat → PR := seqK tx (qTst tx q) (opBoo tx) 1000
def parR (r : PRS) (tx : TX) : PR := if isS_ tx r.1 41 = true then .inr (te_ tx r.1, r.2.1, 28 :: (r.2.2.1 ++ [29]), r.2.2.2) else .inl (1, tb_ tx r.1)
def notR (r : PRS) : PRS := (r.1, r.2.1 ++ [-1], 30 :: r.2.2.1, fun e => if r.2.2.2 e = 0 then 1 else 0)
def stB (tx : TX) (pr : Bool) (p : Nat) : Bool := isS_ tx p 40 || decide (wo_ tx p = 19) || (lfc tx pr p).isSome
def pPart (tx : TX) (pr : Bool) : Nat → Nat → PR
  | 0, p => if stB tx pr p = true then .inl (5, tb_ tx p) else .inl (1, tb_ tx p)
  | d + 1, p => if isS_ tx p 40 = true then (match qE tx (pPart tx pr d) (te_ tx p) with
      | .inl f => .inl f
      | .inr r => parR r tx)
    else if wo_ tx p = 19 then (match pPart tx pr d (te_ tx p) with
      | .inl f => .inl f
      | .inr r => .inr (notR r))
    else match lfc tx pr p with
      | some x => .inr (te_ tx p, [x.1], [x.2.1], x.2.2)
      | none => .inl (1, tb_ tx p)
/-- what holds of all that is read: it goes on behind where it began; no more codes than signs; and what it comes to -/
def GdR (tx : TX) (pr : Bool) (p : Nat) (r : PRS) : Prop := p < r.1 ∧ r.1 ≤ tx.2 ∧ p + r.2.1.length ≤ r.1 ∧ p + r.2.2.1.length ≤ r.1 ∧ 1 ≤ r.2.1.length ∧ 1 ≤ r.2.2.1.length ∧ (∀ e, rng (e 1) → rng (e 2) → rng (e 3) → rng (e 4) → rng (e 5) → rng (r.2.2.2 e)) ∧ (pr = false → ∀ e e' : EnvT, e 1 = e' 1 → e 2 = e' 2 → e 3 = e' 3 → r.2.2.2 e = r.2.2.2 e') ∧ (∀ x ∈ r.2.1, -13 ≤ x ∧ x ≤ 9999) ∧ (∀ x ∈ r.2.2.1, 1 ≤ x ∧ x ≤ 10099)
def GdQ (tx : TX) (pr : Bool) (q : Nat → PR) : Prop := ∀ p, p ≤ tx.2 → (∀ r, q p = .inr r → GdR tx pr p r) ∧ (∀ f, q p = .inl f → (f.1 = 1 ∨ f.1 = 5) ∧ f.2 ≤ tx.2)
theorem tk_pos {tx : TX} {p : Nat} (hp : p ≤ tx.2) (h : tk_ tx p ≠ 0) : p < te_ tx p ∧ te_ tx p ≤ tx.2 := by
  have := te_ok hp
  have := this.2.2.2.1 h
  omega
theorem isS_k {tx : TX} {p : Nat} {c : Int} (h : isS_ tx p c = true) : tk_ tx p = 4 ∧ tv_ tx p = c := of_decide_eq_true h
theorem wo_k {tx : TX} {p : Nat} (h : wo_ tx p ≠ 0) : tk_ tx p = 2 := by
  unfold wo_ at h
  by_cases e : tk_ tx p = 2
  · exact e
  · rw [if_neg e] at h; exact absurd rfl h
abbrev opG (tx : TX) (op : Nat → Option (Int × Int)) : Prop := ∀ p cm, op p = some cm → tk_ tx p ≠ 0 ∧ (-8 ≤ cm.1 ∧ cm.1 ≤ -2) ∧ (1 ≤ cm.2 ∧ cm.2 ≤ 30)
theorem opMul_g (tx : TX) : opG tx (opMul tx) := by
  intro p cm h
  unfold opMul at h
  by_cases c : isS_ tx p 42 = true
  · rw [if_pos c] at h
    have := isS_k c
    cases h; exact ⟨by omega, by decide, by decide⟩
  · rw [if_neg c] at h; cases h
theorem opAdd_g (tx : TX) : opG tx (opAdd tx) := by
  intro p cm h
  unfold opAdd at h
  by_cases c : isS_ tx p 43 = true
  · rw [if_pos c] at h
    have := isS_k c
    cases h; exact ⟨by omega, by decide, by decide⟩
  · rw [if_neg c] at h
    by_cases c : isS_ tx p 45 = true
    · rw [if_pos c] at h
      have := isS_k c
      cases h; exact ⟨by omega, by decide, by decide⟩
    · rw [if_neg c] at h; cases h
theorem opCmp_g (tx : TX) : opG tx (opCmp tx) := by
  intro p cm h
  unfold opCmp at h
  by_cases c : isS_ tx p 60 = true
  · rw [if_pos c] at h
    have := isS_k c
    cases h; exact ⟨by omega, by decide, by decide⟩
  · rw [if_neg c] at h
    by_cases c : isS_ tx p 61 = true
    · rw [if_pos c] at h
      have := isS_k c
      cases h; exact ⟨by omega, by decide, by decide⟩
    · rw [if_neg c] at h; cases h
theorem opBoo_g (tx : TX) : opG tx (opBoo tx) := by
  intro p cm h
  unfold opBoo at h
  by_cases c : wo_ tx p = 20
  · rw [if_pos c] at h
    have := wo_k (tx := tx) (p := p) (by omega)
    cases h; exact ⟨by omega, by decide, by decide⟩
  · rw [if_neg c] at h
    by_cases c : wo_ tx p = 21
    · rw [if_pos c] at h
      have := wo_k (tx := tx) (p := p) (by omega)
      cases h; exact ⟨by omega, by decide, by decide⟩
    · rw [if_neg c] at h; cases h
theorem join_g {tx : TX} {pr : Bool} {p : Nat} {r r2 : PRS} {cm : Int × Int} (h1 : GdR tx pr p r) (h2 : GdR tx pr (te_ tx r.1) r2) (h3 : tk_ tx r.1 ≠ 0) (h4 : -8 ≤ cm.1 ∧ cm.1 ≤ -2) (h5 : 1 ≤ cm.2 ∧ cm.2 ≤ 30) : GdR tx pr p (joinR r r2 cm) := by
  obtain ⟨a1, a2, a3, a4, a5, a6, a7, a8, a9, a10⟩ := h1
  obtain ⟨b1, b2, b3, b4, b5, b6, b7, b8, b9, b10⟩ := h2
  have ht := tk_pos a2 h3
  unfold joinR
  refine ⟨by show p < r2.1; omega, b2, ?_, ?_, ?_, ?_, fun e _ _ _ _ _ => jnI_r _ _ _, fun hp e e' h1 h2 h3 => ?_, fun x hx => ?_, fun x hx => ?_⟩
  · show p + (r.2.1 ++ r2.2.1 ++ [cm.1]).length ≤ r2.1
    rw [List.length_append, List.length_append]
    show p + (_ + _ + 1) ≤ _
    omega
  · show p + (r.2.2.1 ++ cm.2 :: r2.2.2.1).length ≤ r2.1
    rw [List.length_append, List.length_cons]
    omega
  · show 1 ≤ (r.2.1 ++ r2.2.1 ++ [cm.1]).length
    rw [List.length_append, List.length_append]; omega
  · show 1 ≤ (r.2.2.1 ++ cm.2 :: r2.2.2.1).length
    rw [List.length_append]; omega
  · show jnI _ _ _ = jnI _ _ _
    rw [a8 hp e e' h1 h2 h3, b8 hp e e' h1 h2 h3]
  · have hx2 : x ∈ r.2.1 ++ r2.2.1 ++ [cm.1] := hx
    rw [List.mem_append, List.mem_append, List.mem_singleton] at hx2
    rcases hx2 with (hx2 | hx2) | hx2
    · exact a9 x hx2
    · exact b9 x hx2
    · omega
  · have hx2 : x ∈ r.2.2.1 ++ cm.2 :: r2.2.2.1 := hx
    rw [List.mem_append, List.mem_cons] at hx2
    rcases hx2 with hx2 | hx2 | hx2
    · exact a10 x hx2
    · omega
    · exact b10 x hx2
theorem lp_g {tx : TX} {pr : Bool} {q : Nat → PR} {op : Nat → Option (Int × Int)} (hq : GdQ tx pr q) (ho : opG tx op) {p : Nat} : ∀ k r, GdR tx pr p r → (∀ r', lp tx q op k r = .inr r' → GdR tx pr p r') ∧ (∀ f, lp tx q op k r = .inl f → (f.1 = 1 ∨ f.1 = 5) ∧ f.2 ≤ tx.2)
  | 0, r, h => ⟨fun r' e => by rw [lp] at e; cases e; exact h, fun f e => by rw [lp] at e; cases e⟩
  | k + 1, r, h => by
    rw [lp]
    cases c : op r.1 with
    | none => exact ⟨fun r' e => by cases e; exact h, fun f e => by cases e⟩
    | some cm =>
      have hc := ho _ _ c
      have ht := tk_pos h.2.1 hc.1
      have hq2 := hq (te_ tx r.1) ht.2
      cases c2 : q (te_ tx r.1) with
      | inl f0 => exact ⟨fun r' e => (by cases e), fun f e => by cases e; exact hq2.2 _ c2⟩
      | inr r2 =>
        exact lp_g hq ho k _ (join_g h (hq2.1 _ c2) hc.1 hc.2.1 hc.2.2)
theorem seq_g {tx : TX} {pr : Bool} {q : Nat → PR} {op : Nat → Option (Int × Int)} (hq : GdQ tx pr q) (ho : opG tx op) (k : Nat) : GdQ tx pr (seqK tx q op k) := by
  intro p hp
  have hq2 := hq p hp
  unfold seqK
  cases c : q p with
  | inl f0 => exact ⟨fun r e => (by cases e), fun f e => by cases e; exact hq2.2 _ c⟩
  | inr r =>
    exact lp_g hq ho k r (hq2.1 _ c)
theorem qE_g {tx : TX} {pr : Bool} {q : Nat → PR} (hq : GdQ tx pr q) : GdQ tx pr (qE tx q) := seq_g (seq_g (seq_g (seq_g hq (opMul_g tx) _) (opAdd_g tx) _) (opCmp_g tx) _) (opBoo_g tx) _
theorem lfc_g {tx : TX} {pr : Bool} {p : Nat} {x : Int × Int × (EnvT → Int)} (hp : p ≤ tx.2) (h : lfc tx pr p = some x) : tk_ tx p ≠ 0 ∧ (-13 ≤ x.1 ∧ x.1 ≤ 9999 ∧ (x.1 < 0 → x.1 ≤ -9)) ∧ (1 ≤ x.2.1 ∧ x.2.1 ≤ 10099 ∧ (x.2.1 < 20 ∨ 100 ≤ x.2.1)) ∧ (∀ e, rng (e 1) → rng (e 2) → rng (e 3) → rng (e 4) → rng (e 5) → rng (x.2.2 e)) ∧ (pr = false → ∀ e e' : EnvT, e 1 = e' 1 → e 2 = e' 2 → e 3 = e' 3 → x.2.2 e = x.2.2 e') := by
  unfold lfc at h
  by_cases c : tk_ tx p = 3
  · rw [if_pos c] at h
    have := tv_in hp c
    cases h
    exact ⟨by omega, ⟨by show -13 ≤ tv_ tx p; omega, by show tv_ tx p ≤ 9999; omega, fun (z : tv_ tx p < 0) => by omega⟩, ⟨by show 1 ≤ 100 + tv_ tx p; omega, by show 100 + tv_ tx p ≤ 10099; omega, Or.inr (by show 100 ≤ 100 + tv_ tx p; omega)⟩, fun e _ _ _ _ _ => by show rng (tv_ tx p); omega, fun _ e e' _ _ _ => rfl⟩
  · rw [if_neg c] at h
    by_cases c1 : wo_ tx p = 22
    · rw [if_pos c1] at h
      have := wo_k (tx := tx) (p := p) (by omega)
      cases h
      exact ⟨by omega, by decide, by decide, fun e a _ _ _ _ => a, fun _ e e' a _ _ => a⟩
    · rw [if_neg c1] at h
      by_cases c2 : wo_ tx p = 23
      · rw [if_pos c2] at h
        have := wo_k (tx := tx) (p := p) (by omega)
        cases h
        exact ⟨by omega, by decide, by decide, fun e _ a _ _ _ => a, fun _ e e' _ a _ => a⟩
      · rw [if_neg c2] at h
        by_cases c3 : wo_ tx p = 24
        · rw [if_pos c3] at h
          have := wo_k (tx := tx) (p := p) (by omega)
          cases h
          exact ⟨by omega, by decide, by decide, fun e _ _ a _ _ => a, fun _ e e' _ _ a => a⟩
        · rw [if_neg c3] at h
          by_cases c4 : wo_ tx p = 25 ∧ pr = true
          · rw [if_pos c4] at h
            have := wo_k (tx := tx) (p := p) (by omega)
            cases h
            exact ⟨by omega, by decide, by decide, fun e _ _ _ a _ => a, fun hp => by rw [c4.2] at hp; cases hp⟩
          · rw [if_neg c4] at h
            by_cases c5 : wo_ tx p = 26 ∧ pr = true
            · rw [if_pos c5] at h
              have := wo_k (tx := tx) (p := p) (by omega)
              cases h
              exact ⟨by omega, by decide, by decide, fun e _ _ _ _ a => a, fun hp => by rw [c5.2] at hp; cases hp⟩
            · rw [if_neg c5] at h; cases h
theorem tb_le {tx : TX} {p : Nat} (hp : p ≤ tx.2) : tb_ tx p ≤ tx.2 := by have := te_ok hp; omega
theorem pPart_g {tx : TX} {pr : Bool} : ∀ d, GdQ tx pr (pPart tx pr d)
  | 0 => by
    intro p hp
    have := tb_le hp
    rw [pPart]
    by_cases c : stB tx pr p = true
    · rw [if_pos c]
      exact ⟨fun r e => (by cases e), fun f e => by cases e; exact ⟨Or.inr rfl, this⟩⟩
    · rw [if_neg c]
      exact ⟨fun r e => (by cases e), fun f e => by cases e; exact ⟨Or.inl rfl, this⟩⟩
  | d + 1 => by
    intro p hp
    have htb := tb_le hp
    have ih := pPart_g (tx := tx) (pr := pr) d
    rw [pPart]
    by_cases c : isS_ tx p 40 = true
    · rw [if_pos c]
      have ht := tk_pos hp (by have := isS_k c; omega)
      have hq := qE_g ih (te_ tx p) ht.2
      cases c2 : qE tx (pPart tx pr d) (te_ tx p) with
      | inl f0 => exact ⟨fun r e => (by cases e), fun f e => by cases e; exact hq.2 _ c2⟩
      | inr r =>
        have hr := hq.1 _ c2
        obtain ⟨a1, a2, a3, a4, a5, a6, a7, a8, a9, a10⟩ := hr
        show (∀ r', parR r tx = .inr r' → GdR tx pr p r') ∧ (∀ f, parR r tx = .inl f → (f.1 = 1 ∨ f.1 = 5) ∧ f.2 ≤ tx.2)
        unfold parR
        by_cases c3 : isS_ tx r.1 41 = true
        · rw [if_pos c3]
          have ht2 := tk_pos a2 (by have := isS_k c3; omega)
          refine ⟨fun r' e => ?_, fun f e => by cases e⟩
          cases e
          refine ⟨by show p < te_ tx r.1; omega, ht2.2, by show p + r.2.1.length ≤ te_ tx r.1; omega, ?_, a5, ?_, a7, a8, a9, fun x hx => ?_⟩
          · show p + (28 :: (r.2.2.1 ++ [29])).length ≤ te_ tx r.1
            rw [List.length_cons, List.length_append]
            show p + (_ + 1 + 1) ≤ _
            omega
          · show 1 ≤ (28 :: (r.2.2.1 ++ [29])).length
            rw [List.length_cons]; omega
          · have hx2 : x ∈ (28 : Int) :: (r.2.2.1 ++ [29]) := hx
            rw [List.mem_cons, List.mem_append, List.mem_singleton] at hx2
            rcases hx2 with hx2 | hx2 | hx2
            · omega
            · exact a10 x hx2
            · omega
        · rw [if_neg c3]
          exact ⟨fun r' e => (by cases e), fun f e => by cases e; exact ⟨Or.inl rfl, tb_le a2⟩⟩
    · rw [if_neg c]
      by_cases c1 : wo_ tx p = 19
      · rw [if_pos c1]
        have ht := tk_pos hp (by have := wo_k (tx := tx) (p := p) (by omega); omega)
        have hq := ih (te_ tx p) ht.2
        cases c2 : pPart tx pr d (te_ tx p) with
        | inl f0 => exact ⟨fun r e => (by cases e), fun f e => by cases e; exact hq.2 _ c2⟩
        | inr r =>
          have hr := hq.1 _ c2
          obtain ⟨a1, a2, a3, a4, a5, a6, a7, a8, a9, a10⟩ := hr
          refine ⟨fun r' e => ?_, fun f e => by cases e⟩
          cases e
          refine ⟨by show p < r.1; omega, a2, ?_, ?_, ?_, ?_, fun e _ _ _ _ _ => ?_, fun hp e e' h1 h2 h3 => ?_, fun x hx => ?_, fun x hx => ?_⟩
          · show p + (r.2.1 ++ [-1]).length ≤ r.1
            rw [List.length_append]
            show p + (_ + 1) ≤ _
            omega
          · show p + (30 :: r.2.2.1).length ≤ r.1
            rw [List.length_cons]; omega
          · show 1 ≤ (r.2.1 ++ [-1]).length
            rw [List.length_append]; omega
          · show 1 ≤ (30 :: r.2.2.1).length
            rw [List.length_cons]; omega
          · show rng (if r.2.2.2 e = 0 then 1 else 0)
            split <;> decide
          · show (if r.2.2.2 e = 0 then (1 : Int) else 0) = if r.2.2.2 e' = 0 then 1 else 0
            rw [a8 hp e e' h1 h2 h3]
          · have hx2 : x ∈ r.2.1 ++ [(-1 : Int)] := hx
            rw [List.mem_append, List.mem_singleton] at hx2
            rcases hx2 with hx2 | hx2
            · exact a9 x hx2
            · omega
          · have hx2 : x ∈ (30 : Int) :: r.2.2.1 := hx
            rw [List.mem_cons] at hx2
            rcases hx2 with hx2 | hx2
            · omega
            · exact a10 x hx2
      · rw [if_neg c1]
        cases c2 : lfc tx pr p with
        | none => exact ⟨fun r e => (by cases e), fun f e => by cases e; exact ⟨Or.inl rfl, htb⟩⟩
        | some x =>
          have hx := lfc_g hp c2
          have ht := tk_pos hp hx.1
          refine ⟨fun r' e => ?_, fun f e => by cases e⟩
          cases e
          refine ⟨ht.1, ht.2, ht.1, ht.1, Nat.le_refl _, Nat.le_refl _, hx.2.2.2.1, hx.2.2.2.2, fun y hy => ?_, fun y hy => ?_⟩
          · rw [List.mem_singleton.mp hy]; omega
          · rw [List.mem_singleton.mp hy]; omega
