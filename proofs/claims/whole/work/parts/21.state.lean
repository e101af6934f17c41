theorem up_ind {n : Nat} {I : Nat → Prop} (hn : I n) (hs : ∀ k, k < n → I (k + 1) → I k) : ∀ k, k ≤ n → I k := by
  intro k hk
  obtain ⟨j, rfl⟩ : ∃ j, n = k + j := ⟨n - k, by omega⟩
  induction j generalizing k with
  | zero => exact hn
  | succ j ih =>
    refine hs k (by omega) (ih (k + 1) ?_ ?_ (by omega))
    · rw [show k + 1 + j = k + (j + 1) by omega]; exact hn
    · intro q hq; exact hs q (by omega)
def sm (f : Nat → Int) : Nat → Int
  | 0 => 0
  | k + 1 => sm f k + f k
abbrev FrC (p : Nat → Prop) (M M' : Mm) : Prop := ∀ c, ¬ p c → M' c = M c
theorem FrC.rf {p : Nat → Prop} {M : Mm} : FrC p M M := fun _ _ => rfl
theorem FrC.tr {p : Nat → Prop} {M M1 M2 : Mm} (h1 : FrC p M M1) (h2 : FrC p M1 M2) : FrC p M M2 := fun c hc => (h2 c hc).trans (h1 c hc)
theorem FrC.wk {p q : Nat → Prop} {M M' : Mm} (h : FrC p M M') (hpq : ∀ c, p c → q c) : FrC q M M' := fun c hc => h c (fun z => hc (hpq c z))
theorem FrC.up {p : Nat → Prop} {M : Mm} {c : Nat} {g : Nat → Int} (hc : p c) : FrC p M (upr M c g) := fun q hq => (upr_ne (q := q) (c := c) (fun e => hq (by rw [e]; exact hc))).symm
theorem upr_eq {α : Type} (f : Nat → Nat → α) (c : Nat) (g : Nat → α) (q : Nat) : upr f c g q = if q = c then g else f q := rfl
theorem up1_eq {α : Type} (f : Nat → α) (k : Nat) (v : α) (j : Nat) : up1 f k v j = if j = k then v else f j := rfl
/-- the state: 0 fortnight, 1 gap, 2 pints, 3 coins, 4 road, 5.. order, 12.. thick, 19.. wet, 26.. printed -/
def RS (n : Nat) (σ : Nat → Int) (M : Mm) (b : Nat) : Prop :=
  (M b 6 = σ 0 ∧ M b 5 = σ 1 ∧ M b 7 = σ 2 ∧ M b 8 = σ 3 ∧ M b 4 = σ 4) ∧ ∀ h, h < n → (M (b + 4) h = σ (5 + h) ∧ M (b + 1) h = σ (12 + h) ∧ M (b + 2) h = σ (19 + h) ∧ M (b + 3) h = σ (26 + h))
def WF (n B : Nat) (σ : Nat → Int) : Prop :=
  (0 ≤ σ 0 ∧ σ 0 ≤ B) ∧ (1 ≤ σ 1 ∧ σ 1 ≤ 20) ∧ (0 ≤ σ 2 ∧ σ 2 ≤ 999) ∧ (0 ≤ σ 4 ∧ σ 4 < 128 ∧ ∀ i, (σ 4).toNat.testBit i = true → i < n) ∧ (∀ h, h < n → (0 ≤ σ (5 + h) ∧ σ (5 + h) < n ∧ 1 ≤ σ (12 + h) ∧ σ (12 + h) ≤ 20 ∧ 0 ≤ σ (19 + h) ∧ σ (19 + h) ≤ 99 ∧ 0 ≤ σ (26 + h) ∧ σ (26 + h) ≤ 99)) ∧ ∀ a b, a < n → b < n → σ (5 + a) = σ (5 + b) → a = b
theorem RS.fr {n : Nat} {σ : Nat → Int} {M M' : Mm} {b : Nat} (h : RS n σ M b) (e : ∀ i, i < 5 → M' (b + i) = M (b + i)) : RS n σ M' b := by
  have e0 := e 0 (by omega); have e1 := e 1 (by omega); have e2 := e 2 (by omega); have e3 := e 3 (by omega); have e4 := e 4 (by omega)
  unfold RS at h ⊢
  rw [Nat.add_zero] at e0
  rw [e0, e1, e2, e3, e4]; exact h
theorem RS.frC {n : Nat} {σ : Nat → Int} {M M' : Mm} {b : Nat} {p : Nat → Prop} (h : RS n σ M b) (e : FrC p M M') (hp : ∀ i, i < 5 → ¬ p (b + i)) : RS n σ M' b := h.fr (fun i hi => e _ (hp i hi))
/-- what the town told is: houses, kinds, inks, who shuns whom, how many rains, rains, price, the two laws -/
abbrev TT : Type := Nat × (Nat → Int) × (Nat → Int) × (Nat → Int) × Nat × (Nat → Int) × Int × (Int → Int → Int → Int) × (Int → Int → Int → Int → Int → Int)
def tn (t : TT) : Nat := t.1
def tkind (t : TT) : Nat → Int := t.2.1
def tink (t : TT) : Nat → Int := t.2.2.1
def tshun (t : TT) : Nat → Int := t.2.2.2.1
def tnr (t : TT) : Nat := t.2.2.2.2.1
def train (t : TT) : Nat → Int := t.2.2.2.2.2.1
def tprice (t : TT) : Int := t.2.2.2.2.2.2.1
def tP (t : TT) : Int → Int → Int → Int := t.2.2.2.2.2.2.2.1
def tQ (t : TT) : Int → Int → Int → Int → Int → Int := t.2.2.2.2.2.2.2.2
def WT (t : TT) : Prop := tn t ≤ 7 ∧ (∀ h, h < tn t → (0 ≤ tkind t h ∧ tkind t h ≤ 3 ∧ 0 ≤ tink t h ∧ tink t h ≤ 9 ∧ 0 ≤ tshun t h ∧ tshun t h < 128)) ∧ 1 ≤ tnr t ∧ tnr t ≤ 12 ∧ (∀ i, i < tnr t → (0 ≤ train t i ∧ train t i ≤ 9)) ∧ 0 ≤ tprice t ∧ tprice t ≤ 99
/-- a law of the class, by what its walk answers -/
def LC (M : Mm) (b : Nat) (f : Int → Int → Int → Int → Int → Int) : Prop :=
  ∀ M0 : Mm, M0 b = M b → M0 (b + 1) = M (b + 1) → ∀ w d g bl wl : Int, rng w → rng d → rng g → rng bl → rng wl → S_Law_value b w d g bl wl M0 (fun r M' => r = f w d g bl wl ∧ rng r ∧ FrC (fun c => c = b + 2) M0 M')
theorem LC.fr {M M' : Mm} {b : Nat} {f : Int → Int → Int → Int → Int → Int} (h : LC M b f) (e0 : M' b = M b) (e1 : M' (b + 1) = M (b + 1)) : LC M' b f := fun M0 a0 a1 => h M0 (a0.trans e0) (a1.trans e1)
def RT (t : TT) (M : Mm) (b : Nat) : Prop :=
  (M b 9 = tn t ∧ M b 11 = tprice t ∧ M b 12 = tnr t) ∧ (∀ h, h < tn t → (M (b + 2) h = tkind t h ∧ M (b + 5) h = tink t h ∧ M (b + 6) h = tshun t h)) ∧ (∀ i, i < tnr t → M (b + 7) i = train t i) ∧
  ((M (b + 8) 3 = 0 ∧ tP t = fun w d g => if w ≤ g then d / 2 else d) ∨ (rng (M (b + 8) 3) ∧ 0 < M (b + 8) 3 ∧ LC M (b + 8) (fun w d g _ _ => tP t w d g))) ∧
  ((M (b + 11) 3 = 0 ∧ tQ t = fun _ _ _ bl _ => bl) ∨ (rng (M (b + 11) 3) ∧ 0 < M (b + 11) 3 ∧ LC M (b + 11) (tQ t)))
theorem RT.fr {t : TT} {M M' : Mm} {b : Nat} (h : RT t M b) (e : ∀ i, i < 13 → i ≠ 10 → M' (b + i) = M (b + i)) : RT t M' b := by
  have g : ∀ i, i < 13 → i ≠ 10 → M' (b + i) = M (b + i) := e
  have e0 := g 0 (by omega) (by omega); rw [Nat.add_zero] at e0
  obtain ⟨h1, h2, h3, h4, h5⟩ := h
  refine ⟨by rw [e0]; exact h1, fun q hq => ?_, fun i hi => ?_, ?_, ?_⟩
  · rw [g 2 (by omega) (by omega), g 5 (by omega) (by omega), g 6 (by omega) (by omega)]; exact h2 q hq
  · rw [g 7 (by omega) (by omega)]; exact h3 i hi
  · rw [g 8 (by omega) (by omega)]
    rcases h4 with h4 | ⟨a, a2, c⟩
    · exact Or.inl h4
    · exact Or.inr ⟨a, a2, c.fr (g 8 (by omega) (by omega)) (g 9 (by omega) (by omega))⟩
  · rw [g 11 (by omega) (by omega)]
    rcases h5 with h5 | ⟨a, a2, c⟩
    · exact Or.inl h5
    · exact Or.inr ⟨a, a2, c.fr (g 11 (by omega) (by omega)) (g 12 (by omega) (by omega))⟩
/-- where things lie -/
theorem town_at {b : Nat} (h : At shC NN b (.inl 7)) : b = 4 ∨ b = 18 := by
  have : ∀ b, b ≤ 200 → shC b = .inl 7 → b = 4 ∨ b = 18 := by decide +kernel
  exact this b h.2.2 h.1
theorem st_at {b : Nat} (h : At shC NN b (.inl 5)) : 36 ≤ b ∧ b + 4 ≤ 200 ∧ (b + 4 ≤ 57 ∨ 74 ≤ b) := by
  have : ∀ b, b ≤ 200 → shC b = .inl 5 → (36 ≤ b ∧ b + 4 ≤ 200 ∧ (b + 4 ≤ 57 ∨ 74 ≤ b)) := by decide +kernel
  exact this b h.2.2 h.1
theorem mangle_at {b : Nat} (h : At shC NN b (.inl 1)) : b = 61 := by
  have : ∀ b, b ≤ 200 → shC b = .inl 1 → b = 61 := by decide +kernel
  exact this b h.2.2 h.1
def gosB (σ : Nat → Int) (h : Nat) : Bool := !(σ 4).toNat.testBit h
abbrev zo (p : Bool) : Int := if p = true then 1 else 0
theorem zo_rng (p : Bool) : rng (zo p) := by cases p <;> decide
theorem c_goes {n B : Nat} {σ : Nat → Int} {M : Mm} {b h : Nat} (hb : At shC NN b (.inl 5)) (hS : RS n σ M b) (hw : WF n B σ) (hh : h < 32) : S_State_goes b (h : Int) M (fun r M' => M' = M ∧ r = zo (gosB σ h)) := by
  refine W_State_goes b hb _ M ?_
  obtain ⟨a, ha⟩ : ∃ a : Nat, σ 4 = (a : Int) := ⟨(σ 4).toNat, by have := hw.2.2.2.1.1; omega⟩
  have h1 := hw.2.2.2.1.2.1
  rw [hS.1.2.2.2.2, ha, bit1 hh (by omega)]
  unfold gosB
  rw [ha, Int.toNat_natCast]
  cases a.testBit h <;> simp
theorem c_isCat {t : TT} {M : Mm} {b h : Nat} (hb : At shC NN b (.inl 7)) (hT : RT t M b) (hW : WT t) (hh : h < tn t) : S_Town_isCat b (h : Int) M (fun r M' => M' = M ∧ r = zo (decide (tkind t h = 3))) := by
  have h7 := hW.1
  have hk := hW.2.1 h hh
  refine W_Town_isCat b hb _ M ?_
  rw [Int.toNat_natCast, (hT.2.1 h hh).1]
  refine ⟨by omega, by omega, fun q => ?_, fun q => ?_⟩ <;> simp [q]
def shB (t : TT) (h k : Nat) : Bool := (tshun t h).toNat.testBit k
theorem c_doesShun {t : TT} {M : Mm} {b h k : Nat} (hb : At shC NN b (.inl 7)) (hT : RT t M b) (hW : WT t) (hh : h < tn t) (hk : k < 32) : S_Town_doesShun b (h : Int) (k : Int) M (fun r M' => M' = M ∧ r = zo (shB t h k)) := by
  have h7 := hW.1
  have hq := hW.2.1 h hh
  refine W_Town_doesShun b hb _ _ M ?_
  rw [Int.toNat_natCast, (hT.2.1 h hh).2.2]
  obtain ⟨a, ha⟩ : ∃ a : Nat, tshun t h = (a : Int) := ⟨(tshun t h).toNat, by omega⟩
  rw [ha, bit1 hk (by omega)]
  unfold shB
  rw [ha, Int.toNat_natCast]
  refine ⟨by omega, fun q => ?_, fun q => ?_⟩ <;> cases h9 : a.testBit k <;> simp [h9] at q ⊢
