def enc (b : Int) (l : List Nat) : Int := l.foldl (fun (a : Int) (x : Nat) => a * b + (x : Int)) 0
def okw (l : List Nat) : Prop := l.length ≤ 8 ∧ ∀ x ∈ l, 1 ≤ x ∧ x ≤ 26
/-- the state as told: the model's row behind fresh -/
def st0 (n : Nat) (N : Mm) : Nat → Int := fun i => if i = 1 then N 3 1 else if 5 ≤ i ∧ i < 5 + n then ((i - 5 : Nat) : Int) else if 12 ≤ i ∧ i < 12 + n then N 6 (i - 12) else if 19 ≤ i ∧ i < 19 + n then N 7 (i - 19) else 0
def SimT (t : TT) (tb : Nat) (M N : Mm) : Prop := (tb = 4 ∨ tb = 18) ∧ M 1 1 = (tb : Int) ∧ M 1 2 = 22 - (tb : Int) ∧ RT t M tb ∧ RM t N ∧ (∀ h, h < tn t → ∃ l, okw l ∧ M (tb + 1) h = enc 32 l ∧ N 4 h = enc 27 l) ∧ (M 12 0 = 0 ∧ M 15 0 = 1 ∧ M 26 0 = 0 ∧ M 29 0 = 1)
def SimS (n : Nat) (M N : Mm) : Prop := RS n (st0 n N) M 36 ∧ WF n 0 (st0 n N)
def SimN (n B : Nat) (M N : Mm) : Prop := RS n (N 34) M 42 ∧ WF n B (N 34)
def SimP (M N : Mm) : Prop := ∃ len : Nat, M 2 1 = (len : Int) ∧ N 1 1 = (len : Int) ∧ len ≤ 1000 ∧ ∀ i, i < len → (M 3 i = N 2 i ∧ (M 3 i = 10 ∨ (32 ≤ M 3 i ∧ M 3 i ≤ 126)))
def SimY (n : Nat) (M N : Mm) (yb sl : Nat) : Prop := ∃ L : Nat, M yb 3 = (L : Int) ∧ N 26 sl = (L : Int) ∧ L ≤ 40 ∧ ∀ i, i < L → (M (yb + 1) i = N 27 (40 * sl + i) ∧ (0 ≤ M (yb + 1) i ∧ M (yb + 1) i ≤ 3) ∧ (M (yb + 1) i ≤ 1 → (M (yb + 2) i = N 28 (40 * sl + i) ∧ 0 ≤ M (yb + 2) i ∧ M (yb + 2) i < n)) ∧ (M (yb + 1) i = 0 → (M (yb + 3) i = N 29 (40 * sl + i) ∧ 0 ≤ M (yb + 3) i ∧ M (yb + 3) i ≤ 6)) ∧ (M (yb + 1) i = 3 → (M (yb + 3) i = N 29 (40 * sl + i) ∧ 1 ≤ M (yb + 3) i ∧ M (yb + 3) i ≤ 99)))
def SimH (n : Nat) (M N : Mm) (sb sl : Nat) : Prop := (M sb 5 = N 30 sl ∧ -1 ≤ M sb 5 ∧ M sb 5 ≤ 693) ∧ ∃ k : Nat, M sb 4 = (k : Int) ∧ N 31 sl = (k : Int) ∧ k ≤ 8 ∧ ∀ i, i < k → (M (sb + 10) i = N 32 (8 * sl + i) ∧ M (sb + 11) i = N 33 (8 * sl + i) ∧ 0 ≤ M (sb + 10) i ∧ M (sb + 10) i < n ∧ 0 ≤ M (sb + 11) i ∧ M (sb + 11) i < n)
def SimU (n B : Nat) (M N : Mm) : Prop := ∃ nx d : Nat, M 1 10 = (nx : Int) ∧ M 1 11 = (d : Int) ∧ N 1 50 = (d : Int) ∧ nx < 16 ∧ d ≤ 16 ∧ ∀ i, i < d → (RS n (fun j => N 37 (33 * i + j)) M (121 + 5 * ((nx + 16 - d + i) % 16)) ∧ WF n B (fun j => N 37 (33 * i + j)))
def SimM (n B : Nat) (M N : Mm) : Prop := ∀ i, i < 4 → (M 59 i = N 38 i ∧ (N 38 i = 0 ∨ N 38 i = 1) ∧ (N 38 i = 1 → (RS n (fun j => N 36 (33 * i + j)) M (74 + 12 * i) ∧ WF n B (fun j => N 36 (33 * i + j)) ∧ SimY n M N (79 + 12 * i) (i + 1) ∧ SimH n M N (73 + 12 * i) (i + 1))))
def Sim (t : TT) (tb B : Nat) (M N : Mm) : Prop := WT t ∧ SimT t tb M N ∧ SimS (tn t) M N ∧ SimN (tn t) B M N ∧ SimP M N ∧ SimY (tn t) M N 47 0 ∧ SimH (tn t) M N 41 0 ∧ SimU (tn t) B M N ∧ SimM (tn t) B M N
theorem RS.cg {n : Nat} {σ σ' : Nat → Int} {M : Mm} {b : Nat} (h : RS n σ M b) (hn : n ≤ 7) (e : ∀ i, i < 33 → σ' i = σ i) : RS n σ' M b := by
  obtain ⟨a, c⟩ := h
  refine ⟨by rw [e 0 (by omega), e 1 (by omega), e 2 (by omega), e 3 (by omega), e 4 (by omega)]; exact a, fun h hh => ?_⟩
  rw [e (5 + h) (by omega), e (12 + h) (by omega), e (19 + h) (by omega), e (26 + h) (by omega)]
  exact c h hh
theorem WF.cg {n B : Nat} {σ σ' : Nat → Int} (h : WF n B σ) (hn : n ≤ 7) (e : ∀ i, i < 33 → σ' i = σ i) : WF n B σ' := by
  obtain ⟨w1, w2, w3, w4, w5, w6⟩ := h
  refine ⟨by rw [e 0 (by omega)]; exact w1, by rw [e 1 (by omega)]; exact w2, by rw [e 2 (by omega)]; exact w3, by rw [e 4 (by omega)]; exact w4, fun h hh => ?_, fun a b ha hb => ?_⟩
  · rw [e (5 + h) (by omega), e (12 + h) (by omega), e (19 + h) (by omega), e (26 + h) (by omega)]
    exact w5 h hh
  · rw [e (5 + a) (by omega), e (5 + b) (by omega)]
    exact w6 a b ha hb
theorem SimT.fr {t : TT} {tb : Nat} {M N M' N' : Mm} (h : SimT t tb M N) (e1 : M' 1 1 = M 1 1) (e2 : M' 1 2 = M 1 2) (e : ∀ c, 4 ≤ c → c ≤ 31 → c ≠ tb + 10 → c ≠ tb + 13 → M' c = M c) (f : ∀ c, 3 ≤ c → c ≤ 13 → N' c = N c) : SimT t tb M' N' := by
  obtain ⟨h1, h2, h3, h4, h5, h6, h7⟩ := h
  refine ⟨h1, e1.trans h2, e2.trans h3, h4.fr (fun i a b => e _ (by omega) (by omega) (by omega) (by omega)), h5.fr (f 3 (by omega) (by omega)) (fun c a b => f c (by omega) b), fun q hq => ?_, ?_⟩
  · rw [e (tb + 1) (by omega) (by omega) (by omega) (by omega), f 4 (by omega) (by omega)]
    exact h6 q hq
  · rw [e 12 (by omega) (by omega) (by omega) (by omega), e 15 (by omega) (by omega) (by omega) (by omega), e 26 (by omega) (by omega) (by omega) (by omega), e 29 (by omega) (by omega) (by omega) (by omega)]
    exact h7
theorem SimS.fr {n : Nat} {M N M' N' : Mm} (h : SimS n M N) (e : ∀ c, 36 ≤ c → c ≤ 40 → M' c = M c) (f : ∀ c, c = 3 ∨ c = 6 ∨ c = 7 → N' c = N c) : SimS n M' N' := by
  have e0 : st0 n N' = st0 n N := by
    funext i
    unfold st0
    rw [f 3 (by omega), f 6 (by omega), f 7 (by omega)]
  unfold SimS
  rw [e0]
  exact ⟨h.1.fr (fun i hi => e _ (by omega) (by omega)), h.2⟩
theorem SimP.fr {M N M' N' : Mm} (h : SimP M N) (e2 : M' 2 1 = M 2 1) (e3 : M' 3 = M 3) (f1 : N' 1 1 = N 1 1) (f2 : N' 2 = N 2) : SimP M' N' := by
  unfold SimP at h ⊢
  rw [e2, e3, f1, f2]; exact h
theorem SimY.fr {n yb sl : Nat} {M N M' N' : Mm} (h : SimY n M N yb sl) (e : ∀ i, i < 4 → M' (yb + i) = M (yb + i)) (f : ∀ c, 26 ≤ c → c ≤ 29 → N' c = N c) : SimY n M' N' yb sl := by
  have e0 := e 0 (by omega); rw [Nat.add_zero] at e0
  unfold SimY at h ⊢
  rw [e0, e 1 (by omega), e 2 (by omega), e 3 (by omega), f 26 (by omega) (by omega), f 27 (by omega) (by omega), f 28 (by omega) (by omega), f 29 (by omega) (by omega)]
  exact h
theorem SimH.fr {n sb sl : Nat} {M N M' N' : Mm} (h : SimH n M N sb sl) (e0 : M' sb = M sb) (e1 : M' (sb + 10) = M (sb + 10)) (e2 : M' (sb + 11) = M (sb + 11)) (f : ∀ c, 30 ≤ c → c ≤ 33 → N' c = N c) : SimH n M' N' sb sl := by
  unfold SimH at h ⊢
  rw [e0, e1, e2, f 30 (by omega) (by omega), f 31 (by omega) (by omega), f 32 (by omega) (by omega), f 33 (by omega) (by omega)]
  exact h
theorem SimU.fr {n B B' : Nat} {M N M' N' : Mm} (h : SimU n B M N) (hB : B ≤ B') (e1 : M' 1 10 = M 1 10) (e2 : M' 1 11 = M 1 11) (e : ∀ c, 121 ≤ c → c ≤ 200 → M' c = M c) (f1 : N' 1 50 = N 1 50) (f : N' 37 = N 37) : SimU n B' M' N' := by
  obtain ⟨nx, d, h1, h2, h3, h4, h5, h6⟩ := h
  refine ⟨nx, d, e1.trans h1, e2.trans h2, f1.trans h3, h4, h5, fun i hi => ?_⟩
  rw [f]
  have hm := Nat.mod_lt (nx + 16 - d + i) (show 0 < 16 by omega)
  exact ⟨(h6 i hi).1.fr (fun j hj => e _ (by omega) (by omega)), (h6 i hi).2.mono hB⟩
theorem SimM.fr {n B B' : Nat} {M N M' N' : Mm} (h : SimM n B M N) (hB : B ≤ B') (e1 : M' 59 = M 59) (e : ∀ c, 73 ≤ c → c ≤ 120 → M' c = M c) (f : ∀ c, 26 ≤ c → c ≤ 33 → N' c = N c) (f36 : N' 36 = N 36) (f38 : N' 38 = N 38) : SimM n B' M' N' := by
  intro i hi
  obtain ⟨h1, h2, h3⟩ := h i hi
  rw [e1, f38, f36]
  refine ⟨h1, h2, fun q => ?_⟩
  obtain ⟨a, b, c, d⟩ := h3 q
  exact ⟨a.fr (fun j hj => e _ (by omega) (by omega)), b.mono hB, c.fr (fun j hj => e _ (by omega) (by omega)) (fun c a b => f c (by omega) (by omega)), d.fr (e _ (by omega) (by omega)) (e _ (by omega) (by omega)) (e _ (by omega) (by omega)) (fun c a b => f c (by omega) (by omega))⟩
/-- what a question may leave otherwise: of the class's cells, of the model's, of the model's own slots -/
abbrev scC (tb c : Nat) : Prop := c = tb + 10 ∨ c = tb + 13 ∨ (53 ≤ c ∧ c ≤ 57) ∨ (61 ≤ c ∧ c ≤ 72)
abbrev scM (c : Nat) : Prop := (14 ≤ c ∧ c ≤ 25) ∨ c = 34 ∨ c = 35 ∨ 39 ≤ c
abbrev scQ (k : Nat) : Prop := k = 0 ∨ (3 ≤ k ∧ k ≤ 49) ∨ 51 ≤ k
theorem Sim.ask {t : TT} {tb B : Nat} {M N M' N' : Mm} (h : Sim t tb B M N) (e : FrC (scC tb) M M') (f : FrM scM scQ N N') (f34 : ∀ i, i < 33 → N' 34 i = N 34 i) : Sim t tb B M' N' := by
  obtain ⟨hW, hT, hS, hN, hP, hY, hH, hU, hM⟩ := h
  have hn := hW.1
  have htb := hT.1
  have e1 : M' 1 = M 1 := e 1 (by omega)
  have e2 : M' 2 = M 2 := e 2 (by omega)
  have e59 : M' 59 = M 59 := e 59 (by omega)
  refine ⟨hW, hT.fr (by rw [e1]) (by rw [e1]) (fun c h1 h2 h3 h4 => e _ (by omega)) (fun c h1 h2 => f.1 c (by omega) (by omega)), hS.fr (fun c h1 h2 => e c (by omega)) (fun c h1 => f.1 c (by omega) (by omega)), ⟨(hN.1.fr (fun i hi => e _ (by omega))).cg hn f34, hN.2.cg hn f34⟩, hP.fr (by rw [e2]) (e 3 (by omega)) (f.2 1 (by omega)) (f.1 2 (by omega) (by omega)), hY.fr (fun i hi => e _ (by omega)) (fun c h1 h2 => f.1 c (by omega) (by omega)), hH.fr (e 41 (by omega)) (e 51 (by omega)) (e 52 (by omega)) (fun c h1 h2 => f.1 c (by omega) (by omega)), hU.fr (Nat.le_refl _) (by rw [e1]) (by rw [e1]) (fun c h1 h2 => e c (by omega)) (f.2 50 (by omega)) (f.1 37 (by omega) (by omega)), hM.fr (Nat.le_refl _) e59 (fun c h1 h2 => e c (by omega)) (fun c h1 h2 => f.1 c (by omega) (by omega)) (f.1 36 (by omega) (by omega)) (f.1 38 (by omega) (by omega))⟩
