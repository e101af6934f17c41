theorem RS.ord {n : Nat} {σ : Nat → Int} {M : Mm} {b h : Nat} (hS : RS n σ M b) (hn : n ≤ 7) (hh : h < 7) (v : Int) : RS n (up1 σ (5 + h) v) (upr M (b + 4) (up1 (M (b + 4)) h v)) b := by
  obtain ⟨⟨a1, a2, a3, a4, a5⟩, hq⟩ := hS
  refine ⟨?_, fun q hq9 => ?_⟩
  · simp only [upr_eq, up1_eq, if_neg (show ¬ b = b + 4 by omega), if_neg (show ¬ 0 = 5 + h by omega), if_neg (show ¬ 1 = 5 + h by omega), if_neg (show ¬ 2 = 5 + h by omega), if_neg (show ¬ 3 = 5 + h by omega), if_neg (show ¬ 4 = 5 + h by omega)]
    exact ⟨a1, a2, a3, a4, a5⟩
  · obtain ⟨c1, c2, c3, c4⟩ := hq q hq9
    simp only [upr_eq, up1_eq, if_neg (show ¬ b + 1 = b + 4 by omega), if_neg (show ¬ b + 2 = b + 4 by omega), if_neg (show ¬ b + 3 = b + 4 by omega), if_pos (show b + 4 = b + 4 by rfl), if_neg (show ¬ 12 + q = 5 + h by omega), if_neg (show ¬ 19 + q = 5 + h by omega), if_neg (show ¬ 26 + q = 5 + h by omega)]
    by_cases e : q = h
    · subst e
      simp only [if_true, up1_eq]
      exact ⟨trivial, c2, c3, c4⟩
    · simp only [if_true, up1_eq, if_neg e, if_neg (show ¬ 5 + q = 5 + h by omega)]
      exact ⟨c1, c2, c3, c4⟩
theorem RS.thk {n : Nat} {σ : Nat → Int} {M : Mm} {b h : Nat} (hS : RS n σ M b) (hn : n ≤ 7) (hh : h < 7) (v : Int) : RS n (up1 σ (12 + h) v) (upr M (b + 1) (up1 (M (b + 1)) h v)) b := by
  obtain ⟨⟨a1, a2, a3, a4, a5⟩, hq⟩ := hS
  refine ⟨?_, fun q hq9 => ?_⟩
  · simp only [upr_eq, up1_eq, if_neg (show ¬ b = b + 1 by omega), if_neg (show ¬ 0 = 12 + h by omega), if_neg (show ¬ 1 = 12 + h by omega), if_neg (show ¬ 2 = 12 + h by omega), if_neg (show ¬ 3 = 12 + h by omega), if_neg (show ¬ 4 = 12 + h by omega)]
    exact ⟨a1, a2, a3, a4, a5⟩
  · obtain ⟨c1, c2, c3, c4⟩ := hq q hq9
    simp only [upr_eq, up1_eq, if_neg (show ¬ b + 2 = b + 1 by omega), if_neg (show ¬ b + 3 = b + 1 by omega), if_neg (show ¬ b + 4 = b + 1 by omega), if_pos (show b + 1 = b + 1 by rfl), if_neg (show ¬ 5 + q = 12 + h by omega), if_neg (show ¬ 19 + q = 12 + h by omega), if_neg (show ¬ 26 + q = 12 + h by omega)]
    by_cases e : q = h
    · subst e
      simp only [if_true, up1_eq]
      exact ⟨c1, trivial, c3, c4⟩
    · simp only [if_true, up1_eq, if_neg e, if_neg (show ¬ 12 + q = 12 + h by omega)]
      exact ⟨c1, c2, c3, c4⟩
theorem RS.wet {n : Nat} {σ : Nat → Int} {M : Mm} {b h : Nat} (hS : RS n σ M b) (hn : n ≤ 7) (hh : h < 7) (v : Int) : RS n (up1 σ (19 + h) v) (upr M (b + 2) (up1 (M (b + 2)) h v)) b := by
  obtain ⟨⟨a1, a2, a3, a4, a5⟩, hq⟩ := hS
  refine ⟨?_, fun q hq9 => ?_⟩
  · simp only [upr_eq, up1_eq, if_neg (show ¬ b = b + 2 by omega), if_neg (show ¬ 0 = 19 + h by omega), if_neg (show ¬ 1 = 19 + h by omega), if_neg (show ¬ 2 = 19 + h by omega), if_neg (show ¬ 3 = 19 + h by omega), if_neg (show ¬ 4 = 19 + h by omega)]
    exact ⟨a1, a2, a3, a4, a5⟩
  · obtain ⟨c1, c2, c3, c4⟩ := hq q hq9
    simp only [upr_eq, up1_eq, if_neg (show ¬ b + 1 = b + 2 by omega), if_neg (show ¬ b + 3 = b + 2 by omega), if_neg (show ¬ b + 4 = b + 2 by omega), if_pos (show b + 2 = b + 2 by rfl), if_neg (show ¬ 5 + q = 19 + h by omega), if_neg (show ¬ 12 + q = 19 + h by omega), if_neg (show ¬ 26 + q = 19 + h by omega)]
    by_cases e : q = h
    · subst e
      simp only [if_true, up1_eq]
      exact ⟨c1, c2, trivial, c4⟩
    · simp only [if_true, up1_eq, if_neg e, if_neg (show ¬ 19 + q = 19 + h by omega)]
      exact ⟨c1, c2, c3, c4⟩
theorem RS.prn {n : Nat} {σ : Nat → Int} {M : Mm} {b h : Nat} (hS : RS n σ M b) (hn : n ≤ 7) (hh : h < 7) (v : Int) : RS n (up1 σ (26 + h) v) (upr M (b + 3) (up1 (M (b + 3)) h v)) b := by
  obtain ⟨⟨a1, a2, a3, a4, a5⟩, hq⟩ := hS
  refine ⟨?_, fun q hq9 => ?_⟩
  · simp only [upr_eq, up1_eq, if_neg (show ¬ b = b + 3 by omega), if_neg (show ¬ 0 = 26 + h by omega), if_neg (show ¬ 1 = 26 + h by omega), if_neg (show ¬ 2 = 26 + h by omega), if_neg (show ¬ 3 = 26 + h by omega), if_neg (show ¬ 4 = 26 + h by omega)]
    exact ⟨a1, a2, a3, a4, a5⟩
  · obtain ⟨c1, c2, c3, c4⟩ := hq q hq9
    simp only [upr_eq, up1_eq, if_neg (show ¬ b + 1 = b + 3 by omega), if_neg (show ¬ b + 2 = b + 3 by omega), if_neg (show ¬ b + 4 = b + 3 by omega), if_pos (show b + 3 = b + 3 by rfl), if_neg (show ¬ 5 + q = 26 + h by omega), if_neg (show ¬ 12 + q = 26 + h by omega), if_neg (show ¬ 19 + q = 26 + h by omega)]
    by_cases e : q = h
    · subst e
      simp only [if_true, up1_eq]
      exact ⟨c1, c2, c3, trivial⟩
    · simp only [if_true, up1_eq, if_neg e, if_neg (show ¬ 26 + q = 26 + h by omega)]
      exact ⟨c1, c2, c3, c4⟩
theorem RS.frt {n : Nat} {σ : Nat → Int} {M : Mm} {b : Nat} (hS : RS n σ M b) (v : Int) : RS n (up1 σ 0 v) (upr M b (up1 (M b) 6 v)) b := by
  obtain ⟨⟨a1, a2, a3, a4, a5⟩, hq⟩ := hS
  refine ⟨?_, fun q hq9 => ?_⟩
  · simp only [upr_eq, up1_eq, if_true]
    simp [a1, a2, a3, a4, a5]
  · obtain ⟨c1, c2, c3, c4⟩ := hq q hq9
    simp only [upr_eq, up1_eq, if_neg (show ¬ b + 1 = b by omega), if_neg (show ¬ b + 2 = b by omega), if_neg (show ¬ b + 3 = b by omega), if_neg (show ¬ b + 4 = b by omega), if_neg (show ¬ 5 + q = 0 by omega), if_neg (show ¬ 12 + q = 0 by omega), if_neg (show ¬ 19 + q = 0 by omega), if_neg (show ¬ 26 + q = 0 by omega)]
    exact ⟨c1, c2, c3, c4⟩
theorem RS.gap {n : Nat} {σ : Nat → Int} {M : Mm} {b : Nat} (hS : RS n σ M b) (v : Int) : RS n (up1 σ 1 v) (upr M b (up1 (M b) 5 v)) b := by
  obtain ⟨⟨a1, a2, a3, a4, a5⟩, hq⟩ := hS
  refine ⟨?_, fun q hq9 => ?_⟩
  · simp only [upr_eq, up1_eq, if_true]
    simp [a1, a2, a3, a4, a5]
  · obtain ⟨c1, c2, c3, c4⟩ := hq q hq9
    simp only [upr_eq, up1_eq, if_neg (show ¬ b + 1 = b by omega), if_neg (show ¬ b + 2 = b by omega), if_neg (show ¬ b + 3 = b by omega), if_neg (show ¬ b + 4 = b by omega), if_neg (show ¬ 5 + q = 1 by omega), if_neg (show ¬ 12 + q = 1 by omega), if_neg (show ¬ 19 + q = 1 by omega), if_neg (show ¬ 26 + q = 1 by omega)]
    exact ⟨c1, c2, c3, c4⟩
theorem RS.pts {n : Nat} {σ : Nat → Int} {M : Mm} {b : Nat} (hS : RS n σ M b) (v : Int) : RS n (up1 σ 2 v) (upr M b (up1 (M b) 7 v)) b := by
  obtain ⟨⟨a1, a2, a3, a4, a5⟩, hq⟩ := hS
  refine ⟨?_, fun q hq9 => ?_⟩
  · simp only [upr_eq, up1_eq, if_true]
    simp [a1, a2, a3, a4, a5]
  · obtain ⟨c1, c2, c3, c4⟩ := hq q hq9
    simp only [upr_eq, up1_eq, if_neg (show ¬ b + 1 = b by omega), if_neg (show ¬ b + 2 = b by omega), if_neg (show ¬ b + 3 = b by omega), if_neg (show ¬ b + 4 = b by omega), if_neg (show ¬ 5 + q = 2 by omega), if_neg (show ¬ 12 + q = 2 by omega), if_neg (show ¬ 19 + q = 2 by omega), if_neg (show ¬ 26 + q = 2 by omega)]
    exact ⟨c1, c2, c3, c4⟩
theorem RS.cns {n : Nat} {σ : Nat → Int} {M : Mm} {b : Nat} (hS : RS n σ M b) (v : Int) : RS n (up1 σ 3 v) (upr M b (up1 (M b) 8 v)) b := by
  obtain ⟨⟨a1, a2, a3, a4, a5⟩, hq⟩ := hS
  refine ⟨?_, fun q hq9 => ?_⟩
  · simp only [upr_eq, up1_eq, if_true]
    simp [a1, a2, a3, a4, a5]
  · obtain ⟨c1, c2, c3, c4⟩ := hq q hq9
    simp only [upr_eq, up1_eq, if_neg (show ¬ b + 1 = b by omega), if_neg (show ¬ b + 2 = b by omega), if_neg (show ¬ b + 3 = b by omega), if_neg (show ¬ b + 4 = b by omega), if_neg (show ¬ 5 + q = 3 by omega), if_neg (show ¬ 12 + q = 3 by omega), if_neg (show ¬ 19 + q = 3 by omega), if_neg (show ¬ 26 + q = 3 by omega)]
    exact ⟨c1, c2, c3, c4⟩
theorem RS.rod {n : Nat} {σ : Nat → Int} {M : Mm} {b : Nat} (hS : RS n σ M b) (v : Int) : RS n (up1 σ 4 v) (upr M b (up1 (M b) 4 v)) b := by
  obtain ⟨⟨a1, a2, a3, a4, a5⟩, hq⟩ := hS
  refine ⟨?_, fun q hq9 => ?_⟩
  · simp only [upr_eq, up1_eq, if_true]
    simp [a1, a2, a3, a4, a5]
  · obtain ⟨c1, c2, c3, c4⟩ := hq q hq9
    simp only [upr_eq, up1_eq, if_neg (show ¬ b + 1 = b by omega), if_neg (show ¬ b + 2 = b by omega), if_neg (show ¬ b + 3 = b by omega), if_neg (show ¬ b + 4 = b by omega), if_neg (show ¬ 5 + q = 4 by omega), if_neg (show ¬ 12 + q = 4 by omega), if_neg (show ¬ 19 + q = 4 by omega), if_neg (show ¬ 26 + q = 4 by omega)]
    exact ⟨c1, c2, c3, c4⟩
theorem WF.wet {n B : Nat} {σ : Nat → Int} {h : Nat} (hh : h < 7) (hw : WF n B σ) (hn : n ≤ 7) {v : Int} (hv : 0 ≤ v ∧ v ≤ 99) : WF n B (up1 σ (19 + h) v) := by
  obtain ⟨w1, w2, w3, w4, w5, w6⟩ := hw
  have e : ∀ i, up1 σ (19 + h) v i = if i = 19 + h then v else σ i := fun _ => rfl
  refine ⟨by rw [e]; omega, by rw [e]; omega, by rw [e]; omega, by rw [e]; rw [if_neg (by omega)]; exact w4, fun q hq => ?_, fun p q hp hq => ?_⟩
  · have := w5 q hq
    simp only [e]
    omega
  · have := w6 p q hp hq
    simp only [e]
    rw [if_neg (by omega), if_neg (by omega)]
    exact this
theorem WF.thk {n B : Nat} {σ : Nat → Int} {h : Nat} (hh : h < 7) (hw : WF n B σ) (hn : n ≤ 7) {v : Int} (hv : 1 ≤ v ∧ v ≤ 20) : WF n B (up1 σ (12 + h) v) := by
  obtain ⟨w1, w2, w3, w4, w5, w6⟩ := hw
  have e : ∀ i, up1 σ (12 + h) v i = if i = 12 + h then v else σ i := fun _ => rfl
  refine ⟨by rw [e]; omega, by rw [e]; omega, by rw [e]; omega, by rw [e]; rw [if_neg (by omega)]; exact w4, fun q hq => ?_, fun p q hp hq => ?_⟩
  · have := w5 q hq
    simp only [e]
    omega
  · have := w6 p q hp hq
    simp only [e]
    rw [if_neg (by omega), if_neg (by omega)]
    exact this
theorem WF.prn {n B : Nat} {σ : Nat → Int} {h : Nat} (hh : h < 7) (hw : WF n B σ) (hn : n ≤ 7) {v : Int} (hv : 0 ≤ v ∧ v ≤ 99) : WF n B (up1 σ (26 + h) v) := by
  obtain ⟨w1, w2, w3, w4, w5, w6⟩ := hw
  have e : ∀ i, up1 σ (26 + h) v i = if i = 26 + h then v else σ i := fun _ => rfl
  refine ⟨by rw [e]; omega, by rw [e]; omega, by rw [e]; omega, by rw [e]; rw [if_neg (by omega)]; exact w4, fun q hq => ?_, fun p q hp hq => ?_⟩
  · have := w5 q hq
    simp only [e]
    omega
  · have := w6 p q hp hq
    simp only [e]
    rw [if_neg (by omega), if_neg (by omega)]
    exact this
theorem WF.gap {n B : Nat} {σ : Nat → Int}  (hw : WF n B σ) (hn : n ≤ 7) {v : Int} (hv : 1 ≤ v ∧ v ≤ 20) : WF n B (up1 σ (1) v) := by
  obtain ⟨w1, w2, w3, w4, w5, w6⟩ := hw
  have e : ∀ i, up1 σ (1) v i = if i = 1 then v else σ i := fun _ => rfl
  refine ⟨by rw [e]; omega, by rw [e]; omega, by rw [e]; omega, by rw [e]; rw [if_neg (by omega)]; exact w4, fun q hq => ?_, fun p q hp hq => ?_⟩
  · have := w5 q hq
    simp only [e]
    omega
  · have := w6 p q hp hq
    simp only [e]
    rw [if_neg (by omega), if_neg (by omega)]
    exact this
theorem WF.pts {n B : Nat} {σ : Nat → Int}  (hw : WF n B σ) (hn : n ≤ 7) {v : Int} (hv : 0 ≤ v ∧ v ≤ 999) : WF n B (up1 σ (2) v) := by
  obtain ⟨w1, w2, w3, w4, w5, w6⟩ := hw
  have e : ∀ i, up1 σ (2) v i = if i = 2 then v else σ i := fun _ => rfl
  refine ⟨by rw [e]; omega, by rw [e]; omega, by rw [e]; omega, by rw [e]; rw [if_neg (by omega)]; exact w4, fun q hq => ?_, fun p q hp hq => ?_⟩
  · have := w5 q hq
    simp only [e]
    omega
  · have := w6 p q hp hq
    simp only [e]
    rw [if_neg (by omega), if_neg (by omega)]
    exact this
theorem WF.cns {n B : Nat} {σ : Nat → Int}  (hw : WF n B σ) (hn : n ≤ 7) {v : Int} (hv : True) : WF n B (up1 σ (3) v) := by
  obtain ⟨w1, w2, w3, w4, w5, w6⟩ := hw
  have e : ∀ i, up1 σ (3) v i = if i = 3 then v else σ i := fun _ => rfl
  refine ⟨by rw [e]; omega, by rw [e]; omega, by rw [e]; omega, by rw [e]; rw [if_neg (by omega)]; exact w4, fun q hq => ?_, fun p q hp hq => ?_⟩
  · have := w5 q hq
    simp only [e]
    omega
  · have := w6 p q hp hq
    simp only [e]
    rw [if_neg (by omega), if_neg (by omega)]
    exact this
theorem WF.rod {n B : Nat} {σ : Nat → Int}  (hw : WF n B σ) (hn : n ≤ 7) {v : Int} (hv : 0 ≤ v ∧ v < 128 ∧ ∀ i, v.toNat.testBit i = true → i < n) : WF n B (up1 σ (4) v) := by
  obtain ⟨w1, w2, w3, w4, w5, w6⟩ := hw
  have e : ∀ i, up1 σ (4) v i = if i = 4 then v else σ i := fun _ => rfl
  refine ⟨by rw [e]; omega, by rw [e]; omega, by rw [e]; omega, by rw [e]; split; exact ⟨hv.1, hv.2.1, hv.2.2⟩; exact w4, fun q hq => ?_, fun p q hp hq => ?_⟩
  · have := w5 q hq
    simp only [e]
    omega
  · have := w6 p q hp hq
    simp only [e]
    rw [if_neg (by omega), if_neg (by omega)]
    exact this
theorem WF.frt {n B : Nat} {σ : Nat → Int} (hw : WF n B σ) : WF n (B + 1) (up1 σ 0 (σ 0 + 1)) := by
  obtain ⟨w1, w2, w3, w4, w5, w6⟩ := hw
  have e : ∀ i, up1 σ 0 (σ 0 + 1) i = if i = 0 then σ 0 + 1 else σ i := fun _ => rfl
  refine ⟨by rw [e]; simp; omega, by rw [e]; simpa using w2, by rw [e]; simpa using w3, by rw [e]; simpa using w4, fun q hq => ?_, fun p q hp hq => ?_⟩
  · have := w5 q hq
    simp only [e, if_neg (show ¬ 5 + q = 0 by omega), if_neg (show ¬ 12 + q = 0 by omega), if_neg (show ¬ 19 + q = 0 by omega), if_neg (show ¬ 26 + q = 0 by omega)]
    exact this
  · have := w6 p q hp hq
    simp only [e, if_neg (show ¬ 5 + p = 0 by omega), if_neg (show ¬ 5 + q = 0 by omega)]
    exact this
theorem WF.mono {n B B' : Nat} {σ : Nat → Int} (hw : WF n B σ) (h : B ≤ B') : WF n B' σ := ⟨⟨hw.1.1, by have := hw.1.2; omega⟩, hw.2⟩
