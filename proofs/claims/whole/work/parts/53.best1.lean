def blt (t : TT) (σ : Nat → Int) (l h : Nat) : Int := if l = 7 then 0 else prt t σ l h
theorem blt_in {t : TT} {σ : Nat → Int} {l h : Nat} : 0 ≤ blt t σ l h ∧ blt t σ l h ≤ 9 := by
  unfold blt
  split
  · omega
  · exact prt_in
def mnv (g : Nat → Int) : Nat → Int
  | 0 => 9999
  | k + 1 => min (mnv g k) (g k)
theorem mnv_le {g : Nat → Int} : ∀ k, mnv g k ≤ 9999
  | 0 => Int.le_refl _
  | k + 1 => by have := mnv_le (g := g) k; rw [mnv]; omega
theorem mnv_at {g : Nat → Int} {h : Nat} : ∀ k, h < k → mnv g k ≤ g h
  | 0, hh => by omega
  | k + 1, hh => by
    rw [mnv]
    by_cases e : h = k
    · subst e; omega
    · have := mnv_at (g := g) k (show h < k by omega); omega
theorem mnv_ex {g : Nat → Int} : ∀ k, mnv g k = 9999 ∨ ∃ h, h < k ∧ g h = mnv g k
  | 0 => Or.inl rfl
  | k + 1 => by
    rw [mnv]
    rcases mnv_ex (g := g) k with e | ⟨h, h1, h2⟩
    · by_cases c : g k ≤ mnv g k
      · exact Or.inr ⟨k, by omega, by omega⟩
      · exact Or.inl (by omega)
    · by_cases c : g k ≤ mnv g k
      · exact Or.inr ⟨k, by omega, by omega⟩
      · exact Or.inr ⟨h, by omega, by omega⟩
theorem mnv_ge {g : Nat → Int} : ∀ k, (∀ h, h < k → 0 ≤ g h) → 0 ≤ mnv g k
  | 0, _ => by rw [mnv]; omega
  | k + 1, hg => by
    have := mnv_ge (g := g) k (fun h hh => hg h (by omega))
    have := hg k (by omega)
    rw [mnv]; omega
theorem mnv_ext {f g : Nat → Int} : ∀ {k : Nat}, (∀ i, i < k → f i = g i) → mnv f k = mnv g k
  | 0, _ => rfl
  | k + 1, h => by rw [mnv, mnv, mnv_ext (fun i hi => h i (by omega)), h k (by omega)]
/-- the least that is printed on those left, behind l; u: none may be shunned -/
def dpv (t : TT) (σ : Nat → Int) (u : Bool) : Nat → Nat → Nat → Int
  | 0, _, _ => 0
  | f + 1, L, l => if L = 0 then 0 else mnv (fun h => if L.testBit h = true then (if u = true ∧ shL t h l = true then 9999 else blt t σ l h + dpv t σ u f (tg L h) (nxL t h l)) else 9999) (tn t)
theorem dpv_st (t : TT) (σ : Nat → Int) (u : Bool) : ∀ f L l, L < f → dpv t σ u f L l = dpv t σ u (f + 1) L l
  | 0, L, l, h => by omega
  | f + 1, L, l, h => by
    rw [dpv, dpv]
    by_cases e : L = 0
    · rw [if_pos e, if_pos e]
    · rw [if_neg e, if_neg e]
      refine mnv_ext (fun i hi => ?_)
      by_cases c : L.testBit i = true
      · rw [if_pos c, if_pos c]
        have := tg_dn c
        rw [dpv_st t σ u f _ _ (by omega)]
      · rw [if_neg c, if_neg c]
def dp (t : TT) (σ : Nat → Int) (u : Bool) (L l : Nat) : Int := dpv t σ u 128 L l
def cst (t : TT) (σ : Nat → Int) (u : Bool) (L l h : Nat) : Int := if u = true ∧ shL t h l = true then 9999 else blt t σ l h + dp t σ u (tg L h) (nxL t h l)
abbrev trm (t : TT) (σ : Nat → Int) (u : Bool) (L l h : Nat) : Int := if L.testBit h = true then cst t σ u L l h else 9999
theorem dp_eq (t : TT) (σ : Nat → Int) (u : Bool) {L : Nat} (l : Nat) (hL : L < 128) : dp t σ u L l = if L = 0 then 0 else mnv (trm t σ u L l) (tn t) := by
  show dpv t σ u (127 + 1) L l = _
  rw [dpv]
  by_cases e : L = 0
  · rw [if_pos e, if_pos e]
  · rw [if_neg e, if_neg e]
    refine mnv_ext (fun i hi => ?_)
    show _ = if L.testBit i = true then cst t σ u L l i else 9999
    by_cases c : L.testBit i = true
    · rw [if_pos c, if_pos c]
      have := tg_dn c
      have e2 : dpv t σ u 127 (tg L i) (nxL t i l) = dp t σ u (tg L i) (nxL t i l) := dpv_st t σ u 127 _ _ (by omega)
      unfold cst
      rw [e2]
    · rw [if_neg c, if_neg c]
theorem dp_0 {t : TT} {σ : Nat → Int} {u : Bool} {l : Nat} : dp t σ u 0 l = 0 := by rw [dp_eq t σ u l (by omega), if_pos rfl]
theorem dp_in {t : TT} {σ : Nat → Int} {u : Bool} (hn : tn t ≤ 7) : ∀ L, L < 128 → ∀ l, 0 ≤ dp t σ u L l ∧ dp t σ u L l ≤ 9999 ∧ (dp t σ u L l < 9999 → dp t σ u L l ≤ ((9 * pcN L : Nat) : Int)) := by
  intro L
  induction L using Nat.strongRecOn with
  | _ L ih =>
    intro hL l
    rw [dp_eq t σ u l hL]
    by_cases e : L = 0
    · rw [if_pos e]; omega
    · rw [if_neg e]
      refine ⟨mnv_ge _ (fun h hh => ?_), mnv_le _, fun hlt => ?_⟩
      · show 0 ≤ if L.testBit h = true then cst t σ u L l h else 9999
        split
        · rename_i c
          have := (ih (tg L h) (tg_dn c) (tg128 hL (by omega)) (nxL t h l)).1
          have := blt_in (t := t) (σ := σ) (l := l) (h := h)
          unfold cst
          split <;> omega
        · omega
      · rcases mnv_ex (g := trm t σ u L l) (tn t) with z | ⟨h, h1, h2⟩
        · omega
        · have h3 : (if L.testBit h = true then cst t σ u L l h else 9999) = mnv (trm t σ u L l) (tn t) := h2
          by_cases c : L.testBit h = true
          · rw [if_pos c] at h3
            have i1 := ih (tg L h) (tg_dn c) (tg128 hL (by omega)) (nxL t h l)
            have i2 := blt_in (t := t) (σ := σ) (l := l) (h := h)
            have i3 := pcN_dn L hL h (by omega) c
            unfold cst at h3
            by_cases y : u = true ∧ shL t h l = true
            · rw [if_pos y] at h3; omega
            · rw [if_neg y] at h3
              have := i1.2.2 (by omega)
              omega
          · rw [if_neg c] at h3; omega
theorem cst_in {t : TT} {σ : Nat → Int} {u : Bool} {L l h : Nat} (hn : tn t ≤ 7) (hL : L < 128) (hh : h < 7) : 0 ≤ cst t σ u L l h ∧ cst t σ u L l h ≤ 10008 := by
  have := dp_in (t := t) (σ := σ) (u := u) hn (tg L h) (tg128 hL hh) (nxL t h l)
  have := blt_in (t := t) (σ := σ) (l := l) (h := h)
  unfold cst
  split <;> omega
/-- the first of a kind -/
def fsb (p : Nat → Bool) (n : Nat) : Nat → Nat
  | 0 => n
  | k + 1 => if p (n - (k + 1)) = true then n - (k + 1) else fsb p n k
theorem fsb_step {p : Nat → Bool} {n h : Nat} (hh : h < n) : fsb p n (n - h) = if p h = true then h else fsb p n (n - (h + 1)) := by
  obtain ⟨k, rfl⟩ : ∃ k, n = h + 1 + k := ⟨n - (h + 1), by omega⟩
  rw [show h + 1 + k - h = k + 1 by omega, show h + 1 + k - (h + 1) = k by omega, fsb, show h + 1 + k - (k + 1) = h by omega]
theorem fsb_is {p : Nat → Bool} {n h : Nat} (hh : h < n) (hp : p h = true) (hf : ∀ i, i < h → p i = false) : fsb p n n = h := by
  have key : ∀ k, k ≤ h → fsb p n (n - k) = h := by
    refine up_ind ?_ ?_
    · rw [fsb_step hh, if_pos hp]
    · intro k hk ih
      rw [fsb_step (show k < n by omega), if_neg (by rw [hf k hk]; exact Bool.false_ne_true)]
      exact ih
  exact key 0 (by omega)
theorem fsb_ok {p : Nat → Bool} {n : Nat} (h : ∃ i, i < n ∧ p i = true) : fsb p n n < n ∧ p (fsb p n n) = true ∧ ∀ i, i < fsb p n n → p i = false := by
  obtain ⟨i, hi, hp⟩ := h
  have key : ∀ j, j ≤ i → (∀ q, q < j → p q = false) → ∃ m, m < n ∧ p m = true ∧ ∀ q, q < m → p q = false := by
    refine up_ind ?_ ?_
    · intro hq; exact ⟨i, hi, hp, hq⟩
    · intro j hj ih hq
      cases c : p j
      · exact ih (fun q hq2 => by
          by_cases e : q = j
          · rw [e]; exact c
          · exact hq q (by omega))
      · exact ⟨j, by omega, c, hq⟩
  obtain ⟨m, m1, m2, m3⟩ := key 0 (by omega) (fun q hq => by omega)
  rw [fsb_is m1 m2 m3]
  exact ⟨m1, m2, m3⟩
def pL (t : TT) (σ : Nat → Int) (u : Bool) (L l h : Nat) : Bool := L.testBit h && decide (cst t σ u L l h = dp t σ u L l)
def hL (t : TT) (σ : Nat → Int) (u : Bool) (q : Nat × Nat) : Nat := fsb (pL t σ u q.1 q.2) (tn t) (tn t)
def nx_ (t : TT) (σ : Nat → Int) (u : Bool) (q : Nat × Nat) : Nat × Nat := (tg q.1 (hL t σ u q), nxL t (hL t σ u q) q.2)
def stq (t : TT) (σ : Nat → Int) (u : Bool) (q : Nat × Nat) : Nat → Nat × Nat
  | 0 => q
  | j + 1 => nx_ t σ u (stq t σ u q j)
def gro (t : TT) (σ : Nat → Int) (u : Bool) (q : Nat × Nat) (i : Nat) : Nat := hL t σ u (stq t σ u q i)
theorem stq_s {t : TT} {σ : Nat → Int} {u : Bool} {q : Nat × Nat} : ∀ j, stq t σ u q (j + 1) = stq t σ u (nx_ t σ u q) j
  | 0 => rfl
  | j + 1 => by rw [stq, stq_s j, stq]
theorem hL_ok {t : TT} {σ : Nat → Int} {u : Bool} {L l : Nat} (hn : tn t ≤ 7) (hL0 : L < 128) (h0 : L ≠ 0) (hd : dp t σ u L l < 9999) : hL t σ u (L, l) < tn t ∧ L.testBit (hL t σ u (L, l)) = true ∧ cst t σ u L l (hL t σ u (L, l)) = dp t σ u L l ∧ (∀ i, i < hL t σ u (L, l) → pL t σ u L l i = false) ∧ dp t σ u (tg L (hL t σ u (L, l))) (nxL t (hL t σ u (L, l)) l) < 9999 := by
  have ex : ∃ i, i < tn t ∧ pL t σ u L l i = true := by
    have e := dp_eq t σ u l hL0
    rw [if_neg h0] at e
    rcases mnv_ex (g := trm t σ u L l) (tn t) with z | ⟨h, h1, h2⟩
    · omega
    · refine ⟨h, h1, ?_⟩
      have h3 : (if L.testBit h = true then cst t σ u L l h else 9999) = mnv (trm t σ u L l) (tn t) := h2
      unfold pL
      by_cases c : L.testBit h = true
      · rw [if_pos c] at h3
        rw [c, decide_eq_true (by omega)]; rfl
      · rw [if_neg c] at h3; omega
  have ⟨a, b, c⟩ := fsb_ok ex
  have b2 : pL t σ u L l (hL t σ u (L, l)) = true := b
  unfold pL at b2
  simp only [Bool.and_eq_true, decide_eq_true_eq] at b2
  refine ⟨a, b2.1, b2.2, c, ?_⟩
  have h5 := b2.2
  have h6 : hL t σ u (L, l) < tn t := a
  have i2 := blt_in (t := t) (σ := σ) (l := l) (h := hL t σ u (L, l))
  unfold cst at h5
  by_cases y : u = true ∧ shL t (hL t σ u (L, l)) l = true
  · rw [if_pos y] at h5; omega
  · rw [if_neg y] at h5; omega
theorem dp_t {t : TT} {σ : Nat → Int} (hn : tn t ≤ 7) : ∀ L, L < 2 ^ tn t → ∀ l, (dp t σ true L l < 9999 ↔ cg t L l = true) := by
  have h7 := pw7 hn
  intro L
  induction L using Nat.strongRecOn with
  | _ L ih =>
    intro hLt l
    by_cases h0 : L = 0
    · subst h0
      rw [dp_0, (cg_iff (by omega)).mpr (Or.inl rfl)]; simp
    · constructor
      · intro hd
        obtain ⟨a, b, c, -, e⟩ := hL_ok hn (by omega) h0 hd
        refine (cg_iff (by omega)).mpr (Or.inr ⟨_, a, b, ?_, (ih _ (tg_dn b) (tg_lt hLt a) _).mp e⟩)
        cases y : shL t (hL t σ true (L, l)) l
        · rfl
        · unfold cst at c
          rw [if_pos ⟨rfl, y⟩] at c; omega
      · intro hc
        rcases (cg_iff (by omega)).mp hc with z | ⟨h, h1, h2, h3, h4⟩
        · exact absurd z h0
        · have i1 := (ih _ (tg_dn h2) (tg_lt hLt h1) (nxL t h l)).mpr h4
          have i2 := dp_in (t := t) (σ := σ) (u := true) hn (tg L h) (tg128 (by omega) (by omega)) (nxL t h l)
          have i3 := i2.2.2 i1
          have i4 := blt_in (t := t) (σ := σ) (l := l) (h := h)
          have i5 := pcN_le (tg L h) (tg128 (by omega) (by omega))
          have i6 := mnv_at (g := trm t σ true L l) (tn t) h1
          have i7 : trm t σ true L l h = blt t σ l h + dp t σ true (tg L h) (nxL t h l) := by
            show (if L.testBit h = true then cst t σ true L l h else 9999) = _
            rw [if_pos h2]
            unfold cst
            rw [if_neg (fun y => by rw [h3] at y; cases y.2)]
          rw [dp_eq t σ true l (by omega), if_neg h0]
          omega
theorem bit_lt {L n i : Nat} (hL : L < 2 ^ n) (hi : L.testBit i = true) : i < n := by
  apply Classical.byContradiction
  intro c
  rw [Nat.testBit_lt_two_pow (Nat.lt_of_lt_of_le hL (Nat.pow_le_pow_right (by omega) (by omega)))] at hi
  cases hi
theorem dp_f {t : TT} {σ : Nat → Int} (hn : tn t ≤ 7) : ∀ L, L < 2 ^ tn t → ∀ l, dp t σ false L l < 9999 := by
  have h7 := pw7 hn
  intro L
  induction L using Nat.strongRecOn with
  | _ L ih =>
    intro hL l
    by_cases h0 : L = 0
    · subst h0; rw [dp_0]; omega
    · obtain ⟨h, h2⟩ := ne0_bit.mp h0
      have h1 := bit_lt hL h2
      have i1 := ih _ (tg_dn h2) (tg_lt hL h1) (nxL t h l)
      have i2 := dp_in (t := t) (σ := σ) (u := false) hn (tg L h) (tg128 (by omega) (by omega)) (nxL t h l)
      have i3 := i2.2.2 i1
      have i4 := blt_in (t := t) (σ := σ) (l := l) (h := h)
      have i5 := pcN_le (tg L h) (tg128 (by omega) (by omega))
      have i6 := mnv_at (g := trm t σ false L l) (tn t) h1
      have i7 : trm t σ false L l h = blt t σ l h + dp t σ false (tg L h) (nxL t h l) := by
        show (if L.testBit h = true then cst t σ false L l h else 9999) = _
        rw [if_pos h2]
        unfold cst
        rw [if_neg (fun y => by cases y.1)]
      rw [dp_eq t σ false l (by omega), if_neg h0]
      omega
theorem pcN_pos {L : Nat} (hL : L < 128) (h0 : L ≠ 0) : 1 ≤ pcN L := by
  obtain ⟨i, hi⟩ := ne0_bit.mp h0
  have := pcN_dn L hL i (bit_lt (n := 7) hL hi) hi
  omega
theorem stq_ok {t : TT} {σ : Nat → Int} {u : Bool} {G : Nat} (hn : tn t ≤ 7) (hG : G < 2 ^ tn t) (hd : dp t σ u G 7 < 9999) : ∀ j, j ≤ pcN G → ((stq t σ u (G, 7) j).1 < 2 ^ tn t ∧ pcN (stq t σ u (G, 7) j).1 + j = pcN G ∧ lok (tn t) (stq t σ u (G, 7) j).2 ∧ dp t σ u (stq t σ u (G, 7) j).1 (stq t σ u (G, 7) j).2 < 9999 ∧ ∀ i, (stq t σ u (G, 7) j).1.testBit i = true → G.testBit i = true)
  | 0, _ => ⟨hG, by rw [stq]; rfl, Or.inl rfl, hd, fun i hi => hi⟩
  | j + 1, hj => by
    have h7 := pw7 hn
    have ⟨a, b, c, d, e⟩ := stq_ok hn hG hd j (by omega)
    have h0 : (stq t σ u (G, 7) j).1 ≠ 0 := fun z => by
      rw [z] at b
      have : pcN 0 = 0 := by decide
      omega
    have ⟨p1, p2, p3, p4, p5⟩ := hL_ok (l := (stq t σ u (G, 7) j).2) hn (by omega) h0 d
    rw [stq, nx_]
    refine ⟨tg_lt a p1, ?_, nxL_ok p1 c, p5, fun i hi => ?_⟩
    · have := pcN_dn _ (show (stq t σ u (G, 7) j).1 < 128 by omega) _ (by omega) p2
      show pcN (tg (stq t σ u (G, 7) j).1 (hL t σ u ((stq t σ u (G, 7) j).1, (stq t σ u (G, 7) j).2))) + (j + 1) = _
      omega
    · rw [tg_bit] at hi
      by_cases y : i = hL t σ u (stq t σ u (G, 7) j)
      · rw [y]; exact e _ p2
      · rw [if_neg y] at hi; exact e i hi
/-- those that don't go, counted -/
def cnN (G : Nat) : Nat → Nat
  | 0 => 0
  | k + 1 => cnN G k + (if G.testBit k = true then 0 else 1)
theorem cnN_all : ∀ n, n < 8 → ∀ G, G < 2 ^ n → pcN G + cnN G n = n := by decide +kernel
theorem cnN_ex {G j : Nat} : ∀ m, j < cnN G m → ∃ h, h < m ∧ G.testBit h = false ∧ cnN G h = j
  | 0, hj => by rw [cnN] at hj; omega
  | m + 1, hj => by
    rw [cnN] at hj
    by_cases c : j < cnN G m
    · obtain ⟨h, h1, h2⟩ := cnN_ex m c
      exact ⟨h, by omega, h2⟩
    · cases e : G.testBit m
      · rw [e] at hj
        exact ⟨m, by omega, e, by simp at hj; omega⟩
      · rw [e] at hj; simp at hj; omega
theorem cnN_mono {G h : Nat} : ∀ m, h ≤ m → cnN G h ≤ cnN G m
  | 0, hm => by rw [show h = 0 by omega]; exact Nat.le_refl _
  | m + 1, hm => by
    by_cases e : h = m + 1
    · rw [e]; exact Nat.le_refl _
    · have := cnN_mono (G := G) (h := h) m (by omega)
      rw [cnN]; omega
def ngP (G j h : Nat) : Bool := !G.testBit h && decide (cnN G h = j)
def ngh (G n j : Nat) : Nat := fsb (ngP G j) n n
theorem ngh_ok {G n j : Nat} (hj : j < cnN G n) : ngh G n j < n ∧ G.testBit (ngh G n j) = false ∧ cnN G (ngh G n j) = j ∧ ∀ i, i < ngh G n j → ngP G j i = false := by
  obtain ⟨h, h1, h2, h3⟩ := cnN_ex n hj
  have ⟨a, b, c⟩ := fsb_ok (p := ngP G j) (n := n) ⟨h, h1, by unfold ngP; rw [h2, decide_eq_true h3]; rfl⟩
  have b2 : ngP G j (ngh G n j) = true := b
  unfold ngP at b2
  simp only [Bool.and_eq_true, decide_eq_true_eq, Bool.not_eq_true'] at b2
  exact ⟨a, b2.1, b2.2, c⟩
/-- the class's blots -/
def Blo (t : TT) (σ : Nat → Int) (M : Mm) : Prop := ∀ l h, lok (tn t) l → h < tn t → M 64 (l * 7 + h) = blt t σ l h
theorem c_findBlots {t : TT} {tb B : Nat} {σ : Nat → Int} {M : Mm} (htb : tb = 4 ∨ tb = 18) (hT : RT t M tb) (hW : WT t) (hS : RS (tn t) σ M 42) (hw : WF (tn t) B σ) : S_Rows_findBlots 62 tb 42 M (fun M' => Blo t σ M' ∧ FrC (fun c => c = 64 ∨ c = tb + 13) M M') := by
  have hn := hW.1
  have at7 := at_tb htb
  refine e_Rows_findBlots 62 tb 42 M fun K hK => w_Rows_findBlots_0 hK 62 atC_62 tb at7 42 atC_42 M ?_
  have key : ∀ k, k ≤ tn t → ∀ M2 : Mm, (∀ l h, lok (tn t) l → h < k → M2 64 (l * 7 + h) = blt t σ l h) → FrC (fun c => c = 64 ∨ c = tb + 13) M M2 → K NN RRC 2 [(0, vr 62), (1, vr tb), (2, vr 42), (3, vi (k : Int))] [] M2 := by
    refine up_ind ?_ ?_
    · intro M2 s1 s2
      refine w_Rows_findBlots_2 hK 62 atC_62 tb at7 42 atC_42 _ M2 ?_
      rw [s2 tb (by omega), hT.1.1]
      exact ⟨by omega, by omega, fun _ => ⟨s1, s2⟩, fun z => absurd (Int.le_refl _) z⟩
    · intro k hk ih M2 s1 s2
      refine w_Rows_findBlots_2 hK 62 atC_62 tb at7 42 atC_42 _ M2 ?_
      rw [s2 tb (by omega), hT.1.1]
      refine ⟨by omega, by omega, fun z => by omega, fun _ => ?_⟩
      have inn : ∀ j, j ≤ tn t → ∀ M3 : Mm, (∀ l h, lok (tn t) l → h < k → M3 64 (l * 7 + h) = blt t σ l h) → (∀ l, l < j → M3 64 (l * 7 + k) = blt t σ l k) → FrC (fun c => c = 64 ∨ c = tb + 13) M M3 → K NN RRC 13 [(0, vr 62), (1, vr tb), (2, vr 42), (3, vi (k : Int)), (4, vi (j : Int))] [] M3 := by
        refine up_ind ?_ ?_
        · intro M3 q1 q2 q3
          refine w_Rows_findBlots_13 hK 62 atC_62 tb at7 42 atC_42 _ _ M3 ?_
          rw [q3 tb (by omega), hT.1.1]
          refine ⟨by omega, by omega, fun _ => ⟨by omega, ?_⟩, fun z => absurd (Int.le_refl _) z⟩
          rintro M4 rfl
          rw [show (49 + (k : Int)).toNat = 49 + k by omega]
          refine ih _ (fun l h hl hh => ?_) (q3.tr (FrC.up (c := 62 + 2) (Or.inl rfl)))
          rw [upr_eq, if_pos rfl, up1_eq]
          by_cases e : l * 7 + h = 49 + k
          · have e1 : l = 7 := by omega
            rw [if_pos e, e1]; rfl
          · rw [if_neg e]
            by_cases e2 : h < k
            · exact q1 l h hl e2
            · have e3 : h = k := by omega
              subst e3
              rcases hl with hl | hl
              · omega
              · exact q2 l hl
        · intro j hj ih2 M3 q1 q2 q3
          refine w_Rows_findBlots_13 hK 62 atC_62 tb at7 42 atC_42 _ _ M3 ?_
          rw [q3 tb (by omega), hT.1.1]
          refine ⟨by omega, by omega, fun z => by omega, fun _ => ⟨_, c_printedOn at7 atC_42 (hT.fr (fun i h1 h2 => q3 _ (by omega))) hW (hS.fr (fun i hi => q3 _ (by omega))) hw hj hk, ?_⟩⟩
          rintro r M4 ⟨rfl, h4⟩
          refine ⟨by omega, ?_⟩
          rintro M5 rfl
          rw [show ((j : Int) * 7 + (k : Int)).toNat = j * 7 + k by omega]
          refine ih2 _ (fun l h hl hh => ?_) (fun l hl => ?_) ((q3.tr (h4.wk (fun c hc => Or.inr hc))).tr (FrC.up (c := 62 + 2) (Or.inl rfl)))
          · rw [upr_eq, if_pos rfl, up1_eq, if_neg (by omega), h4 (62 + 2) (by omega)]
            exact q1 l h hl hh
          · rw [upr_eq, if_pos rfl, up1_eq]
            by_cases e : l = j
            · rw [if_pos (by omega), e]
              unfold blt
              rw [if_neg (by omega)]
            · rw [if_neg (by omega), h4 (62 + 2) (by omega)]
              exact q2 l (by omega)
      exact inn 0 (by omega) M2 s1 (fun l hl => by omega) s2
  exact key 0 (by omega) M (fun l h _ hh => by omega) FrC.rf
def rbM (t : TT) (u : Bool) (M : Mm) (S l h : Nat) : Int := if u = true ∧ shL t h l = true then 9999 else M 64 (l * 7 + h) + M 65 (tg S h * 8 + nxL t h l)
theorem c_restBy {t : TT} {tb : Nat} {u : Bool} {M : Mm} {S l h : Nat} (htb : tb = 4 ∨ tb = 18) (hT : RT t M tb) (hW : WT t) (hS : S < 128) (hl : l < 8) (hh : h < tn t) (hb : S.testBit h = false) : S_Rows_restBy 62 tb (S : Int) (l : Int) (h : Int) (zo u) M (fun r M' => r = rbM t u M S l h ∧ M' = M) := by
  have hn := hW.1
  have at7 := at_tb htb
  have hk := hW.2.1 h hh
  refine e_Rows_restBy 62 tb _ _ _ _ M fun K hK => w_Rows_restBy_0 hK 62 atC_62 tb at7 _ _ _ _ M ?_
  have ht := tg128 (h := h) hS (by omega)
  have k34 : ¬ (u = true ∧ shL t h l = true) → K NN RRC 34 [(0, vr 62), (2, vi (S : Int)), (3, vi (l : Int)), (4, vi (h : Int))] [vi (nxL t h l : Int)] M := by
    intro hne
    have hx := nx8 (t := t) (h := h) (l := l) (by omega) hl
    refine w_Rows_restBy_34 hK 62 atC_62 _ _ _ _ M ?_
    rw [orI_pow hS (by omega) hb, show ((l : Int) * 7 + (h : Int)).toNat = l * 7 + h by omega, show (((tg S h : Nat) : Int) * 8 + (nxL t h l : Int)).toNat = tg S h * 8 + nxL t h l by omega]
    refine ⟨by omega, by omega, ?_, rfl⟩
    unfold rbM
    rw [if_neg hne]
  have cat : ¬ (u = true ∧ shL t h l = true) → ∃ P1 : Int → Mm → Prop, S_Town_isCat tb (h : Int) M P1 ∧ ∀ (r1 : Int) (M1 : Mm), P1 r1 M1 → (rng r1) ∧ (r1 = 0 → (K NN RRC 34 [(0, vr 62), (2, vi (S : Int)), (3, vi (l : Int)), (4, vi (h : Int))] [vi (h : Int)] M1)) ∧ (r1 ≠ 0 → (K NN RRC 34 [(0, vr 62), (2, vi (S : Int)), (3, vi (l : Int)), (4, vi (h : Int))] [vi (l : Int)] M1)) := by
    intro hne
    have k2 := k34 hne
    refine ⟨_, c_isCat at7 hT hW hh, ?_⟩
    rintro r M1 ⟨rfl, rfl⟩
    refine ⟨zo_rng _, fun z => ?_, fun z => ?_⟩
    · have := zo_0 z
      unfold nxL at k2
      rw [if_neg (by simpa using this)] at k2
      exact k2
    · have := zo_ne z
      unfold nxL at k2
      rw [if_pos (by simpa using this)] at k2
      exact k2
  refine ⟨zo_rng _, fun z => cat (fun y => by rw [zo_0 z] at y; cases y.1), fun z => ⟨_, c_shunsLast at7 hT hW hh hl, ?_⟩⟩
  rintro r M1 ⟨rfl, rfl⟩
  refine ⟨zo_rng _, fun z2 => cat (fun y => by rw [zo_0 z2] at y; cases y.2), fun z2 => ⟨?_, rfl⟩⟩
  unfold rbM
  rw [if_pos ⟨zo_ne z, zo_ne z2⟩]
/-- the rows of rest from k on -/
def Rst (t : TT) (σ : Nat → Int) (u : Bool) (G k : Nat) (M : Mm) : Prop := ∀ S, k ≤ S → S ≤ G → adn S G = 0 → ∀ l, lok (tn t) l → M 65 (S * 8 + l) = dp t σ u (G ^^^ S) l
theorem tg_xr {G S h : Nat} : tg (G ^^^ S) h = G ^^^ tg S h := by
  unfold tg
  rw [Nat.xor_assoc]
theorem rbM_eq {t : TT} {σ : Nat → Int} {u : Bool} {G S l h : Nat} {M : Mm} (hn : tn t ≤ 7) (hG : G < 2 ^ tn t) (hB : Blo t σ M) (hR : Rst t σ u G (S + 1) M) (hs : adn S G = 0) (hl : lok (tn t) l) (hh : h < tn t) (hg : (G ^^^ S).testBit h = true) (hb : S.testBit h = false) : rbM t u M S l h = cst t σ u (G ^^^ S) l h := by
  unfold rbM cst
  by_cases c : u = true ∧ shL t h l = true
  · rw [if_pos c, if_pos c]
  · rw [if_neg c, if_neg c, hB l h hl hh, tg_xr]
    have hup := tg_up hb
    have hsub : adn (tg S h) G = 0 := by
      rw [adn_zero] at hs ⊢
      intro i hi
      rw [tg_bit] at hi
      by_cases e : i = h
      · rw [Nat.testBit_xor, hb] at hg
        rw [e]; simpa using hg
      · rw [if_neg e] at hi; exact hs i hi
    have hle : tg S h ≤ G := by
      apply Nat.le_of_testBit
      intro i hi
      exact (adn_zero _ _).mp hsub i hi
    rw [hR (tg S h) (by omega) hle hsub _ (nxL_ok hh hl)]
theorem adn_xor {S G : Nat} (h : adn S G = 0) : adn G S = G ^^^ S := by
  rw [adn_zero] at h
  apply Nat.eq_of_testBit_eq
  intro i
  rw [adn_bit, Nat.testBit_xor]
  cases c : S.testBit i
  · cases G.testBit i <;> rfl
  · rw [h i c]; rfl
theorem and_pow (x h : Nat) : x &&& 2 ^ h = if x.testBit h = true then 2 ^ h else 0 := by
  apply Nat.eq_of_testBit_eq
  intro i
  rw [Nat.testBit_and, Nat.testBit_two_pow]
  by_cases e : h = i
  · subst e
    cases c : x.testBit h
    · simp
    · rw [if_pos rfl, Nat.testBit_two_pow]; simp
  · cases c : x.testBit h
    · simp [e]
    · rw [if_pos rfl, Nat.testBit_two_pow]; simp [e]
theorem free_z {G S h : Nat} (hG : G < 128) (hS : S < 128) (hh : h < 7) (hs : adn S G = 0) : (andI (andI (G : Int) (xorI (S : Int) (-1))) (shlI 1 (h : Int)) = 0 ↔ (G ^^^ S).testBit h = false) := by
  have hp := pw6 hh
  have hle := adn_le G S
  rw [not_nat (by omega), andn_nat (by omega) (by omega), shl1 (by omega), andI_nat (by omega) (by omega), and_pow, adn_xor hs]
  cases c : (G ^^^ S).testBit h
  · simp
  · rw [if_pos rfl]
    constructor
    · intro z; omega
    · intro z; cases z
theorem xr_free {G S h : Nat} (hs : adn S G = 0) (hg : (G ^^^ S).testBit h = true) : S.testBit h = false := by
  rw [Nat.testBit_xor] at hg
  cases c : S.testBit h
  · rfl
  · rw [c, (adn_zero _ _).mp hs h c] at hg; cases hg
theorem c_findRest {t : TT} {tb : Nat} {σ : Nat → Int} {u : Bool} {G S : Nat} {M : Mm} (htb : tb = 4 ∨ tb = 18) (hT : RT t M tb) (hW : WT t) (hG : G < 2 ^ tn t) (hSG : S ≤ G) (hs : adn S G = 0) (hB : Blo t σ M) (hR : Rst t σ u G (S + 1) M) : S_Rows_findRest 62 tb (S : Int) (G : Int) (zo u) M (fun M' => Rst t σ u G S M' ∧ FrC (fun c => c = 65) M M') := by
  have hn := hW.1
  have h7 := pw7 hn
  have at7 := at_tb htb
  have hX : G ^^^ S < 2 ^ tn t := Nat.xor_lt_two_pow hG (by omega)
  refine e_Rows_findRest 62 tb _ _ _ M fun K hK => w_Rows_findRest_0 hK 62 atC_62 tb at7 _ _ _ M ?_
  have key : ∀ l, l ≤ 8 → ∀ M2 : Mm, (∀ l', l' < l → lok (tn t) l' → M2 65 (S * 8 + l') = dp t σ u (G ^^^ S) l') → (∀ i, (i < S * 8 ∨ S * 8 + 8 ≤ i) → M2 65 i = M 65 i) → FrC (fun c => c = 65) M M2 → K NN RRC 3 [(0, vr 62), (1, vr tb), (2, vi (S : Int)), (3, vi (G : Int)), (4, vi (zo u)), (5, vi (l : Int))] [] M2 := by
    refine up_ind ?_ ?_
    · intro M2 s1 s2 s3
      refine w_Rows_findRest_3 hK 62 atC_62 tb at7 _ _ _ _ M2 ⟨by omega, fun _ => ⟨fun S' a b c l hl => ?_, s3⟩, fun z => by omega⟩
      by_cases e : S' = S
      · subst e; exact s1 l (by omega) hl
      · rw [s2 _ (by omega)]; exact hR S' (by omega) b c l hl
    · intro l hl ih M2 s1 s2 s3
      have inn : ∀ k, k ≤ tn t → ∀ x : Int, rng x → (lok (tn t) l → x = if S = G then 0 else mnv (trm t σ u (G ^^^ S) l) k) → K NN RRC 27 [(0, vr 62), (1, vr tb), (2, vi (S : Int)), (3, vi (G : Int)), (4, vi (zo u)), (5, vi (l : Int)), (6, vi x), (7, vi (k : Int))] [] M2 := by
        refine up_ind ?_ ?_
        · intro x hx hv
          refine w_Rows_findRest_27w hK 62 atC_62 tb at7 _ _ _ _ _ _ M2 ?_
          rw [s3 tb (by omega), hT.1.1]
          refine ⟨by omega, by omega, fun _ => ⟨by omega, ?_⟩, fun z => absurd (Int.le_refl _) z⟩
          rintro M3 rfl
          rw [show ((S : Int) * 8 + (l : Int)).toNat = S * 8 + l by omega]
          refine ih _ (fun l' h1 h2 => ?_) (fun i hi => ?_) (s3.tr (FrC.up (c := 62 + 3) rfl))
          · rw [upr_eq, if_pos rfl, up1_eq]
            by_cases e : l' = l
            · subst e
              rw [if_pos rfl, hv h2, dp_eq t σ u l' (by omega)]
              by_cases e2 : S = G
              · rw [if_pos e2, if_pos (by rw [e2, Nat.xor_self])]
              · rw [if_neg e2, if_neg (fun y => e2 ?_)]
                have : G = S := by
                  apply Nat.eq_of_testBit_eq
                  intro i
                  have z : (G ^^^ S).testBit i = false := by rw [y, Nat.zero_testBit]
                  rw [Nat.testBit_xor] at z
                  cases a : G.testBit i <;> cases b : S.testBit i <;> rw [a, b] at z <;> first | rfl | cases z
                exact this.symm
            · rw [if_neg (by omega)]; exact s1 l' (by omega) h2
          · rw [upr_eq, if_pos rfl, up1_eq, if_neg (by omega)]; exact s2 i hi
        · intro k hk ih2 x hx hv
          have hf := free_z (G := G) (S := S) (h := k) (by omega) (by omega) (by omega) hs
          refine w_Rows_findRest_27w hK 62 atC_62 tb at7 _ _ _ _ _ _ M2 ?_
          rw [s3 tb (by omega), hT.1.1]
          refine ⟨by omega, by omega, fun z => by omega, fun _ => ⟨fun z => ih2 x hx (fun hlk => ?_), fun z => ?_⟩⟩
          · rw [hv hlk]
            by_cases e2 : S = G
            · rw [if_pos e2, if_pos e2]
            · rw [if_neg e2, if_neg e2, mnv]
              show _ = min _ (if (G ^^^ S).testBit k = true then cst t σ u (G ^^^ S) l k else 9999)
              rw [if_neg (by rw [hf.mp z]; exact Bool.false_ne_true)]
              have := mnv_le (g := trm t σ u (G ^^^ S) l) k
              omega
          · have hg : (G ^^^ S).testBit k = true := by
              cases e : (G ^^^ S).testBit k
              · exact absurd (hf.mpr e) z
              · rfl
            have hb := xr_free hs hg
            refine ⟨_, c_restBy (u := u) htb (hT.fr (fun i _ _ => s3 _ (by omega))) hW (by omega) (by omega) hk hb, ?_⟩
            rintro r M3 ⟨rfl, rfl⟩
            have hwr : rng (wrI (rbM t u M3 S l k)) := rng_toInt _
            refine ⟨hx, ih2 _ (by omega) (fun hlk => ?_)⟩
            have hc := cst_in (t := t) (σ := σ) (u := u) (L := G ^^^ S) (l := l) (h := k) hn (by omega) (by omega)
            have er : rbM t u M3 S l k = cst t σ u (G ^^^ S) l k := by
              refine rbM_eq hn hG (fun l h a b => by rw [s3 64 (by omega)]; exact hB l h a b) (fun S' a b c l' d => ?_) hs hlk hk hg hb
              rw [s2 _ (by omega)]
              exact hR S' a b c l' d
            rw [er, wrI_eq (by omega), hv hlk]
            have e2 : S ≠ G := fun y => by rw [y, Nat.xor_self, Nat.zero_testBit] at hg; cases hg
            rw [if_neg e2, if_neg e2, mnv]
            show _ = min _ (if (G ^^^ S).testBit k = true then cst t σ u (G ^^^ S) l k else 9999)
            rw [if_pos hg]
      refine w_Rows_findRest_3 hK 62 atC_62 tb at7 _ _ _ _ M2 ⟨by omega, fun z => by omega, fun _ => ⟨by omega, by omega, fun z => inn 0 (by omega) 9999 (by decide) (fun _ => ?_), fun z => inn 0 (by omega) 0 (by decide) (fun _ => ?_)⟩⟩
      · rw [if_neg (by omega)]; rfl
      · rw [if_pos (by omega)]
  exact key 0 (by omega) M (fun l' h => by omega) (fun i _ => rfl) FrC.rf
