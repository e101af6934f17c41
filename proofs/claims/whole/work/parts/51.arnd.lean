theorem bitc : ∀ x : Nat, x < 128 → (andI (((andI (((andI ((x : Int) - (andI (ushrI (x : Int) 1) 1431655765)) 858993459) + (andI (ushrI ((x : Int) - (andI (ushrI (x : Int) 1) 1431655765)) 2) 858993459)) + (ushrI ((andI ((x : Int) - (andI (ushrI (x : Int) 1) 1431655765)) 858993459) + (andI (ushrI ((x : Int) - (andI (ushrI (x : Int) 1) 1431655765)) 2) 858993459)) 4)) 252645135) + (ushrI (andI (((andI ((x : Int) - (andI (ushrI (x : Int) 1) 1431655765)) 858993459) + (andI (ushrI ((x : Int) - (andI (ushrI (x : Int) 1) 1431655765)) 2) 858993459)) + (ushrI ((andI ((x : Int) - (andI (ushrI (x : Int) 1) 1431655765)) 858993459) + (andI (ushrI ((x : Int) - (andI (ushrI (x : Int) 1) 1431655765)) 2) 858993459)) 4)) 252645135) 8)) + (ushrI ((andI (((andI ((x : Int) - (andI (ushrI (x : Int) 1) 1431655765)) 858993459) + (andI (ushrI ((x : Int) - (andI (ushrI (x : Int) 1) 1431655765)) 2) 858993459)) + (ushrI ((andI ((x : Int) - (andI (ushrI (x : Int) 1) 1431655765)) 858993459) + (andI (ushrI ((x : Int) - (andI (ushrI (x : Int) 1) 1431655765)) 2) 858993459)) 4)) 252645135) + (ushrI (andI (((andI ((x : Int) - (andI (ushrI (x : Int) 1) 1431655765)) 858993459) + (andI (ushrI ((x : Int) - (andI (ushrI (x : Int) 1) 1431655765)) 2) 858993459)) + (ushrI ((andI ((x : Int) - (andI (ushrI (x : Int) 1) 1431655765)) 858993459) + (andI (ushrI ((x : Int) - (andI (ushrI (x : Int) 1) 1431655765)) 2) 858993459)) 4)) 252645135) 8)) 16)) 63) = ((pcN x : Nat) : Int) := by decide +kernel
theorem c_bitCount {M : Mm} {x : Nat} (hx : x < 128) : S_JInt_bitCount (x : Int) M (fun r M' => r = (pcN x : Int) ∧ M' = M) := W_JInt_bitCount _ M ⟨bitc x hx, rfl⟩
theorem pcN_sm (x : Nat) : ((pcN x : Nat) : Int) = sm (fun i => zo (x.testBit i)) 7 := by
  unfold pcN
  simp only [sm]
  cases x.testBit 0 <;> cases x.testBit 1 <;> cases x.testBit 2 <;> cases x.testBit 3 <;> cases x.testBit 4 <;> cases x.testBit 5 <;> cases x.testBit 6 <;> rfl
theorem m_bits {N : Mm} {x : Nat} (hx : x < 128) : S_Mod_bits (x : Int) N (fun r N' => r = (pcN x : Int) ∧ N' = N) := by
  refine e_Mod_bits _ N fun K hK => w_Mod_bits_0 hK _ N ?_
  have key : ∀ k, k ≤ 7 → K NM RRM 4 [(0, vi (x : Int)), (1, vi (sm (fun i => zo (x.testBit i)) k)), (2, vi (k : Int))] [] N := by
    refine up_ind ?_ ?_
    · exact w_Mod_bits_4 hK _ _ _ N ⟨by omega, fun _ => ⟨(pcN_sm x).symm, rfl⟩, fun z => by omega⟩
    · intro k hk ih
      refine w_Mod_bits_4 hK _ _ _ N ⟨by omega, fun z => by omega, fun _ => ?_⟩
      rw [bit1 (by omega) (by omega)]
      exact ih
  exact key 0 (by omega)
/-- house h shuns to be behind l; 7: nobody -/
def shL (t : TT) (h l : Nat) : Bool := decide (l ≠ 7) && shB t h l
def nxL (t : TT) (h l : Nat) : Nat := if tkind t h = 3 then l else h
def mb (l : Nat) : Int := if l = 7 then -1 else (l : Int)
abbrev lok (n l : Nat) : Prop := l = 7 ∨ l < n
theorem nxL_ok {t : TT} {n h l : Nat} (hh : h < n) (hl : lok n l) : lok n (nxL t h l) := by
  unfold nxL
  split
  · exact hl
  · exact Or.inr hh
theorem nx8 {t : TT} {h l : Nat} (hh : h < 8) (hl : l < 8) : nxL t h l < 8 := by
  unfold nxL
  split <;> assumption
theorem c_shunsLast {t : TT} {M : Mm} {b h l : Nat} (hb : At shC NN b (.inl 7)) (hT : RT t M b) (hW : WT t) (hh : h < tn t) (hl : l < 8) : S_Rows_shunsLast b (h : Int) (l : Int) M (fun r M' => M' = M ∧ r = zo (shL t h l)) := by
  refine W_Rows_shunsLast b hb _ _ M ⟨by omega, fun q => ⟨rfl, ?_⟩, fun q => ⟨_, c_doesShun hb hT hW hh (by omega), ?_⟩⟩
  · unfold shL; rw [decide_eq_false (by omega)]; rfl
  · rintro r M1 ⟨rfl, rfl⟩
    unfold shL
    rw [decide_eq_true (by omega)]
    refine ⟨zo_rng _, fun z => ⟨rfl, ?_⟩, fun z => ⟨rfl, ?_⟩⟩
    · rw [zo_0 z]; rfl
    · rw [zo_ne z]; rfl
theorem m_shL {t : TT} {N : Mm} {h l : Nat} (hT : RM t N) (hW : WT t) (hh : h < tn t) (hl : lok (tn t) l) : S_Mod_doesShun (h : Int) (mb l) N (fun r N' => N' = N ∧ r = zo (shL t h l)) := by
  have h7 := hW.1
  have := m_doesShun (a := mb l) hT hW hh (by unfold mb; split <;> omega)
  have e : (if mb l = -1 then 0 else zo (shB t h (mb l).toNat)) = zo (shL t h l) := by
    unfold mb shL
    by_cases q : l = 7
    · rw [if_pos q, if_pos rfl, decide_eq_false (by omega)]; rfl
    · rw [if_neg q, if_neg (by omega), decide_eq_true q, Int.toNat_natCast]; rfl
  rw [e] at this
  exact this
def borne (t : TT) (L h : Nat) : Nat → Nat
  | 0 => 0
  | k + 1 => if L.testBit k = true ∧ shL t h k = false then borne t L h k ||| 2 ^ k else borne t L h k
theorem borne_bit {t : TT} {L h l : Nat} : ∀ k, (borne t L h k).testBit l = true ↔ (l < k ∧ L.testBit l = true ∧ shL t h l = false)
  | 0 => by unfold borne; simp
  | k + 1 => by
    have ih := borne_bit (t := t) (L := L) (h := h) (l := l) k
    unfold borne
    by_cases c : L.testBit k = true ∧ shL t h k = false
    · rw [if_pos c, Nat.testBit_or, Bool.or_eq_true, ih, Nat.testBit_two_pow, decide_eq_true_eq]
      constructor
      · rintro (z | z)
        · exact ⟨by omega, z.2⟩
        · subst z; exact ⟨by omega, c⟩
      · rintro ⟨z1, z2⟩
        by_cases e : l = k
        · exact Or.inr e.symm
        · exact Or.inl ⟨by omega, z2⟩
    · rw [if_neg c, ih]
      constructor
      · rintro ⟨z1, z2⟩; exact ⟨by omega, z2⟩
      · rintro ⟨z1, z2⟩
        refine ⟨?_, z2⟩
        apply Classical.byContradiction
        intro y
        rw [show l = k by omega] at z2
        exact c z2
theorem borne_lt (t : TT) (L h : Nat) : ∀ k, k ≤ 8 → borne t L h k < 256
  | 0, _ => by unfold borne; omega
  | k + 1, hk => by
    have ih := borne_lt t L h k (by omega)
    have h2 : 2 ^ k ≤ 2 ^ 7 := Nat.pow_le_pow_right (by omega) (by omega)
    unfold borne
    split
    · exact Nat.or_lt_two_pow (n := 8) ih (by omega)
    · exact ih
def lbR (t : TT) (L h : Nat) : Nat := if tkind t h = 3 then borne t L h 8 else if borne t L h 8 = 0 then 0 else 2 ^ h
theorem ne0_bit {x : Nat} : x ≠ 0 ↔ ∃ i, x.testBit i = true := by
  constructor
  · intro h
    apply Classical.byContradiction
    intro c
    apply h
    apply Nat.eq_of_testBit_eq
    intro i
    rw [Nat.zero_testBit]
    cases e : x.testBit i
    · rfl
    · exact absurd ⟨i, e⟩ c
  · rintro ⟨i, hi⟩ e
    rw [e, Nat.zero_testBit] at hi; cases hi
theorem lbR_bit {t : TT} {L h l' : Nat} : (lbR t L h).testBit l' = true ↔ ∃ l, l < 8 ∧ L.testBit l = true ∧ shL t h l = false ∧ nxL t h l = l' := by
  unfold lbR nxL
  by_cases c : tkind t h = 3
  · rw [if_pos c, borne_bit]
    constructor
    · rintro ⟨a, b, d⟩; exact ⟨l', a, b, d, by rw [if_pos c]⟩
    · rintro ⟨l, a, b, d, e⟩
      rw [if_pos c] at e; subst e
      exact ⟨a, b, d⟩
  · rw [if_neg c]
    constructor
    · intro z
      by_cases e : borne t L h 8 = 0
      · rw [if_pos e, Nat.zero_testBit] at z; cases z
      · rw [if_neg e, Nat.testBit_two_pow, decide_eq_true_eq] at z
        obtain ⟨l, hl⟩ := ne0_bit.mp e
        have := (borne_bit 8).mp hl
        exact ⟨l, this.1, this.2.1, this.2.2, by rw [if_neg c]; exact z⟩
    · rintro ⟨l, a, b, d, e⟩
      rw [if_neg c] at e; subst e
      have : borne t L h 8 ≠ 0 := ne0_bit.mpr ⟨l, (borne_bit 8).mpr ⟨a, b, d⟩⟩
      rw [if_neg this, Nat.testBit_two_pow]; simp
theorem lbR_lt {t : TT} {L h : Nat} (hh : h < 7) : lbR t L h < 256 := by
  have := borne_lt t L h 8 (by omega)
  have := pw6 hh
  unfold lbR
  split
  · assumption
  · split <;> omega
def orS (f : Nat → Nat) : Nat → Nat
  | 0 => 0
  | k + 1 => orS f k ||| f k
theorem orS_bit {f : Nat → Nat} {l : Nat} : ∀ k, (orS f k).testBit l = true ↔ ∃ h, h < k ∧ (f h).testBit l = true
  | 0 => by unfold orS; simp
  | k + 1 => by
    unfold orS
    rw [Nat.testBit_or, Bool.or_eq_true, orS_bit k]
    constructor
    · rintro (⟨h, h1, h2⟩ | z)
      · exact ⟨h, by omega, h2⟩
      · exact ⟨k, by omega, z⟩
    · rintro ⟨h, h1, h2⟩
      by_cases e : h = k
      · subst e; exact Or.inr h2
      · exact Or.inl ⟨h, by omega, h2⟩
theorem orS_ext {f g : Nat → Nat} : ∀ {k : Nat}, (∀ i, i < k → f i = g i) → orS f k = orS g k
  | 0, _ => rfl
  | k + 1, h => by unfold orS; rw [orS_ext (fun i hi => h i (by omega)), h k (by omega)]
theorem orS_lt {f : Nat → Nat} : ∀ {k : Nat}, (∀ i, i < k → f i < 256) → orS f k < 256
  | 0, _ => by unfold orS; omega
  | k + 1, h => by unfold orS; exact Nat.or_lt_two_pow (n := 8) (orS_lt (fun i hi => h i (by omega))) (h k (by omega))
/-- who can be the last one, when the set has gone and none was shunned -/
def lsv (t : TT) : Nat → Nat → Nat
  | 0, _ => 0
  | f + 1, S => if S = 0 then 128 else orS (fun h => if S.testBit h = true then lbR t (lsv t f (tg S h)) h else 0) (tn t)
theorem lsv_st (t : TT) : ∀ f S, S < f → lsv t f S = lsv t (f + 1) S
  | 0, S, h => by omega
  | f + 1, S, h => by
    rw [lsv, lsv]
    by_cases e : S = 0
    · rw [if_pos e, if_pos e]
    · rw [if_neg e, if_neg e]
      refine orS_ext (fun i hi => ?_)
      by_cases c : S.testBit i = true
      · rw [if_pos c, if_pos c]
        have := tg_dn c
        rw [lsv_st t f _ (by omega)]
      · rw [if_neg c, if_neg c]
def ls (t : TT) (S : Nat) : Nat := lsv t 128 S
theorem ls_eq (t : TT) {S : Nat} (h : S < 128) : ls t S = if S = 0 then 128 else orS (fun h => if S.testBit h = true then lbR t (ls t (tg S h)) h else 0) (tn t) := by
  show lsv t (127 + 1) S = _
  rw [lsv]
  by_cases e : S = 0
  · rw [if_pos e, if_pos e]
  · rw [if_neg e, if_neg e]
    refine orS_ext (fun i hi => ?_)
    by_cases c : S.testBit i = true
    · rw [if_pos c, if_pos c]
      have := tg_dn c
      rw [lsv_st t 127 _ (by omega)]; rfl
    · rw [if_neg c, if_neg c]
theorem ls_lt {t : TT} {S : Nat} (hn : tn t ≤ 7) (h : S < 128) : ls t S < 256 := by
  rw [ls_eq t h]
  split
  · omega
  · exact orS_lt (fun i hi => by split; exact lbR_lt (by omega); omega)
theorem ls_bit {t : TT} {S l' : Nat} (h : S < 128) : (ls t S).testBit l' = true ↔ (S = 0 ∧ l' = 7) ∨ ∃ h, h < tn t ∧ S.testBit h = true ∧ ∃ l, l < 8 ∧ (ls t (tg S h)).testBit l = true ∧ shL t h l = false ∧ nxL t h l = l' := by
  rw [ls_eq t h]
  by_cases e : S = 0
  · subst e
    rw [if_pos rfl]
    have : (128 : Nat).testBit l' = true ↔ l' = 7 := by
      rw [show (128 : Nat) = 2 ^ 7 from rfl, Nat.testBit_two_pow, decide_eq_true_eq]
      exact ⟨fun z => z.symm, fun z => z.symm⟩
    rw [this]
    constructor
    · intro z; exact Or.inl ⟨rfl, z⟩
    · rintro (⟨-, z⟩ | ⟨q, -, z, -⟩)
      · exact z
      · rw [Nat.zero_testBit] at z; cases z
  · rw [if_neg e, orS_bit]
    constructor
    · rintro ⟨q, q1, q2⟩
      refine Or.inr ⟨q, q1, ?_⟩
      by_cases c : S.testBit q = true
      · rw [if_pos c] at q2
        exact ⟨c, lbR_bit.mp q2⟩
      · rw [if_neg c, Nat.zero_testBit] at q2; cases q2
    · rintro (⟨z, -⟩ | ⟨q, q1, q2, q3⟩)
      · exact absurd z e
      · exact ⟨q, q1, by rw [if_pos q2]; exact lbR_bit.mpr q3⟩
def anyB (f : Nat → Bool) : Nat → Bool
  | 0 => false
  | k + 1 => anyB f k || f k
theorem anyB_iff {f : Nat → Bool} : ∀ k, anyB f k = true ↔ ∃ h, h < k ∧ f h = true
  | 0 => by unfold anyB; simp
  | k + 1 => by
    unfold anyB
    rw [Bool.or_eq_true, anyB_iff k]
    constructor
    · rintro (⟨h, h1, h2⟩ | z)
      · exact ⟨h, by omega, h2⟩
      · exact ⟨k, by omega, z⟩
    · rintro ⟨h, h1, h2⟩
      by_cases e : h = k
      · subst e; exact Or.inr h2
      · exact Or.inl ⟨h, by omega, h2⟩
theorem anyB_ext {f g : Nat → Bool} : ∀ {k : Nat}, (∀ i, i < k → f i = g i) → anyB f k = anyB g k
  | 0, _ => rfl
  | k + 1, h => by unfold anyB; rw [anyB_ext (fun i hi => h i (by omega)), h k (by omega)]
/-- those left can go, none shunned -/
def cgv (t : TT) : Nat → Nat → Nat → Bool
  | 0, _, _ => false
  | f + 1, L, l => decide (L = 0) || anyB (fun h => L.testBit h && (!shL t h l) && cgv t f (tg L h) (nxL t h l)) (tn t)
theorem cgv_st (t : TT) : ∀ f L l, L < f → cgv t f L l = cgv t (f + 1) L l
  | 0, L, l, h => by omega
  | f + 1, L, l, h => by
    rw [cgv, cgv]
    congr 1
    refine anyB_ext (fun i hi => ?_)
    cases c : L.testBit i
    · rfl
    · have := tg_dn c
      rw [cgv_st t f _ _ (by omega)]
def cg (t : TT) (L l : Nat) : Bool := cgv t 128 L l
theorem cg_eq (t : TT) {L : Nat} (l : Nat) (h : L < 128) : cg t L l = (decide (L = 0) || anyB (fun h => L.testBit h && (!shL t h l) && cg t (tg L h) (nxL t h l)) (tn t)) := by
  show cgv t (127 + 1) L l = _
  rw [cgv]
  refine congrArg (fun z => decide (L = 0) || z) (anyB_ext (fun i hi => ?_))
  cases c : L.testBit i
  · simp only [Bool.false_and]
  · have := tg_dn c
    have e : cgv t 127 (tg L i) (nxL t i l) = cg t (tg L i) (nxL t i l) := cgv_st t 127 _ _ (by omega)
    rw [e]
theorem cg_iff {t : TT} {L l : Nat} (h : L < 128) : cg t L l = true ↔ L = 0 ∨ ∃ h, h < tn t ∧ L.testBit h = true ∧ shL t h l = false ∧ cg t (tg L h) (nxL t h l) = true := by
  rw [cg_eq t l h, Bool.or_eq_true, decide_eq_true_eq, anyB_iff]
  constructor
  · rintro (z | ⟨q, q1, q2⟩)
    · exact Or.inl z
    · simp only [Bool.and_eq_true, Bool.not_eq_true'] at q2
      exact Or.inr ⟨q, q1, q2.1.1, q2.1.2, q2.2⟩
  · rintro (z | ⟨q, q1, q2, q3, q4⟩)
    · exact Or.inl z
    · exact Or.inr ⟨q, q1, by rw [q2, q3, q4]; rfl⟩
theorem tg_x {S L h : Nat} : tg S h ^^^ tg L h = S ^^^ L := by
  apply Nat.eq_of_testBit_eq
  intro i
  rw [Nat.testBit_xor, Nat.testBit_xor, tg_bit, tg_bit]
  by_cases e : i = h
  · subst e; simp
  · rw [if_neg e, if_neg e]
theorem tg128 {S h : Nat} (hS : S < 128) (hh : h < 7) : tg S h < 128 := tg_lt (n := 7) hS hh
theorem ls_8 {t : TT} {S l : Nat} (hn : tn t ≤ 7) (hS : S < 128) (h : (ls t S).testBit l = true) : l < 8 := by
  rcases (ls_bit hS).mp h with ⟨-, z⟩ | ⟨q, q1, -, l0, z1, -, -, z⟩
  · omega
  · rw [← z]; exact nx8 (by omega) z1
theorem cg_ls {t : TT} (hn : tn t ≤ 7) : ∀ L, L < 128 → ∀ S l, S < 128 → cg t L l = true → (ls t S).testBit l = true → (∀ i, S.testBit i = true → L.testBit i = false) → ls t (S ^^^ L) ≠ 0 := by
  intro L
  induction L using Nat.strongRecOn with
  | _ L ih =>
    intro hL S l hS hc hl hd
    rcases (cg_iff hL).mp hc with z | ⟨h, h1, h2, h3, h4⟩
    · rw [z, Nat.xor_zero]
      exact ne0_bit.mpr ⟨l, hl⟩
    · have hSf : S.testBit h = false := by
        cases e : S.testBit h
        · rfl
        · rw [hd h e] at h2; cases h2
      have := ih (tg L h) (tg_dn h2) (tg128 hL (by omega)) (tg S h) (nxL t h l) (tg128 hS (by omega)) h4 ?_ ?_
      · rwa [tg_x] at this
      · refine (ls_bit (tg128 hS (by omega))).mpr (Or.inr ⟨h, h1, by rw [tg_bit, if_pos rfl, hSf]; rfl, l, ls_8 hn hS hl, by rw [tg_tg]; exact hl, h3, rfl⟩)
      · intro i hi
        rw [tg_bit] at hi ⊢
        by_cases e : i = h
        · rw [if_pos e, h2]; rfl
        · rw [if_neg e] at hi ⊢; exact hd i hi
theorem ls_cg {t : TT} (hn : tn t ≤ 7) : ∀ S, S < 128 → ∀ L l, L < 128 → cg t L l = true → (ls t S).testBit l = true → (∀ i, S.testBit i = true → L.testBit i = false) → cg t (S ^^^ L) 7 = true := by
  intro S
  induction S using Nat.strongRecOn with
  | _ S ih =>
    intro hS L l hL hc hl hd
    rcases (ls_bit hS).mp hl with ⟨z1, z2⟩ | ⟨h, h1, h2, l0, l1, l2, l3, l4⟩
    · rw [z1, Nat.zero_xor, ← z2]; exact hc
    · have hLf := hd h h2
      have hcl : cg t (tg L h) l0 = true := (cg_iff (tg128 hL (by omega))).mpr (Or.inr ⟨h, h1, by rw [tg_bit, if_pos rfl, hLf]; rfl, l3, by rw [tg_tg, l4]; exact hc⟩)
      have := ih (tg S h) (tg_dn h2) (tg128 hS (by omega)) (tg L h) l0 (tg128 hL (by omega)) hcl l2 ?_
      · rwa [tg_x] at this
      · intro i hi
        rw [tg_bit] at hi ⊢
        by_cases e : i = h
        · rw [if_pos e, h2] at hi; cases hi
        · rw [if_neg e] at hi ⊢; exact hd i hi
theorem ls_iff {t : TT} {G : Nat} (hn : tn t ≤ 7) (hG : G < 128) : ls t G ≠ 0 ↔ cg t G 7 = true := by
  constructor
  · intro h
    obtain ⟨l, hl⟩ := ne0_bit.mp h
    have := ls_cg hn G hG 0 l (by omega) ((cg_iff (by omega)).mpr (Or.inl rfl)) hl (fun i _ => Nat.zero_testBit i)
    rwa [Nat.xor_zero] at this
  · intro h
    have := cg_ls hn G hG 0 7 (by omega) h ((ls_bit (by omega)).mpr (Or.inl ⟨rfl, rfl⟩)) (fun i hi => by rw [Nat.zero_testBit] at hi; cases hi)
    rwa [Nat.zero_xor] at this
theorem c_lastsBehind {t : TT} {M : Mm} {b L h : Nat} (hb : At shC NN b (.inl 7)) (hT : RT t M b) (hW : WT t) (hh : h < tn t) (hL : L < 256) : S_Rows_lastsBehind b (L : Int) (h : Int) M (fun r M' => M' = M ∧ r = (lbR t L h : Int)) := by
  have h7 := hW.1
  have hk := hW.2.1 h hh
  refine e_Rows_lastsBehind b _ _ M fun K hK => w_Rows_lastsBehind_0 hK b hb _ _ M ?_
  have key : ∀ k, k ≤ 8 → K NN RRC 5 [(0, vr b), (1, vi (L : Int)), (2, vi (h : Int)), (3, vi (borne t L h k : Int)), (4, vi (k : Int))] [] M := by
    refine up_ind ?_ ?_
    · have hlt := borne_lt t L h 8 (by omega)
      refine w_Rows_lastsBehind_5 hK b hb _ _ _ _ M ⟨by omega, fun _ => ⟨_, c_isCat hb hT hW hh, ?_⟩, fun z => by omega⟩
      rintro r M1 ⟨rfl, rfl⟩
      refine ⟨zo_rng _, fun z => ⟨by omega, fun z2 => ⟨rfl, ?_⟩, fun z2 => ⟨rfl, ?_⟩⟩, fun z => ⟨rfl, ?_⟩⟩
      · have := zo_0 z
        unfold lbR
        rw [if_neg (by simpa using this), if_pos (by omega)]; rfl
      · have := zo_0 z
        unfold lbR
        rw [if_neg (by simpa using this), if_neg (by omega), shl1 (by omega)]
      · have := zo_ne z
        unfold lbR
        rw [if_pos (by simpa using this)]
    · intro k hk2 ih
      have hb2 := bitz (a := L) (k := k) (by omega) (by omega)
      have hlt := borne_lt t L h k (by omega)
      have h2 : 2 ^ k ≤ 2 ^ 7 := Nat.pow_le_pow_right (by omega) (by omega)
      refine w_Rows_lastsBehind_5 hK b hb _ _ _ _ M ⟨by omega, fun z => by omega, fun _ => ⟨fun z => ?_, fun z => ⟨_, c_shunsLast hb hT hW hh (by omega), ?_⟩⟩⟩
      · rw [borne, if_neg (fun y => by rw [hb2.1.mp z] at y; cases y.1)] at ih
        exact ih
      · have hLk : L.testBit k = true := by
          cases e : L.testBit k
          · exact absurd (hb2.1.mpr e) z
          · rfl
        rintro r M1 ⟨rfl, rfl⟩
        refine ⟨zo_rng _, fun z2 => ?_, fun z2 => ?_⟩
        · rw [borne, if_neg (fun y => by rw [zo_ne z2] at y; cases y.2)] at ih
          exact ih
        · rw [borne, if_pos ⟨hLk, zo_0 z2⟩] at ih
          rw [shl1 (by omega), orI_nat (by omega) (by omega)]
          exact ih
  exact key 0 (by omega)
theorem xorI_tg {S h : Nat} (hS : S < 128) (hh : h < 7) : xorI (S : Int) (shlI 1 (h : Int)) = ((tg S h : Nat) : Int) := by
  have := pw6 hh
  rw [shl1 (by omega), xorI_nat (by omega) (by omega)]; rfl
theorem c_findLasts {t : TT} {M : Mm} {tb : Nat} (htb : tb = 4 ∨ tb = 18) (hT : RT t M tb) (hW : WT t) : S_Rows_findLasts 62 tb M (fun M' => (∀ S, S < 2 ^ tn t → M' 66 S = (ls t S : Int)) ∧ FrC (fun c => c = 66) M M') := by
  have hn := hW.1
  have h7 := pw7 hn
  have at7 := at_tb htb
  refine e_Rows_findLasts 62 tb M fun K hK => w_Rows_findLasts_0 hK 62 atC_62 tb at7 M ?_
  rintro M1 rfl
  rw [hT.1.1, shl1 (by omega)]
  have key : ∀ S, S ≤ 2 ^ tn t → 1 ≤ S → ∀ M2 : Mm, (∀ T, T < S → M2 66 T = (ls t T : Int)) → FrC (fun c => c = 66) M M2 → K NN RRC 18 [(0, vr 62), (1, vr tb), (2, vi ((2 ^ tn t : Nat) : Int)), (3, vi (S : Int))] [] M2 := by
    refine up_ind ?_ ?_
    · intro _ M2 s1 s2
      exact w_Rows_findLasts_18 hK 62 atC_62 tb at7 _ _ M2 ⟨by omega, by omega, fun _ => ⟨s1, s2⟩, fun z => absurd (Int.le_refl _) z⟩
    · intro S hS ih h1 M2 s1 s2
      refine w_Rows_findLasts_18 hK 62 atC_62 tb at7 _ _ M2 ⟨by omega, by omega, fun z => by omega, fun _ => ⟨by omega, ?_⟩⟩
      rintro M3 rfl
      rw [Int.toNat_natCast]
      have inn : ∀ k, k ≤ tn t → ∀ M4 : Mm, (∀ T, T < S → M4 66 T = (ls t T : Int)) → M4 66 S = (orS (fun h => if S.testBit h = true then lbR t (ls t (tg S h)) h else 0) k : Int) → FrC (fun c => c = 66) M M4 → K NN RRC 33 [(0, vr 62), (1, vr tb), (2, vi ((2 ^ tn t : Nat) : Int)), (3, vi (S : Int)), (4, vi (k : Int))] [] M4 := by
        refine up_ind ?_ ?_
        · intro M4 q1 q2 q3
          refine w_Rows_findLasts_33 hK 62 atC_62 tb at7 _ _ _ M4 ?_
          rw [q3 tb (by omega), hT.1.1]
          refine ⟨by omega, by omega, fun _ => ih (by omega) M4 (fun T hT2 => ?_) q3, fun z => absurd (Int.le_refl _) z⟩
          by_cases e : T = S
          · rw [e, q2, ls_eq t (by omega), if_neg (by omega)]
          · exact q1 T (by omega)
        · intro k hk ih2 M4 q1 q2 q3
          have hbt := bitz (a := S) (k := k) (by omega) (by omega)
          have hT4 : RT t M4 tb := hT.fr (fun i _ _ => q3 _ (by omega))
          have hol : orS (fun h => if S.testBit h = true then lbR t (ls t (tg S h)) h else 0) k < 256 := orS_lt (fun i hi => by
            show (if S.testBit i = true then lbR t (ls t (tg S i)) i else 0) < 256
            split
            · exact lbR_lt (by omega)
            · omega)
          refine w_Rows_findLasts_33 hK 62 atC_62 tb at7 _ _ _ M4 ?_
          rw [q3 tb (by omega), hT.1.1, xorI_tg (by omega) (by omega), Int.toNat_natCast, Int.toNat_natCast]
          refine ⟨by omega, by omega, fun z => by omega, fun _ => ⟨fun z => ?_, fun z => ?_⟩⟩
          · refine ih2 M4 q1 ?_ q3
            rw [orS, if_neg (by rw [hbt.1.mp z]; exact Bool.false_ne_true), Nat.or_zero]
            exact q2
          · have hSk : S.testBit k = true := by
              cases e : S.testBit k
              · exact absurd (hbt.1.mpr e) z
              · rfl
            have hd := tg_dn hSk
            refine ⟨by omega, by omega, ?_⟩
            rw [show M4 (62 + 4) (tg S k) = _ from q1 _ hd]
            refine ⟨_, c_lastsBehind at7 hT4 hW hk (ls_lt hn (by omega)), ?_⟩
            rintro r M5 ⟨rfl, rfl⟩
            refine ⟨by omega, ?_⟩
            rintro M6 rfl
            rw [show M5 (62 + 4) S = _ from q2, orI_nat (by omega) (by have := lbR_lt (t := t) (L := ls t (tg S k)) (h := k) (by omega); omega)]
            refine ih2 _ (fun T hT2 => ?_) ?_ (q3.tr (FrC.up (c := 62 + 4) rfl))
            · rw [upr_eq, if_pos rfl, up1_eq, if_neg (by omega)]; exact q1 T hT2
            · rw [upr_eq, if_pos rfl, up1_eq, if_pos rfl, orS, if_pos hSk]
      refine inn 0 (by omega) _ (fun T hT2 => ?_) ?_ (s2.tr (FrC.up (c := 62 + 4) rfl))
      · rw [upr_eq, if_pos rfl, up1_eq, if_neg (by omega)]; exact s1 T hT2
      · rw [upr_eq, if_pos rfl, up1_eq, if_pos rfl]; rfl
  refine key 1 (by omega) (by omega) _ (fun T hT2 => ?_) (FrC.up (c := 62 + 4) rfl)
  rw [show T = 0 by omega, upr_eq, if_pos rfl, up1_eq, if_pos rfl, ls_eq t (by omega), if_pos rfl]; rfl
/-- a set that may go by the road -/
def arF (t : TT) (G s : Nat) : Bool := decide (adn s G = 0) && cg t (adn G s) 7
def av (f : Nat → Bool) : Nat → Int
  | 0 => -1
  | k + 1 => if f k = true ∧ (av f k < 0 ∨ pcN k < pcN (av f k).toNat) then (k : Int) else av f k
theorem av_ok (f : Nat → Bool) : ∀ k, (av f k = -1 ∧ ∀ s, s < k → f s = false) ∨ ∃ v : Nat, v < k ∧ av f k = (v : Int) ∧ f v = true ∧ ∀ s, s < k → f s = true → (pcN v < pcN s ∨ (pcN v = pcN s ∧ v ≤ s))
  | 0 => Or.inl ⟨rfl, fun s hs => by omega⟩
  | k + 1 => by
    rw [av]
    rcases av_ok f k with ⟨a, b⟩ | ⟨v, v1, v2, v3, v4⟩
    · by_cases c : f k = true
      · rw [if_pos ⟨c, Or.inl (by omega)⟩]
        refine Or.inr ⟨k, by omega, rfl, c, fun s hs h => ?_⟩
        by_cases e : s = k
        · subst e; exact Or.inr ⟨rfl, Nat.le_refl _⟩
        · rw [b s (by omega)] at h; cases h
      · rw [if_neg (fun z => c z.1)]
        refine Or.inl ⟨a, fun s hs => ?_⟩
        by_cases e : s = k
        · subst e; cases h : f s
          · rfl
          · exact absurd h c
        · exact b s (by omega)
    · rw [v2, Int.toNat_natCast]
      by_cases c : f k = true ∧ ((v : Int) < 0 ∨ pcN k < pcN v)
      · rw [if_pos c]
        refine Or.inr ⟨k, by omega, rfl, c.1, fun s hs h => ?_⟩
        by_cases e : s = k
        · subst e; exact Or.inr ⟨rfl, Nat.le_refl _⟩
        · have := v4 s (by omega) h
          have := c.2
          omega
      · rw [if_neg c]
        refine Or.inr ⟨v, by omega, rfl, v3, fun s hs h => ?_⟩
        by_cases e : s = k
        · subst e
          have : ¬ pcN s < pcN v := fun z => c ⟨h, Or.inr z⟩
          omega
        · exact v4 s (by omega) h
theorem adn_self (G : Nat) : adn G G = 0 := by
  rw [adn_zero]; exact fun i hi => hi
theorem arF_self {t : TT} {G : Nat} : arF t G G = true := by
  unfold arF
  rw [adn_self, (cg_iff (by omega)).mpr (Or.inl rfl)]; rfl
theorem c_leastRoad {t : TT} {tb B : Nat} {σ : Nat → Int} {M : Mm} (htb : tb = 4 ∨ tb = 18) (hT : RT t M tb) (hW : WT t) (hS : RS (tn t) σ M 42) (hw : WF (tn t) B σ) : S_Rows_leastRoad 62 tb 42 M (fun r M' => r = av (arF t (goS (tn t) σ)) (goS (tn t) σ + 1) ∧ FrC (fun c => c = 66) M M') := by
  have hn := hW.1
  have h7 := pw7 hn
  have hGl : goS (tn t) σ < 2 ^ tn t := by
    have := adn_le (2 ^ tn t - 1) (σ 4).toNat
    unfold goS; omega
  refine e_Rows_leastRoad 62 tb 42 M fun K hK => w_Rows_leastRoad_0 hK 62 atC_62 tb (at_tb htb) 42 atC_42 M ⟨_, c_findLasts htb hT hW, ?_⟩
  rintro M1 ⟨r1, r2⟩
  rw [r2 tb (by omega), hT.1.1]
  refine ⟨_, c_goingSet atC_42 (hS.fr (fun i hi => r2 _ (by omega))) hw hn, ?_⟩
  rintro r M2 ⟨rfl, rfl⟩
  generalize hG : goS (tn t) σ = G at hGl
  have key : ∀ k, k ≤ G + 1 → ∀ v : Nat, v ≤ G → arF t G v = true → (∀ s, k ≤ s → s ≤ G → arF t G s = true → (pcN v < pcN s ∨ (pcN v = pcN s ∧ v ≤ s))) → k ≤ v + 1 → (k ≤ v ∨ v = G) → K NN RRC 20 [(0, vr 62), (3, vi (G : Int)), (4, vi (v : Int)), (5, vi ((k : Int) - 1))] [] M2 := by
    intro k
    induction k with
    | zero =>
      intro _ v v1 v2 v3 v4 v5
      refine w_Rows_leastRoad_20 hK 62 atC_62 _ _ _ M2 ⟨by omega, fun _ => ⟨?_, r2⟩, fun z => by omega⟩
      rcases av_ok (arF t G) (G + 1) with ⟨a, b⟩ | ⟨u, u1, u2, u3, u4⟩
      · rw [b v (by omega)] at v2; cases v2
      · rw [hG, u2]
        have h1 := v3 u (by omega) (by omega) u3
        have h2 := u4 v (by omega) v2
        omega
    | succ k ih =>
      intro hk v v1 v2 v3 v4 v5
      rw [show ((k + 1 : Nat) : Int) - 1 = (k : Int) by omega]
      have eA : andI (k : Int) (xorI (G : Int) (-1)) = ((adn k G : Nat) : Int) := by rw [not_nat (by omega), andn_nat (by omega) (by omega)]
      have eB : andI (G : Int) (xorI (k : Int) (-1)) = ((adn G k : Nat) : Int) := by rw [not_nat (by omega), andn_nat (by omega) (by omega)]
      have hle := adn_le G k
      have eL := r1 (adn G k) (by omega)
      have hll := ls_lt (S := adn G k) hn (by omega)
      have no : arF t G k = false → K NN RRC 20 [(0, vr 62), (3, vi (G : Int)), (4, vi (v : Int)), (5, vi ((k : Int) + (-1)))] [] M2 := by
        intro hf
        refine ih (by omega) v v1 v2 (fun s s1 s2 s3 => ?_) (by omega) (by omega)
        by_cases e : s = k
        · rw [e, hf] at s3; cases s3
        · exact v3 s (by omega) s2 s3
      refine w_Rows_leastRoad_20 hK 62 atC_62 _ _ _ M2 ?_
      rw [eA, eB, Int.toNat_natCast, show M2 (62 + 4) (adn G k) = _ from eL]
      refine ⟨by omega, fun z => by omega, fun _ => ⟨fun z => ?_, fun z => ⟨by omega, by omega, fun z2 => ?_, fun z2 => ?_⟩⟩⟩
      · refine w_Rows_leastRoad_53 hK 62 atC_62 _ _ _ _ M2 ⟨by decide, fun _ => no ?_, fun y => absurd rfl y⟩
        unfold arF; rw [decide_eq_false (by omega)]; rfl
      · refine w_Rows_leastRoad_53 hK 62 atC_62 _ _ _ _ M2 ⟨by decide, fun _ => no ?_, fun y => absurd rfl y⟩
        unfold arF
        have : ¬ cg t (adn G k) 7 = true := fun y => (ls_iff hn (by omega)).mpr y (by omega)
        cases e : cg t (adn G k) 7
        · simp
        · exact absurd e this
      · have hy : arF t G k = true := by
          unfold arF
          rw [decide_eq_true (by omega), (ls_iff hn (by omega)).mp (by omega)]; rfl
        refine w_Rows_leastRoad_53 hK 62 atC_62 _ _ _ _ M2 ⟨by decide, fun y => by omega, fun _ => ⟨_, c_bitCount (by omega), ?_⟩⟩
        rintro r M3 ⟨rfl, rfl⟩
        refine ⟨_, c_bitCount (by omega), ?_⟩
        rintro r M4 ⟨rfl, rfl⟩
        have p1 := pcN_le k (by omega)
        have p2 := pcN_le v (by omega)
        refine ⟨by omega, by omega, fun y => ?_, fun y => ?_⟩
        · refine ih (by omega) v v1 v2 (fun s s1 s2 s3 => ?_) (by omega) (by omega)
          by_cases e : s = k
          · subst e; exact Or.inl (by omega)
          · exact v3 s (by omega) s2 s3
        · refine ih (by omega) k (by omega) hy (fun s s1 s2 s3 => ?_) (by omega) (by omega)
          by_cases e : s = k
          · subst e; exact Or.inr ⟨rfl, Nat.le_refl _⟩
          · have := v3 s (by omega) s2 s3
            omega
  have := key (G + 1) (Nat.le_refl _) G (Nat.le_refl _) arF_self (fun s h1 h2 => by omega) (by omega) (Or.inr rfl)
  rw [show ((G + 1 : Nat) : Int) - 1 = (G : Int) by omega] at this
  exact this
theorem m_canGo {t : TT} (hW : WT t) : ∀ j, ∀ L, L < 2 ^ tn t → pcN L ≤ j → ∀ l, lok (tn t) l → ∀ N : Mm, RM t N → ∀ dd, j + 2 ≤ dd → S_Mod_canGo dd (L : Int) (mb l) N (fun r N' => N' = N ∧ r = zo (cg t L l)) := by
  have hn := hW.1
  have h7 := pw7 hn
  intro j
  induction j with
  | zero =>
    intro L hL hp l hl N hT dd hdd
    obtain ⟨d, rfl⟩ : ∃ d, dd = d + 1 := ⟨dd - 1, by omega⟩
    refine e_Mod_canGo (d + 1) _ _ N fun K hK => w_Mod_canGo_0 hK (by omega) _ _ N ⟨by omega, fun z => ?_, fun z => ⟨rfl, ?_⟩⟩
    · exfalso
      have h0 : L ≠ 0 := by omega
      obtain ⟨i, hi⟩ := ne0_bit.mp h0
      have hi7 : i < 7 := by
        apply Classical.byContradiction
        intro c
        rw [Nat.testBit_lt_two_pow (Nat.lt_of_lt_of_le (show L < 2 ^ 7 by omega) (Nat.pow_le_pow_right (by omega) (by omega)))] at hi
        cases hi
      have := pcN_dn L (by omega) i hi7 hi
      omega
    · rw [(cg_iff (by omega)).mpr (Or.inl (by omega))]; rfl
  | succ j ih =>
    intro L hL hp l hl N hT dd hdd
    obtain ⟨d, rfl⟩ : ∃ d, dd = d + 1 := ⟨dd - 1, by omega⟩
    refine e_Mod_canGo (d + 1) _ _ N fun K hK => w_Mod_canGo_0 hK (by omega) _ _ N ⟨by omega, fun z => ?_, fun z => ⟨rfl, ?_⟩⟩
    · have key : ∀ k, k ≤ tn t → (∀ h, h < k → (L.testBit h && (!shL t h l) && cg t (tg L h) (nxL t h l)) = false) → K NM RRM 8 [(0, vr 1), (1, vi (L : Int)), (2, vi (mb l)), (3, vi (k : Int))] [] N := by
        refine up_ind ?_ ?_
        · intro hf
          refine w_Mod_canGo_8 hK (by omega) _ _ _ N ?_
          rw [hT.1.1]
          refine ⟨by omega, by omega, fun _ => ⟨rfl, ?_⟩, fun y => absurd (Int.le_refl _) y⟩
          have : cg t L l = false := by
            rw [cg_eq t l (by omega), decide_eq_false (by omega), Bool.false_or]
            cases e : anyB (fun h => L.testBit h && (!shL t h l) && cg t (tg L h) (nxL t h l)) (tn t)
            · rfl
            · obtain ⟨h, h1, h2⟩ := (anyB_iff _).mp e
              rw [hf h h1] at h2; cases h2
          rw [this]; rfl
        · intro k hk ih2 hf
          have hbt := bitz (a := L) (k := k) (by omega) (by omega)
          have hkd := hW.2.1 k hk
          have go : (L.testBit k && (!shL t k l) && cg t (tg L k) (nxL t k l)) = false → K NM RRM 8 [(0, vr 1), (1, vi (L : Int)), (2, vi (mb l)), (3, vi ((k : Int) + 1))] [] N := fun hz => ih2 (fun h hh => by
            by_cases e : h = k
            · rw [e]; exact hz
            · exact hf h (by omega))
          refine w_Mod_canGo_8 hK (by omega) _ _ _ N ?_
          rw [hT.1.1]
          refine ⟨by omega, by omega, fun y => by omega, fun _ => ⟨fun y => go ?_, fun y => ⟨_, m_shL hT hW hk hl, ?_⟩⟩⟩
          · cases e : L.testBit k
            · rfl
            · exact absurd (hbt.2.mpr e) y
          · have hLk := hbt.2.mp y
            rintro r N1 ⟨rfl, rfl⟩
            have eo : andI (L : Int) (xorI (shlI 1 (k : Int)) (-1)) = ((tg L k : Nat) : Int) := by
              have := pw6 (show k < 7 by omega)
              rw [shl1 (by omega), not_nat (by omega), andn_nat (by omega) (by omega), adn_pow, if_pos hLk]
            rw [eo, Int.toNat_natCast, (hT.2.1 k hk).1]
            have hpd := pcN_dn L (by omega) k (by omega) hLk
            have hrec := ih (tg L k) (tg_lt hL hk) (by omega) (nxL t k l) (nxL_ok hk hl) N1 hT d (by omega)
            have ha : tkind t k ≠ 3 → S_Mod_canGo d ((tg L k : Nat) : Int) (k : Int) N1 (fun r N' => N' = N1 ∧ r = zo (cg t (tg L k) (nxL t k l))) := fun q2 => by
              have : mb (nxL t k l) = (k : Int) := by unfold nxL mb; rw [if_neg q2, if_neg (by omega)]
              rw [this] at hrec
              exact hrec
            have hc : tkind t k = 3 → S_Mod_canGo d ((tg L k : Nat) : Int) (mb l) N1 (fun r N' => N' = N1 ∧ r = zo (cg t (tg L k) (nxL t k l))) := fun q2 => by
              have : mb (nxL t k l) = mb l := by unfold nxL; rw [if_pos q2]
              rw [this] at hrec
              exact hrec
            refine ⟨zo_rng _, fun q => go ?_, fun q => ⟨by omega, by omega, fun q2 => ⟨_, ha q2, ?_⟩, fun q2 => ⟨_, hc q2, ?_⟩⟩⟩
            · rw [zo_ne q]; simp
            · rintro r N2 ⟨rfl, rfl⟩
              refine ⟨zo_rng _, fun q3 => go ?_, fun q3 => ⟨rfl, ?_⟩⟩
              · rw [zo_0 q3]; simp
              · rw [(cg_iff (by omega)).mpr (Or.inr ⟨k, hk, hLk, zo_0 q, zo_ne q3⟩)]; rfl
            · rintro r N2 ⟨rfl, rfl⟩
              refine ⟨zo_rng _, fun q3 => go ?_, fun q3 => ⟨rfl, ?_⟩⟩
              · rw [zo_0 q3]; simp
              · rw [(cg_iff (by omega)).mpr (Or.inr ⟨k, hk, hLk, zo_0 q, zo_ne q3⟩)]; rfl
      exact key 0 (by omega) (fun h hh => by omega)
    · rw [(cg_iff (by omega)).mpr (Or.inl (by omega))]; rfl
theorem c_around {t : TT} {tb B : Nat} {M N : Mm} (h : Sim t tb B M N) : S_Main_around M (PC tb M (av (arF t (goS (tn t) (N 34))) (goS (tn t) (N 34) + 1))) := by
  obtain ⟨hW, hT, hS, hN, -⟩ := h
  refine W_Main_around M ⟨tb, hT.2.1, at_tb hT.1, _, c_leastRoad hT.1 hT.2.2.2.1 hW hN.1 hN.2, ?_⟩
  rintro r M1 ⟨rfl, h1⟩
  exact ⟨rfl, h1.wk (fun c hc => by omega)⟩
theorem m_around {t : TT} {tb B : Nat} {M N : Mm} (h : Sim t tb B M N) : S_Mod_around N (PN N (av (arF t (goS (tn t) (N 34))) (goS (tn t) (N 34) + 1))) := by
  obtain ⟨hW, hT, hS, hN, -⟩ := h
  have hn := hW.1
  have h7 := pw7 hn
  have hGl : goS (tn t) (N 34) < 2 ^ tn t := by
    have := adn_le (2 ^ tn t - 1) (N 34 4).toNat
    unfold goS; omega
  refine e_Mod_around N fun K hK => w_Mod_around_0 hK N ?_
  rintro N1 rfl
  have hT1 := hT.2.2.2.2.1.thr
  refine ⟨_, m_going hT1 hW s34 hN.2, ?_⟩
  rintro r N2 ⟨rfl, rfl⟩
  generalize hG : goS (tn t) (N 34) = G at hGl
  have avb : ∀ k, k ≤ G + 1 → av (arF t G) k = -1 ∨ ∃ v : Nat, v < 128 ∧ av (arF t G) k = (v : Int) := by
    intro k hk
    rcases av_ok (arF t G) k with ⟨a, -⟩ | ⟨v, v1, v2, -⟩
    · exact Or.inl a
    · exact Or.inr ⟨v, by omega, v2⟩
  have key : ∀ k, k ≤ G + 1 → K NM RRM 14 [(0, vr 1), (1, vi (G : Int)), (2, vi (av (arF t G) k)), (3, vi (k : Int))] [] (upr N 1 (up1 (N 1) 0 0)) := by
    refine up_ind ?_ ?_
    · exact w_Mod_around_14 hK _ _ _ _ ⟨by omega, by omega, fun _ => ⟨by rw [hG], thrM, fun i _ => by rw [s34]⟩, fun z => by omega⟩
    · intro k hk ih
      have eA : andI (k : Int) (xorI (G : Int) (-1)) = ((adn k G : Nat) : Int) := by rw [not_nat (by omega), andn_nat (by omega) (by omega)]
      have eB : andI (G : Int) (xorI (k : Int) (-1)) = ((adn G k : Nat) : Int) := by rw [not_nat (by omega), andn_nat (by omega) (by omega)]
      have hle := adn_le G k
      rw [av] at ih
      have no : ¬ (arF t G k = true ∧ (av (arF t G) k < 0 ∨ pcN k < pcN (av (arF t G) k).toNat)) → K NM RRM 14 [(0, vr 1), (1, vi (G : Int)), (2, vi (av (arF t G) k)), (3, vi ((k : Int) + 1))] [] (upr N 1 (up1 (N 1) 0 0)) := fun hf => by
        rw [if_neg hf] at ih
        exact ih
      have k42 : adn k G = 0 → (av (arF t G) k < 0 ∨ pcN k < pcN (av (arF t G) k).toNat) → K NM RRM 42 [(0, vr 1), (1, vi (G : Int)), (2, vi (av (arF t G) k)), (3, vi (k : Int))] [] (upr N 1 (up1 (N 1) 0 0)) := by
        intro h1 h2
        refine w_Mod_around_42 hK _ _ _ _ ?_
        rw [eB]
        have hrec := m_canGo (t := t) hW 7 (adn G k) (by omega) (pcN_le _ (by omega)) 7 (Or.inl rfl) _ hT1 60 (by omega)
        refine ⟨_, hrec, ?_⟩
        rintro r N3 ⟨rfl, rfl⟩
        refine ⟨zo_rng _, fun z => no (fun y => ?_), fun z => ?_⟩
        · have := y.1
          unfold arF at this
          rw [zo_0 z] at this
          simp at this
        · rw [if_pos ⟨by unfold arF; rw [decide_eq_true h1, zo_ne z]; rfl, h2⟩] at ih
          exact ih
      refine w_Mod_around_14 hK _ _ _ _ ?_
      rw [eA]
      refine ⟨by omega, by omega, fun z => by omega, fun _ => ⟨fun z => no (fun y => ?_), fun z => ⟨by rcases avb k (by omega) with e | ⟨v, v1, e⟩ <;> omega, fun z2 => k42 (by omega) (Or.inl z2), fun z2 => ?_⟩⟩⟩
      · have := y.1
        unfold arF at this
        rw [decide_eq_false (by omega)] at this
        cases this
      · obtain ⟨v, v1, e⟩ : ∃ v : Nat, v < 128 ∧ av (arF t G) k = (v : Int) := by
          rcases avb k (by omega) with e | e
          · omega
          · exact e
        rw [e] at no k42 ⊢
        rw [Int.toNat_natCast] at no k42
        refine ⟨_, m_bits (by omega), ?_⟩
        rintro r N3 ⟨rfl, rfl⟩
        refine ⟨_, m_bits v1, ?_⟩
        rintro r N4 ⟨rfl, rfl⟩
        have p1 := pcN_le k (by omega)
        have p2 := pcN_le v (by omega)
        exact ⟨by omega, by omega, fun y => no (fun x => by have := x.2; omega), fun y => k42 (by omega) (Or.inr (by omega))⟩
  exact key 0 (by omega)
theorem op_around {t : TT} {tb B : Nat} {M N : Mm} (h : Sim t tb B M N) : Op S_Main_around S_Mod_around B M N := Op.ask h (c_around h) (m_around h)
