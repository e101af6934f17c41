def goS (n : Nat) (σ : Nat → Int) : Nat := adn (2 ^ n - 1) (σ 4).toNat
theorem goS_lt {n : Nat} {σ : Nat → Int} (hn : n ≤ 7) : goS n σ < 128 := by
  have h1 := adn_le (2 ^ n - 1) (σ 4).toNat
  have h2 : 2 ^ n ≤ 2 ^ 7 := Nat.pow_le_pow_right (by omega) hn
  unfold goS
  omega
theorem goS_of {n B : Nat} {σ : Nat → Int} (hw : WF n B σ) (hn : n ≤ 7) : andI (shlI 1 (n : Int) - 1) (xorI (σ 4) (-1)) = (goS n σ : Int) := by
  have h1 := hw.2.2.2.1
  obtain ⟨a, ha⟩ : ∃ a : Nat, σ 4 = (a : Int) := ⟨(σ 4).toNat, by omega⟩
  have h2 : 2 ^ n ≤ 2 ^ 7 := Nat.pow_le_pow_right (by omega) hn
  have h3 : 1 ≤ 2 ^ n := Nat.one_le_two_pow
  have e1 : shlI 1 (n : Int) = ((2 ^ n : Nat) : Int) := by
    have := shlI_nat (a := 1) (k := n) (by omega) (by rw [Nat.one_mul]; omega)
    rwa [Nat.one_mul] at this
  unfold goS
  rw [e1, ha, Int.toNat_natCast, not_nat (by omega), show ((2 ^ n : Nat) : Int) - 1 = ((2 ^ n - 1 : Nat) : Int) by omega, andn_nat (by omega) (by omega)]
theorem c_goingSet {n B : Nat} {σ : Nat → Int} {M : Mm} {b : Nat} (hb : At shC NN b (.inl 5)) (hS : RS n σ M b) (hw : WF n B σ) (hn : n ≤ 7) : S_State_goingSet b (n : Int) M (fun r M' => r = (goS n σ : Int) ∧ M' = M) := by
  refine W_State_goingSet b hb _ M ?_
  rw [hS.1.2.2.2.2, goS_of hw hn]
  exact ⟨rfl, rfl⟩
theorem m_going {t : TT} {B : Nat} {σ : Nat → Int} {N : Mm} (hT : RM t N) (hW : WT t) (hS : N 34 = σ) (hw : WF (tn t) B σ) : S_Mod_going N (fun r N' => r = (goS (tn t) σ : Int) ∧ N' = N) := by
  refine W_Mod_going N ?_
  rw [hS, hT.1.1, goS_of hw hW.1]
  exact ⟨rfl, rfl⟩
/-- a set of houses, by what it gives -/
def suS (t : TT) (σ : Nat → Int) (s : Nat) (h : Nat) : Int := if s.testBit h = true then prs t σ h else 0
def asB (t : TT) (σ : Nat → Int) (hd : Int) (s : Nat) : Bool := decide (hd = -1 ∨ sm (suS t σ s) (tn t) = hd)
def gdB (t : TT) (σ : Nat → Int) (hd : Int) (s : Nat) : Bool := decide (adn s (goS (tn t) σ) = 0) && asB t σ hd s
def gcn (f : Nat → Bool) (k : Nat) : Int := sm (fun s => zo (f s)) k
def gti (f : Nat → Bool) (h k : Nat) : Int := sm (fun s => zo (f s && s.testBit h)) k
def gal (f : Nat → Bool) (g : Nat) : Nat → Nat
  | 0 => g
  | k + 1 => if f k = true then gal f g k &&& k else gal f g k
def gso (f : Nat → Bool) : Nat → Nat
  | 0 => 0
  | k + 1 => if f k = true then gso f k ||| k else gso f k
theorem gcn_n {f : Nat → Bool} {k : Nat} (h : f k = false) : gcn f (k + 1) = gcn f k := by
  show gcn f k + zo (f k) = _
  rw [h]; exact Int.add_zero _
theorem gcn_y {f : Nat → Bool} {k : Nat} (h : f k = true) : gcn f (k + 1) = gcn f k + 1 := by
  show gcn f k + zo (f k) = _
  rw [h]; rfl
theorem gti_n {f : Nat → Bool} {h k : Nat} (e : f k = false) : gti f h (k + 1) = gti f h k := by
  show gti f h k + zo (f k && k.testBit h) = _
  rw [e]; exact Int.add_zero _
theorem gti_y {f : Nat → Bool} {h k : Nat} (e : f k = true) : gti f h (k + 1) = gti f h k + zo (k.testBit h) := by
  show gti f h k + zo (f k && k.testBit h) = _
  rw [e]; rfl
theorem gal_le (f : Nat → Bool) (g : Nat) : ∀ k, gal f g k ≤ g
  | 0 => Nat.le_refl _
  | k + 1 => by
    have := gal_le f g k
    unfold gal
    split
    · exact Nat.le_trans Nat.and_le_left this
    · exact this
theorem gso_lt (f : Nat → Bool) : ∀ k, k ≤ 128 → gso f k < 128
  | 0, _ => by unfold gso; omega
  | k + 1, h => by
    have := gso_lt f k (by omega)
    unfold gso
    split
    · exact Nat.or_lt_two_pow (n := 7) this (by omega)
    · exact this
theorem sm_zo (f : Nat → Bool) : ∀ k : Nat, 0 ≤ sm (fun s => zo (f s)) k ∧ sm (fun s => zo (f s)) k ≤ k := sm_in (fun i => by show 0 ≤ zo (f i) ∧ zo (f i) ≤ 1; cases f i <;> decide)
theorem suS_in {t : TT} {B : Nat} {σ : Nat → Int} (hw : WF (tn t) B σ) (hn : tn t ≤ 7) (s : Nat) : ∀ k, k ≤ tn t → 0 ≤ sm (suS t σ s) k ∧ sm (suS t σ s) k ≤ 693 := by
  intro k hk
  have := sm_le (f := suS t σ s) (c := 99) k (fun i hi => by
    have h1 := hw.2.2.2.2.1 i (by omega)
    have h2 := prs_in (t := t) (σ := σ) (h := i) h1.2.2.2.2.1
    unfold suS; split <;> omega)
  have h2 : k * 99 ≤ 693 := by omega
  omega
theorem bitz {a k : Nat} (hk : k < 32) (ha : a < 2147483648) : (andI (shrI (a : Int) (k : Int)) 1 = 0 ↔ a.testBit k = false) ∧ (andI (shrI (a : Int) (k : Int)) 1 = 1 ↔ a.testBit k = true) := by
  rw [bit1 hk ha]
  cases a.testBit k <;> simp
theorem c_sumOf {t : TT} {B : Nat} {σ : Nat → Int} {M : Mm} {s : Nat} (hw : WF (tn t) B σ) (hn : tn t ≤ 7) (hs : s < 128) (hg : ∀ h, h < tn t → M 70 h = prs t σ h) : S_Secrets_sumOf 69 (s : Int) (tn t : Int) M (fun r M' => r = sm (suS t σ s) (tn t) ∧ M' = M) := by
  refine e_Secrets_sumOf 69 _ _ M fun K hK => w_Secrets_sumOf_0 hK 69 atC_69 _ _ M ?_
  have key : ∀ k, k ≤ tn t → K NN RRC 5 [(0, vr 69), (1, vi (s : Int)), (2, vi (tn t : Int)), (3, vi (sm (suS t σ s) k)), (4, vi (k : Int))] [] M := by
    refine up_ind ?_ ?_
    · exact w_Secrets_sumOf_5 hK 69 atC_69 _ _ _ _ M ⟨by omega, by omega, fun _ => ⟨rfl, rfl⟩, fun z => absurd (Int.le_refl _) z⟩
    · intro k hk ih
      have hb := bitz (a := s) (k := k) (by omega) (by omega)
      refine w_Secrets_sumOf_5 hK 69 atC_69 _ _ _ _ M ⟨by omega, by omega, fun z => by omega, fun _ => ⟨fun q => ?_, fun q => ⟨by omega, ?_⟩⟩⟩
      · have e : sm (suS t σ s) (k + 1) = sm (suS t σ s) k + 0 := by
          show _ + suS t σ s k = _
          unfold suS; rw [if_neg (by rw [hb.1.mp q]; exact Bool.false_ne_true)]
        rw [e] at ih; exact ih
      · have e : sm (suS t σ s) (k + 1) = sm (suS t σ s) k + prs t σ k := by
          show _ + suS t σ s k = _
          unfold suS; rw [if_pos (by
            cases h9 : s.testBit k
            · exact absurd (hb.1.mpr h9) q
            · rfl)]
        rw [Int.toNat_natCast, show M (69 + 1) k = prs t σ k from hg k hk]
        rw [e] at ih; exact ih
  exact key 0 (by omega)
theorem c_keep {n : Nat} {M : Mm} {s c a o : Nat} (hn : n ≤ 7) (hs : s < 128) (ha : a < 128) (ho : o < 128) (h0 : M 69 0 = (c : Int)) (h1 : M 69 1 = (a : Int)) (h2 : M 69 2 = (o : Int)) :
    S_Secrets_keep 69 (s : Int) (n : Int) M (fun M' => M' 69 0 = ((c + 1 : Nat) : Int) ∧ M' 69 1 = ((a &&& s : Nat) : Int) ∧ M' 69 2 = ((o ||| s : Nat) : Int) ∧ (∀ h, h < n → M' 71 h = M 71 h + zo (s.testBit h)) ∧ FrC (fun c => c = 69 ∨ c = 71) M M') := by
  refine e_Secrets_keep 69 _ _ M fun K hK => w_Secrets_keep_0 hK 69 atC_69 _ _ M ?_
  intro M1 g1 M2 g2 M3 g3
  have e1 : M1 69 = up1 (M 69) 0 ((c : Int) + 1) := by rw [g1, upr_eq, if_pos rfl, h0]
  have e2 : M2 69 = up1 (M1 69) 1 ((a &&& s : Nat) : Int) := by rw [g2, upr_eq, if_pos rfl, e1, up1_eq _ _ _ 1, if_neg (by omega), h1, andI_nat (by omega) (by omega)]
  have e3 : M3 69 = up1 (M2 69) 2 ((o ||| s : Nat) : Int) := by rw [g3, upr_eq, if_pos rfl, e2, up1_eq _ _ _ 2, if_neg (by omega), e1, up1_eq _ _ _ 2, if_neg (by omega), h2, orI_nat (by omega) (by omega)]
  have f3 : ∀ c, c ≠ 69 → M3 c = M c := fun c hc => by rw [g3, upr_eq, if_neg hc, g2, upr_eq, if_neg hc, g1, upr_eq, if_neg hc]
  have key : ∀ k, k ≤ n → ∀ M4 : Mm, M4 69 = M3 69 → (∀ h, h < n → M4 71 h = if h < k then M 71 h + zo (s.testBit h) else M 71 h) → FrC (fun c => c = 69 ∨ c = 71) M M4 → K NN RRC 32 [(0, vr 69), (1, vi (s : Int)), (2, vi (n : Int)), (3, vi (k : Int))] [] M4 := by
    refine up_ind ?_ ?_
    · intro M4 s1 s2 s3
      refine w_Secrets_keep_32 hK 69 atC_69 _ _ _ M4 ⟨by omega, by omega, fun _ => ⟨?_, ?_, ?_, fun h hh => by rw [s2 h hh, if_pos hh], s3⟩, fun z => absurd (Int.le_refl _) z⟩
      · rw [s1, e3, e2, e1]; simp [up1_eq]
      · rw [s1, e3, e2, e1]; simp [up1_eq]
      · rw [s1, e3, e2, e1]; simp [up1_eq]
    · intro k hk ih M4 s1 s2 s3
      refine w_Secrets_keep_32 hK 69 atC_69 _ _ _ M4 ⟨by omega, by omega, fun z => by omega, fun _ => ⟨by omega, by omega, ?_⟩⟩
      intro M5 g5
      rw [Int.toNat_natCast, bit1 (by omega) (by omega)] at g5
      refine ih M5 ?_ (fun h hh => ?_) (s3.tr (by rw [g5]; exact FrC.up (Or.inr rfl)))
      · rw [g5, upr_eq, if_neg (by omega)]; exact s1
      · rw [g5, upr_eq, if_pos rfl, up1_eq]
        by_cases e : h = k
        · subst e
          rw [if_pos rfl, if_pos (show h < h + 1 by omega), show M4 (69 + 2) h = _ from s2 h hh, if_neg (show ¬ h < h by omega)]
        · rw [if_neg e, show M4 (69 + 2) h = _ from s2 h hh]
          by_cases e2 : h < k
          · rw [if_pos e2, if_pos (by omega)]
          · rw [if_neg e2, if_neg (by omega)]
  refine key 0 (by omega) M3 rfl (fun h _ => by rw [f3 71 (by omega), if_neg (by omega)]) (fun c hc => f3 c (by omega))
theorem c_weigh {t : TT} {tb B : Nat} {σ : Nat → Int} {M : Mm} {hd : Int} (htb : tb = 4 ∨ tb = 18) (hT : RT t M tb) (hW : WT t) (hS : RS (tn t) σ M 42) (hw : WF (tn t) B σ) (hhd : -1 ≤ hd ∧ hd ≤ 693) :
    S_Secrets_weigh 69 tb 42 hd M (fun M' => M' 69 0 = gcn (gdB t σ hd) (goS (tn t) σ + 1) ∧ M' 69 1 = (gal (gdB t σ hd) (goS (tn t) σ) (goS (tn t) σ + 1) : Int) ∧ M' 69 2 = (gso (gdB t σ hd) (goS (tn t) σ + 1) : Int) ∧ (∀ h, h < tn t → M' 71 h = gti (gdB t σ hd) h (goS (tn t) σ + 1)) ∧ FrC (fun c => c = tb + 10 ∨ c = 69 ∨ c = 70 ∨ c = 71) M M') := by
  have hn := hW.1
  have hG := goS_lt (σ := σ) hn
  have at7 := at_tb htb
  refine e_Secrets_weigh 69 tb 42 _ M fun K hK => w_Secrets_weigh_0 hK 69 atC_69 tb at7 42 atC_42 _ M ?_
  rw [hT.1.1]
  refine ⟨_, c_goingSet atC_42 hS hw hn, ?_⟩
  rintro r M1 ⟨rfl, rfl⟩
  intro M2 g2 M3 g3 M4 g4
  have f4 : ∀ c, c ≠ 69 → M4 c = M1 c := fun c hc => by rw [g4, upr_eq, if_neg hc, g3, upr_eq, if_neg hc, g2, upr_eq, if_neg hc]
  have a0 : M4 69 0 = 0 := by rw [g4, upr_eq, if_pos rfl, up1_eq, if_neg (by omega), g3, upr_eq, if_pos rfl, up1_eq, if_neg (by omega), g2, upr_eq, if_pos rfl, up1_eq, if_pos rfl]
  have a1 : M4 69 1 = (goS (tn t) σ : Int) := by rw [g4, upr_eq, if_pos rfl, up1_eq, if_neg (by omega), g3, upr_eq, if_pos rfl, up1_eq, if_pos rfl]
  have a2 : M4 69 2 = 0 := by rw [g4, upr_eq, if_pos rfl, up1_eq, if_pos rfl]
  have k69 : ∀ k, k ≤ goS (tn t) σ + 1 → ∀ M5 : Mm, M5 69 0 = gcn (gdB t σ hd) k → M5 69 1 = (gal (gdB t σ hd) (goS (tn t) σ) k : Int) → M5 69 2 = (gso (gdB t σ hd) k : Int) → (∀ h, h < tn t → M5 71 h = gti (gdB t σ hd) h k) → (∀ h, h < tn t → M5 70 h = prs t σ h) → FrC (fun c => c = tb + 10 ∨ c = 69 ∨ c = 70 ∨ c = 71) M1 M5 → K NN RRC 69 [(0, vr 69), (1, vr tb), (3, vi hd), (4, vi (goS (tn t) σ : Int)), (5, vi (k : Int))] [] M5 := by
    refine up_ind ?_ ?_
    · intro M5 s0 s1 s2 s3 s4 s5
      exact w_Secrets_weigh_69 hK 69 atC_69 tb at7 _ _ _ M5 ⟨by omega, by omega, fun _ => ⟨s0, s1, s2, s3, s5⟩, fun z => by omega⟩
    · intro k hk ih M5 s0 s1 s2 s3 s4 s5
      have e9 : M5 tb 9 = (tn t : Int) := by rw [s5 tb (by omega)]; exact hT.1.1
      have eA : andI (k : Int) (xorI (goS (tn t) σ : Int) (-1)) = ((adn k (goS (tn t) σ) : Nat) : Int) := by rw [not_nat (by omega), andn_nat (by omega) (by omega)]
      have no : gdB t σ hd k = false → K NN RRC 69 [(0, vr 69), (1, vr tb), (3, vi hd), (4, vi (goS (tn t) σ : Int)), (5, vi ((k : Int) + 1))] [] M5 := by
        intro hf
        refine ih M5 ?_ ?_ ?_ (fun h hh => ?_) s4 s5
        · rw [s0, gcn_n hf]
        · rw [s1, gal, if_neg (by rw [hf]; exact Bool.false_ne_true)]
        · rw [s2, gso, if_neg (by rw [hf]; exact Bool.false_ne_true)]
        · rw [s3 h hh, gti_n hf]
      have yes : gdB t σ hd k = true → (∃ P1 : Mm → Prop, S_Secrets_keep 69 (k : Int) (M5 tb 9) M5 P1 ∧ ∀ M1 : Mm, P1 M1 → K NN RRC 69 [(0, vr 69), (1, vr tb), (3, vi hd), (4, vi (goS (tn t) σ : Int)), (5, vi ((k : Int) + 1))] [] M1) := by
        intro hf
        have hc := sm_zo (gdB t σ hd) k
        have hal := gal_le (gdB t σ hd) (goS (tn t) σ) k
        have hso := gso_lt (gdB t σ hd) k (by omega)
        obtain ⟨c, hc2⟩ : ∃ c : Nat, gcn (gdB t σ hd) k = (c : Int) := ⟨(gcn (gdB t σ hd) k).toNat, by unfold gcn; omega⟩
        rw [e9]
        refine ⟨_, c_keep (c := c) hn (by omega) (by omega) hso (by rw [s0, hc2]) s1 s2, ?_⟩
        rintro M6 ⟨q0, q1, q2, q3, q4⟩
        refine ih M6 ?_ ?_ ?_ (fun h hh => ?_) (fun h hh => by rw [q4 70 (by omega)]; exact s4 h hh) (s5.tr (q4.wk (fun c hc => by omega)))
        · rw [q0, gcn_y hf, hc2]; rfl
        · rw [q1, gal, if_pos hf]
        · rw [q2, gso, if_pos hf]
        · rw [q3 h hh, s3 h hh, gti_y hf]
      refine w_Secrets_weigh_69 hK 69 atC_69 tb at7 _ _ _ M5 ?_
      rw [eA]
      refine ⟨by omega, by omega, fun z => by omega, fun _ => ⟨fun q => ?_, fun q => ?_⟩⟩
      · refine w_Secrets_weigh_91 hK 69 atC_69 tb at7 _ _ _ _ M5 ⟨by decide, fun _ => no ?_, fun z => absurd rfl z⟩
        unfold gdB; rw [decide_eq_false (by omega)]; rfl
      · have hA : adn k (goS (tn t) σ) = 0 := by omega
        refine w_Secrets_weigh_91 hK 69 atC_69 tb at7 _ _ _ _ M5 ⟨by decide, fun z => by omega, fun _ => ⟨by omega, fun z => yes ?_, fun z => ?_⟩⟩
        · unfold gdB asB; rw [decide_eq_true hA, decide_eq_true (Or.inl z)]; rfl
        · rw [e9]
          refine ⟨_, c_sumOf hw hn (by omega) s4, ?_⟩
          rintro r M6 ⟨rfl, rfl⟩
          have hsi := suS_in hw hn k (tn t) (Nat.le_refl _)
          refine ⟨by omega, by omega, fun y => no ?_, fun y => yes ?_⟩
          · unfold gdB asB; rw [decide_eq_false (p := hd = -1 ∨ sm (suS t σ k) (tn t) = hd) (by omega)]; simp
          · unfold gdB asB; rw [decide_eq_true hA, decide_eq_true (Or.inr y)]; rfl
  have k29 : ∀ k, k ≤ tn t → ∀ M5 : Mm, M5 69 = M4 69 → (∀ h, h < k → M5 70 h = prs t σ h) → (∀ h, h < k → M5 71 h = 0) → FrC (fun c => c = tb + 10 ∨ c = 69 ∨ c = 70 ∨ c = 71) M1 M5 → K NN RRC 29 [(0, vr 69), (1, vr tb), (2, vr 42), (3, vi hd), (4, vi (goS (tn t) σ : Int)), (5, vi (k : Int))] [] M5 := by
    refine up_ind ?_ ?_
    · intro M5 s0 s1 s2 s3
      have e9 : M5 tb 9 = (tn t : Int) := by rw [s3 tb (by omega)]; exact hT.1.1
      refine w_Secrets_weigh_29 hK 69 atC_69 tb at7 42 atC_42 _ _ _ M5 ?_
      rw [e9]
      refine ⟨by omega, by omega, fun _ => k69 0 (by omega) M5 ?_ ?_ ?_ (fun h hh => ?_) s1 s3, fun z => absurd (Int.le_refl _) z⟩
      · rw [s0, a0]; rfl
      · rw [s0, a1]; rfl
      · rw [s0, a2]; rfl
      · rw [s2 h hh]; rfl
    · intro k hk ih M5 s0 s1 s2 s3
      have e9 : M5 tb 9 = (tn t : Int) := by rw [s3 tb (by omega)]; exact hT.1.1
      refine w_Secrets_weigh_29 hK 69 atC_69 tb at7 42 atC_42 _ _ _ M5 ?_
      rw [e9]
      refine ⟨by omega, by omega, fun z => by omega, fun _ => ⟨_, c_pressedOut at7 atC_42 (hT.fr (fun i _ _ => s3 _ (by omega))) (hS.fr (fun i hi => s3 _ (by omega))) hw hn hk, ?_⟩⟩
      rintro r M6 ⟨rfl, h6⟩
      refine ⟨by omega, ?_⟩
      rintro M7 rfl
      refine ⟨by omega, ?_⟩
      rintro M8 rfl
      rw [Int.toNat_natCast]
      refine ih _ ?_ (fun h hh => ?_) (fun h hh => ?_) (((s3.tr (h6.wk (fun c hc => by omega))).tr (FrC.up (c := 69 + 1) (by omega))).tr (FrC.up (c := 69 + 2) (by omega)))
      · rw [upr_eq, if_neg (by omega), upr_eq, if_neg (by omega), h6 69 (by omega)]; exact s0
      · rw [upr_eq, if_neg (by omega), upr_eq, if_pos rfl, up1_eq]
        by_cases e : h = k
        · rw [if_pos e, e]
        · rw [if_neg e, h6 (69 + 1) (by omega)]; exact s1 h (by omega)
      · rw [upr_eq, if_pos rfl, up1_eq]
        by_cases e : h = k
        · rw [if_pos e]
        · rw [if_neg e, upr_eq, if_neg (by omega), h6 (69 + 2) (by omega)]; exact s2 h (by omega)
  exact k29 0 (by omega) M4 rfl (fun h hh => by omega) (fun h hh => by omega) (fun c hc => f4 c (by omega))
