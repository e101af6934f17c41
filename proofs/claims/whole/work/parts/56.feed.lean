theorem and255 (a : Int) : andI a 255 = a % 256 := by
  have h : ((Int32.ofInt a &&& Int32.ofInt 255).toBitVec).toNat = (a % 256).toNat := by
    rw [Int32.toBitVec_and, BitVec.toNat_and]
    show (BitVec.ofInt 32 a).toNat &&& (BitVec.ofInt 32 255).toNat = _
    rw [BitVec.toNat_ofInt, show (BitVec.ofInt 32 255).toNat = 2 ^ 8 - 1 from rfl, Nat.and_two_pow_sub_one_eq_mod]
    omega
  have := i32_nat h (by omega)
  unfold andI
  rw [this]; omega
theorem and255L (a : Int) : andL a 255 = a % 256 := by
  have h : ((Int64.ofInt a &&& Int64.ofInt 255).toBitVec).toNat = (a % 256).toNat := by
    rw [Int64.toBitVec_and, BitVec.toNat_and]
    show (BitVec.ofInt 64 a).toNat &&& (BitVec.ofInt 64 255).toNat = _
    rw [BitVec.toNat_ofInt, show (BitVec.ofInt 64 255).toNat = 2 ^ 8 - 1 from rfl, Nat.and_two_pow_sub_one_eq_mod]
    omega
  unfold andL
  show (Int64.ofInt a &&& Int64.ofInt 255).toBitVec.toInt = _
  rw [BitVec.toInt_eq_toNat_of_lt (by omega), h]; omega
theorem and7 (a : Nat) (ha : a < 24) : andI (a : Int) 7 = ((a % 8 : Nat) : Int) := by
  rw [show (7 : Int) = ((7 : Nat) : Int) from rfl, andI_nat (by omega) (by decide), show 7 = 2 ^ 3 - 1 from rfl, Nat.and_two_pow_sub_one_eq_mod]
abbrev goodS (s : Int) : Prop := s = 10 ∨ (32 ≤ s ∧ s ≤ 126)
abbrev TP : Type := Nat × (Nat → Int)
def fb1 (p : TP) (s : Int) : TP := if goodS s ∧ p.1 < 1000 then (p.1 + 1, up1 p.2 p.1 s) else p
def bt (x : Int) (k : Nat) : Int := ushrL x (56 - 8 * (k : Int)) % 256
def fbs (p : TP) (x : Int) : Nat → TP
  | 0 => p
  | k + 1 => fb1 (fbs p x k) (bt x k)
theorem fb1_le {p : TP} {s : Int} (h : p.1 ≤ 1000) : (fb1 p s).1 ≤ 1000 := by
  unfold fb1
  split
  · show p.1 + 1 ≤ 1000; omega
  · exact h
theorem fbs_le {p : TP} {x : Int} (h : p.1 ≤ 1000) : ∀ k, (fbs p x k).1 ≤ 1000
  | 0 => h
  | k + 1 => fb1_le (fbs_le h k)
def agrT (p q : TP) : Prop := p.1 = q.1 ∧ p.1 ≤ 1000 ∧ ∀ i, i < p.1 → (p.2 i = q.2 i ∧ goodS (p.2 i))
theorem fb1_agr {p q : TP} {s : Int} (h : agrT p q) : agrT (fb1 p s) (fb1 q s) := by
  obtain ⟨a, b, c⟩ := h
  unfold fb1
  by_cases g : goodS s ∧ p.1 < 1000
  · rw [if_pos g, if_pos ⟨g.1, by omega⟩]
    refine ⟨by show p.1 + 1 = q.1 + 1; omega, by show p.1 + 1 ≤ 1000; omega, fun i hi => ?_⟩
    have hi2 : i < p.1 + 1 := hi
    show up1 p.2 p.1 s i = up1 q.2 q.1 s i ∧ goodS (up1 p.2 p.1 s i)
    rw [up1_eq, up1_eq, ← a]
    by_cases e : i = p.1
    · rw [if_pos e, if_pos e]; exact ⟨rfl, g.1⟩
    · rw [if_neg e, if_neg e]; exact c i (by omega)
  · rw [if_neg g, if_neg (fun z => g ⟨z.1, by omega⟩)]
    exact ⟨a, b, c⟩
theorem fbs_agr {p q : TP} {x : Int} (h : agrT p q) : ∀ k, agrT (fbs p x k) (fbs q x k)
  | 0 => h
  | k + 1 => fb1_agr (fbs_agr h k)
abbrev tpC (p : TP) (M : Mm) : Prop := M 2 1 = (p.1 : Int) ∧ M 3 = p.2
theorem c_addSign {M : Mm} {p : TP} {s : Int} (hs : 0 ≤ s ∧ s ≤ 255) (hp : tpC p M) (hl : p.1 ≤ 1000) : S_Tape_addSign 2 s M (fun M' => tpC (fb1 p s) M' ∧ FrC (fun c => c = 2 ∨ c = 3) M M') := by
  refine e_Tape_addSign 2 _ M fun K hK => w_Tape_addSign_0 hK 2 atC_2 _ M ?_
  have no : ¬ goodS s → K NN RRC 23 [(0, vr 2), (1, vi s)] [vi 0] M := fun g => by
    refine w_Tape_addSign_23 hK 2 atC_2 _ _ M ⟨by decide, fun _ => ⟨?_, FrC.rf⟩, fun z => absurd rfl z⟩
    unfold fb1
    rw [if_neg (fun z => g z.1)]; exact hp
  have yes : goodS s → K NN RRC 23 [(0, vr 2), (1, vi s)] [vi 1] M := fun g => by
    refine w_Tape_addSign_23 hK 2 atC_2 _ _ M ⟨by decide, fun z => by omega, fun _ => ?_⟩
    rw [hp.1]
    refine ⟨by omega, fun z => ⟨?_, FrC.rf⟩, fun z => ⟨by omega, by omega, by omega, ?_⟩⟩
    · unfold fb1
      rw [if_neg (fun y => by omega)]; exact hp
    · rintro M1 rfl M2 rfl
      unfold fb1
      rw [if_pos ⟨g, by omega⟩, Int.toNat_natCast]
      refine ⟨⟨?_, ?_⟩, (FrC.up (c := 2 + 1) (Or.inr rfl)).tr (FrC.up (c := 2) (Or.inl rfl))⟩
      · rw [upr_eq, if_pos rfl, up1_eq, if_pos rfl, upr_eq, if_neg (by omega), hp.1]; rfl
      · rw [upr_eq, if_neg (by omega), upr_eq, if_pos rfl]
        show up1 (M 3) p.1 s = up1 p.2 p.1 s
        rw [hp.2]
  exact ⟨by omega, fun z => yes (by omega), fun z => ⟨by omega, fun z2 => no (by omega), fun z2 => ⟨by omega, fun z3 => no (by omega), fun z3 => yes (by omega)⟩⟩⟩
theorem c_feedBytes {M : Mm} {p : TP} {x : Int} (hp : tpC p M) (hl : p.1 ≤ 1000) : S_Main_feedBytes x M (fun M' => tpC (fbs p x 8) M' ∧ FrC (fun c => c = 2 ∨ c = 3) M M') := by
  refine e_Main_feedBytes _ M fun K hK => w_Main_feedBytes_0 hK _ M ?_
  have key : ∀ k, k ≤ 8 → ∀ M1 : Mm, tpC (fbs p x k) M1 → FrC (fun c => c = 2 ∨ c = 3) M M1 → K NN RRC 3 [(0, vr 1), (1, vl x), (3, vi (56 - 8 * (k : Int)))] [] M1 := by
    refine up_ind ?_ ?_
    · intro M1 s1 s2
      exact w_Main_feedBytes_3 hK _ _ M1 ⟨by omega, fun _ => ⟨s1, s2⟩, fun z => by omega⟩
    · intro k hk ih M1 s1 s2
      refine w_Main_feedBytes_3 hK _ _ M1 ⟨by omega, fun z => by omega, fun _ => ?_⟩
      rw [and255]
      refine ⟨_, c_addSign (s := bt x k) (by unfold bt; omega) s1 (fbs_le hl k), ?_⟩
      rintro M2 ⟨q1, q2⟩
      have := ih M2 q1 (s2.tr q2)
      rw [show (56 : Int) - 8 * ((k + 1 : Nat) : Int) = 56 - 8 * (k : Int) + -8 by omega] at this
      exact this
  exact key 0 (by omega) M hp FrC.rf
theorem c_feed {M : Mm} {p : TP} {a b c : Int} (hp : tpC p M) (hl : p.1 ≤ 1000) : S_Main_feed a b c M (fun r M' => r = ((fbs (fbs (fbs p a 8) b 8) c 8).1 : Int) ∧ tpC (fbs (fbs (fbs p a 8) b 8) c 8) M' ∧ FrC (fun c => c = 2 ∨ c = 3) M M') := by
  refine W_Main_feed _ _ _ M ⟨_, c_feedBytes hp hl, ?_⟩
  rintro M1 ⟨a1, a2⟩
  refine ⟨_, c_feedBytes a1 (fbs_le hl 8), ?_⟩
  rintro M2 ⟨b1, b2⟩
  refine ⟨_, c_feedBytes b1 (fbs_le (fbs_le hl 8) 8), ?_⟩
  rintro M3 ⟨c1, c2⟩
  exact ⟨c1.1, c1, (a2.tr b2).tr c2⟩
/-- the model's way: 24 in a row -/
def fb24 (p : TP) (a b c : Int) (k : Nat) : TP := if k ≤ 8 then fbs p a k else if k ≤ 16 then fbs (fbs p a 8) b (k - 8) else fbs (fbs (fbs p a 8) b 8) c (k - 16)
def sl24 (a b c : Int) (k : Nat) : Int := if k < 8 then a else if k < 16 then b else c
theorem fb24_s {p : TP} {a b c : Int} {k : Nat} (hk : k < 24) : fb24 p a b c (k + 1) = fb1 (fb24 p a b c k) (bt (sl24 a b c k) (k % 8)) := by
  unfold fb24 sl24
  by_cases h1 : k < 8
  · rw [if_pos (by omega), if_pos (by omega), if_pos h1, show k % 8 = k by omega, fbs]
  · by_cases h2 : k < 16
    · rw [if_neg (show ¬ k + 1 ≤ 8 by omega), if_pos (show k + 1 ≤ 16 by omega), if_neg h1, if_pos h2]
      by_cases h3 : k = 8
      · subst h3; rw [if_pos (by omega)]; rfl
      · rw [if_neg (by omega), if_pos (by omega), show k + 1 - 8 = (k - 8) + 1 by omega, show k % 8 = k - 8 by omega, fbs]
    · rw [if_neg (show ¬ k + 1 ≤ 8 by omega), if_neg (show ¬ k + 1 ≤ 16 by omega), if_neg h1, if_neg h2]
      by_cases h3 : k = 16
      · subst h3; rw [if_neg (by omega), if_pos (by omega)]; rfl
      · rw [if_neg (by omega), if_neg (by omega), show k + 1 - 16 = (k - 16) + 1 by omega, show k % 8 = k - 16 by omega, fbs]
theorem fb24_le {p : TP} {a b c : Int} (h : p.1 ≤ 1000) (k : Nat) : (fb24 p a b c k).1 ≤ 1000 := by
  unfold fb24
  split
  · exact fbs_le h k
  · split
    · exact fbs_le (fbs_le h 8) _
    · exact fbs_le (fbs_le (fbs_le h 8) 8) _
theorem fb24_e {p : TP} {a b c : Int} : fb24 p a b c 24 = fbs (fbs (fbs p a 8) b 8) c 8 := by
  unfold fb24
  rw [if_neg (by omega), if_neg (by omega)]
theorem fb24_0 {p : TP} {a b c : Int} : fb24 p a b c 0 = p := by
  unfold fb24
  rw [if_pos (by omega), fbs]
abbrev tpM (p : TP) (N : Mm) : Prop := N 1 1 = (p.1 : Int) ∧ N 2 = p.2
theorem m_feed {N : Mm} {p : TP} {a b c : Int} (hp : tpM p N) (hl : p.1 ≤ 1000) : S_Mod_feed a b c N (fun r N' => r = ((fbs (fbs (fbs p a 8) b 8) c 8).1 : Int) ∧ tpM (fbs (fbs (fbs p a 8) b 8) c 8) N' ∧ FrM (fun c => c = 2) (fun k => k = 0 ∨ k = 1) N N') := by
  refine e_Mod_feed _ _ _ N fun K hK => w_Mod_feed_0 hK _ _ _ N ?_
  rintro N1 rfl
  have key : ∀ k, k ≤ 24 → ∀ N2 : Mm, tpM (fb24 p a b c k) N2 → FrM (fun c => c = 2) (fun k => k = 0 ∨ k = 1) N N2 → K NM RRM 8 [(0, vr 1), (1, vl a), (3, vl b), (5, vl c), (7, vi (k : Int))] [] N2 := by
    refine up_ind ?_ ?_
    · intro N2 s1 s2
      rw [fb24_e] at s1
      exact w_Mod_feed_8 hK _ _ _ _ N2 ⟨by omega, fun _ => ⟨s1.1, s1, s2⟩, fun z => by omega⟩
    · intro k hk ih N2 s1 s2
      have hle := fb24_le (a := a) (b := b) (c := c) hl k
      have no : ¬ (goodS (bt (sl24 a b c k) (k % 8)) ∧ (fb24 p a b c k).1 < 1000) → K NM RRM 8 [(0, vr 1), (1, vl a), (3, vl b), (5, vl c), (7, vi ((k : Int) + 1))] [] N2 := fun g => by
        refine ih N2 ?_ s2
        rw [fb24_s hk]
        unfold fb1
        rw [if_neg g]; exact s1
      have yes : goodS (bt (sl24 a b c k) (k % 8)) → (fb24 p a b c k).1 < 1000 → K NM RRM 93 [(0, vr 1), (1, vl a), (3, vl b), (5, vl c), (7, vi (k : Int)), (10, vi (bt (sl24 a b c k) (k % 8)))] [] N2 := fun g g2 => by
        refine w_Mod_feed_93 hK _ _ _ _ _ N2 ?_
        rw [s1.1, Int.toNat_natCast]
        refine ⟨by omega, ?_⟩
        rintro N3 rfl N4 rfl
        refine ih _ ?_ ((s2.tr (FrM.up rfl (by omega))).tr (FrM.u1 (Or.inr rfl)))
        rw [fb24_s hk]
        unfold fb1
        rw [if_pos ⟨g, g2⟩]
        refine ⟨?_, ?_⟩
        · rw [upr_eq, if_pos rfl, up1_eq, if_pos rfl, upr_eq, if_neg (by omega), s1.1]; rfl
        · rw [upr_eq, if_neg (by omega), upr_eq, if_pos rfl, s1.2]
      have k39 : K NM RRM 39 [(0, vr 1), (1, vl a), (3, vl b), (5, vl c), (7, vi (k : Int))] [vl (sl24 a b c k)] N2 := by
        refine w_Mod_feed_39 hK _ _ _ _ _ N2 ?_
        rw [and7 k hk, and255L, s1.1]
        have hv : ushrL (sl24 a b c k) (56 - 8 * ((k % 8 : Nat) : Int)) % 256 = bt (sl24 a b c k) (k % 8) := rfl
        rw [hv]
        have hb : 0 ≤ bt (sl24 a b c k) (k % 8) ∧ bt (sl24 a b c k) (k % 8) ≤ 255 := by unfold bt; omega
        exact ⟨by omega, fun z => no (fun y => by omega), fun z => ⟨by omega, fun z2 => yes (by omega) (by omega), fun z2 => ⟨by omega, fun z3 => no (fun y => by omega), fun z3 => ⟨by omega, fun z4 => no (fun y => by omega), fun z4 => yes (by omega) (by omega)⟩⟩⟩⟩
      unfold sl24 at k39
      refine w_Mod_feed_8 hK _ _ _ _ N2 ⟨by omega, fun z => by omega, fun _ => ⟨by omega, fun z => ⟨by omega, fun z2 => ?_, fun z2 => ?_⟩, fun z => ?_⟩⟩
      · rw [if_neg (by omega), if_neg (by omega)] at k39; exact k39
      · rw [if_neg (by omega), if_pos (by omega)] at k39; exact k39
      · rw [if_pos (by omega)] at k39; exact k39
  refine key 0 (by omega) _ ?_ (FrM.u1 (Or.inl rfl))
  rw [fb24_0]
  refine ⟨?_, ?_⟩
  · rw [upr_eq, if_pos rfl, up1_eq, if_neg (by omega)]; exact hp.1
  · rw [upr_eq, if_neg (by omega)]; exact hp.2
theorem Sim.tap {t : TT} {tb B : Nat} {M N M' N' : Mm} (h : Sim t tb B M N) (e : FrC (fun c => scC tb c ∨ c = 2 ∨ c = 3) M M') (f : FrM (fun c => scM c ∨ c = 2) (fun k => scQ k ∨ k = 1) N N') (f34 : ∀ i, i < 33 → N' 34 i = N 34 i) (hP' : SimP M' N') : Sim t tb B M' N' := by
  obtain ⟨hW, hT, hS, hN, hP, hY, hH, hU, hM⟩ := h
  have hn := hW.1
  have htb := hT.1
  have e1 : M' 1 = M 1 := e 1 (by omega)
  have e59 : M' 59 = M 59 := e 59 (by omega)
  refine ⟨hW, hT.fr (by rw [e1]) (by rw [e1]) (fun c h1 h2 h3 h4 => e _ (by omega)) (fun c h1 h2 => f.1 c (by omega) (by omega)), hS.fr (fun c h1 h2 => e c (by omega)) (fun c h1 => f.1 c (by omega) (by omega)), ⟨(hN.1.fr (fun i hi => e _ (by omega))).cg hn f34, hN.2.cg hn f34⟩, hP', hY.fr (fun i hi => e _ (by omega)) (fun c h1 h2 => f.1 c (by omega) (by omega)), hH.fr (e 41 (by omega)) (e 51 (by omega)) (e 52 (by omega)) (fun c h1 h2 => f.1 c (by omega) (by omega)), hU.fr (Nat.le_refl _) (by rw [e1]) (by rw [e1]) (fun c h1 h2 => e c (by omega)) (f.2 50 (by omega)) (f.1 37 (by omega) (by omega)), hM.fr (Nat.le_refl _) e59 (fun c h1 h2 => e c (by omega)) (fun c h1 h2 => f.1 c (by omega) (by omega)) (f.1 36 (by omega) (by omega)) (f.1 38 (by omega) (by omega))⟩
theorem op_feed {t : TT} {tb B : Nat} {M N : Mm} {a b c : Int} (h : Sim t tb B M N) : Op (S_Main_feed a b c) (S_Mod_feed a b c) B M N := by
  obtain ⟨len, p1, p2, p3, p4⟩ := h.2.2.2.2.1
  have hag : agrT (len, M 3) (len, N 2) := ⟨rfl, p3, p4⟩
  have ha3 := fbs_agr (x := c) (fbs_agr (x := b) (fbs_agr (x := a) hag 8) 8) 8
  refine ⟨((fbs (fbs (fbs (len, M 3) a 8) b 8) c 8).1 : Int), fun M' => tpC (fbs (fbs (fbs (len, M 3) a 8) b 8) c 8) M' ∧ FrC (fun c => c = 2 ∨ c = 3) M M', fun N' => tpM (fbs (fbs (fbs (len, N 2) a 8) b 8) c 8) N' ∧ FrM (fun c => c = 2) (fun k => k = 0 ∨ k = 1) N N', c_feed ⟨p1, rfl⟩ p3, ?_, ?_⟩
  · rw [ha3.1]
    exact m_feed ⟨p2, rfl⟩ p3
  · rintro M' N' ⟨c1, c2⟩ ⟨d1, d2⟩
    refine ⟨t, tb, (h.tap (c2.wk (fun c hc => by omega)) (d2.wk (fun c hc => by omega) (fun k hk => by omega)) (fun i _ => by rw [d2.1 34 (by omega) (by omega)]) ?_).mono (Nat.le_succ _)⟩
    refine ⟨(fbs (fbs (fbs (len, M 3) a 8) b 8) c 8).1, c1.1, by rw [d1.1, ← ha3.1], ha3.2.1, fun i hi => ?_⟩
    rw [c1.2, d1.2]
    exact ha3.2.2 i hi
