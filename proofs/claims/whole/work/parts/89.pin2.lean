theorem divL_nn {x d : Int} (hx : 0 ≤ x) (hx2 : x < 9223372036854775808) (h0 : 0 < d) (hd : d < 9223372036854775808) : divL x d = x / d := by
  obtain ⟨a, rfl⟩ : ∃ a : Nat, x = (a : Int) := ⟨x.toNat, by omega⟩
  obtain ⟨b, rfl⟩ : ∃ b : Nat, d = (b : Int) := ⟨d.toNat, by omega⟩
  rw [divL_pos (by omega) (by omega) (by omega)]
  exact Int.natCast_ediv a b
/-- a pin sought k times: weights, where it was sought last, the chance -/
def pSt (g : Nat → Bool) (n : Nat) (o A : Int) (W0 : Nat → Int) : Nat → (Nat → Int) × Int × Int
  | 0 => (W0, -1, 0)
  | k + 1 => (up1 (pSt g n o A W0 k).1 (lkF g (pSt g n o A W0 k).1 o n).toNat ((pSt g n o A W0 k).1 (lkF g (pSt g n o A W0 k).1 o n).toNat / 10 * (10 - o)), lkF g (pSt g n o A W0 k).1 o n, (pSt g n o A W0 k).2.2 + (pSt g n o A W0 k).1 (lkF g (pSt g n o A W0 k).1 o n).toNat / 10 * o * 1000000 / A)
theorem st_in {w o : Int} (h : 0 ≤ w ∧ w ≤ 2000000000) (ho : 0 ≤ o ∧ o ≤ 10) : (0 ≤ w / 10 * (10 - o) ∧ w / 10 * (10 - o) ≤ 2000000000) ∧ (0 ≤ w / 10 * o * 1000000 ∧ w / 10 * o * 1000000 ≤ 2000000000000000) := by
  have a : 0 ≤ w / 10 ∧ w / 10 ≤ 200000000 := by omega
  have b1 := Int.mul_nonneg a.1 (show 0 ≤ 10 - o by omega)
  have b2 : w / 10 * (10 - o) ≤ 200000000 * 10 := Int.mul_le_mul a.2 (by omega) (by omega) (by decide)
  have b3 := Int.mul_nonneg a.1 ho.1
  have b4 : w / 10 * o ≤ 200000000 * 10 := Int.mul_le_mul a.2 ho.2 ho.1 (by decide)
  omega
theorem pSt_in {g : Nat → Bool} {n : Nat} {o A : Int} {W0 : Nat → Int} (ho : 0 ≤ o ∧ o ≤ 10) (h0 : ∀ j, j < n → (0 ≤ W0 j ∧ W0 j ≤ 2000000000)) : ∀ k j, j < n → (0 ≤ (pSt g n o A W0 k).1 j ∧ (pSt g n o A W0 k).1 j ≤ 2000000000)
  | 0, j, hj => h0 j hj
  | k + 1, j, hj => by
    have ih := pSt_in (g := g) (A := A) ho h0 k
    show 0 ≤ up1 _ _ _ j ∧ up1 _ _ _ j ≤ 2000000000
    rw [up1_eq]
    split
    · rename_i e
      rw [← e]
      exact (st_in (ih j hj) ho).1
    · exact ih j hj
/-- the model's weights at first, and all of them -/
def wM (σ : Nat → Int) (h : Nat) : Int := if gosB σ h = true then σ (12 + h) * 100000000 else 0
theorem m_pinGo {n B : Nat} {σ : Nat → Int} {N : Mm} {o w : Int} {k : Nat} {K : Nat → Rr → Nat → List (Nat × AV) → List AV → Mm → Prop} {P : Int → Mm → Prop} (hK : EK shM yX12_pin cX12_pin 9 (some .int) 3 NM NM (QI RRM P) K) (h0 : N 3 0 = (n : Int)) (hn : n ≤ 7) (hS : N 34 = σ) (hw : WF n B σ) (ho : 0 ≤ o ∧ o ≤ 10) (hk : k ≤ 8) (hww : w = 0 ∨ w = 1) (hg : ∃ j, j < n ∧ gosB σ j = true)
    (hP : ∀ N', (∀ c, c ≠ 45 → N' c = N c) → P (if w = 0 then (pSt (gosB σ) n o (agT σ n * 100000000) (wM σ) k).2.1 else (pSt (gosB σ) n o (agT σ n * 100000000) (wM σ) k).2.2) N') : K NM RRM 61 [(0, vr 1), (1, vi o), (2, vi (k : Int)), (3, vi w), (4, vl 0), (6, vi 0)] [] N := by
  have hA : 0 < agT σ n ∧ agT σ n ≤ 140 := by
    have a := agT_in hw n (Nat.le_refl _)
    have b := agT_0 hw n (Nat.le_refl _)
    obtain ⟨j, hj, c⟩ := hg
    have : agT σ n ≠ 0 := fun z => by rw [b.mp z j hj] at c; cases c
    omega
  have hwM : ∀ h, h < n → (0 ≤ wM σ h ∧ wM σ h ≤ 2000000000) := fun h hh => by
    have := hw.2.2.2.2.1 h hh
    unfold wM
    split <;> omega
  have k134 : ∀ j, j ≤ k → ∀ N1 : Mm, (∀ h, h < n → N1 45 h = (pSt (gosB σ) n o (agT σ n * 100000000) (wM σ) j).1 h) → (∀ c, c ≠ 45 → N1 c = N c) → K NM RRM 134 [(0, vr 1), (1, vi o), (2, vi (k : Int)), (3, vi w), (4, vl (agT σ n * 100000000)), (6, vi (pSt (gosB σ) n o (agT σ n * 100000000) (wM σ) j).2.1), (7, vi (pSt (gosB σ) n o (agT σ n * 100000000) (wM σ) j).2.2), (8, vi (j : Int))] [] N1 := by
    refine up_ind ?_ ?_
    · intro N1 h e
      have hp := hP N1 e
      refine w_Mod_pin_134 hK _ _ _ _ _ _ _ N1 ⟨by omega, by omega, fun _ => ⟨by omega, fun z => ?_, fun z => ?_⟩, fun z => absurd (Int.le_refl _) z⟩
      · rw [if_neg z] at hp; exact hp
      · rw [if_pos z] at hp; exact hp
    · intro j hj ih N1 h e
      have hin := pSt_in (g := gosB σ) (A := agT σ n * 100000000) ho hwM j
      refine w_Mod_pin_134 hK _ _ _ _ _ _ _ N1 ⟨by omega, by omega, fun z => by omega, fun _ => ⟨_, m_likeliest (n := n) (σ := σ) (by rw [e 3 (by omega)]; exact h0) hn (by rw [e 34 (by omega)]; exact hS) hw ho (fun q hq => by rw [h q hq]; exact hin q hq), ?_⟩⟩
      rintro r N2 ⟨hN, rfl⟩
      obtain rfl := hN.symm
      have ec : lkF (gosB σ) (N1 45) o n = lkF (gosB σ) (pSt (gosB σ) n o (agT σ n * 100000000) (wM σ) j).1 o n := lkF_cg (fun q hq _ => h q hq) n (Nat.le_refl _)
      rw [ec]
      have l1 := lkF_in (g := gosB σ) (W := (pSt (gosB σ) n o (agT σ n * 100000000) (wM σ) j).1) (o := o) n
      have l2 := lkF_so (g := gosB σ) (W := (pSt (gosB σ) n o (agT σ n * 100000000) (wM σ) j).1) (o := o) n hg
      obtain ⟨q, hq⟩ : ∃ q, q = lkF (gosB σ) (pSt (gosB σ) n o (agT σ n * 100000000) (wM σ) j).1 o n := ⟨_, rfl⟩
      rw [← hq] at l1 l2 ⊢
      have wq := hin q.toNat (by omega)
      have sq := st_in wq ho
      rw [h q.toNat (by omega), divL_nn wq.1 (by omega) (by decide) (by decide), divL_nn sq.2.1 (by omega) (by omega) (by omega)]
      refine ⟨by omega, by omega, by omega, by omega, by omega, by omega, by omega, fun N3 g3 => ?_⟩
      rw [show (j : Int) + 1 = ((j + 1 : Nat) : Int) by omega]
      have := ih N3 (fun x hx => ?_) (fun c hc => by rw [g3, upr_eq, if_neg hc]; exact e c hc)
      · rw [pSt, ← hq] at this
        exact this
      · rw [g3, upr_eq, if_pos rfl, up1_eq]
        show _ = up1 _ _ _ x
        rw [up1_eq, ← hq]
        split
        · rfl
        · exact h x hx
  have k61 : ∀ i, i ≤ n → ∀ N1 : Mm, (∀ h, h < i → N1 45 h = wM σ h) → (∀ c, c ≠ 45 → N1 c = N c) → K NM RRM 61 [(0, vr 1), (1, vi o), (2, vi (k : Int)), (3, vi w), (4, vl (agT σ i * 100000000)), (6, vi (i : Int))] [] N1 := by
    refine up_ind ?_ ?_
    · intro N1 h e
      refine w_Mod_pin_61 hK _ _ _ _ _ N1 ?_
      rw [e 3 (by omega), h0]
      exact ⟨by omega, by omega, fun _ => k134 0 (by omega) N1 h e, fun z => absurd (Int.le_refl _) z⟩
    · intro i hi ih N1 h e
      have w5 := hw.2.2.2.2.1 i hi
      have k106 : ∀ v : Int, v = wM σ i → K NM RRM 106 [(0, vr 1), (1, vi o), (2, vi (k : Int)), (3, vi w), (4, vl (agT σ i * 100000000)), (6, vi (i : Int))] [vl v, vi (i : Int), vr 45] N1 := by
        intro v hv
        refine w_Mod_pin_106 hK _ _ _ _ _ _ _ N1 ⟨by omega, fun N2 g2 => ⟨by omega, ?_⟩⟩
        rw [Int.toNat_natCast] at g2
        have ev : N2 45 i = v := by rw [g2, upr_eq, if_pos rfl, up1_eq, if_pos rfl]
        rw [Int.toNat_natCast, ev, show (i : Int) + 1 = ((i + 1 : Nat) : Int) by omega]
        have ea : agT σ i * 100000000 + v = agT σ (i + 1) * 100000000 := by
          rw [hv, agT]
          unfold wM
          split <;> omega
        rw [ea]
        refine ih N2 (fun j hj => ?_) (fun c hc => by rw [g2, upr_eq, if_neg hc]; exact e c hc)
        by_cases q : j = i
        · rw [q, ev, hv]
        · rw [g2, upr_eq, if_pos rfl, up1_eq, if_neg q]; exact h j (by omega)
      refine w_Mod_pin_61 hK _ _ _ _ _ N1 ?_
      rw [e 3 (by omega), h0]
      refine ⟨by omega, by omega, fun z => by omega, fun _ => ⟨_, m_isGoing (n := n) (σ := σ) (by rw [e 34 (by omega)]; exact hS) hw (by omega), ?_⟩⟩
      rintro r N2 ⟨hN, rfl⟩
      obtain rfl := hN.symm
      rw [show ((12 : Int) + (i : Int)).toNat = 12 + i by omega, e 34 (by omega), hS]
      refine ⟨zo_rng _, fun z => k106 0 (by unfold wM; rw [if_neg (by rw [zo_0 z]; exact Bool.false_ne_true)]), fun z => ⟨by omega, by omega, k106 _ (by unfold wM; rw [if_pos (zo_ne z)])⟩⟩
  exact k61 0 (by omega) N (fun j hj => absurd hj (Nat.not_lt_zero _)) (fun c _ => rfl)
theorem goS_0 {n B : Nat} {σ : Nat → Int} (hw : WF n B σ) (hn : n ≤ 7) : goS n σ = 0 ↔ agT σ n = 0 := by
  rw [agT_0 hw n (Nat.le_refl _)]
  have bit : ∀ j, (goS n σ).testBit j = (decide (j < n) && gosB σ j) := fun j => by
    unfold goS gosB
    rw [adn_bit, Nat.testBit_two_pow_sub_one]
  refine ⟨fun z j hj => ?_, fun z => Nat.eq_of_testBit_eq (fun j => ?_)⟩
  · have := bit j
    rw [z, Nat.zero_testBit, decide_eq_true hj, Bool.true_and] at this
    exact this.symm
  · rw [bit, Nat.zero_testBit]
    by_cases c : j < n
    · rw [z j c, Bool.and_false]
    · rw [decide_eq_false c, Bool.false_and]
def pQ (σ : Nat → Int) (n : Nat) (o k w : Int) : Prop := (0 ≤ o ∧ o ≤ 10) ∧ (1 ≤ k ∧ k ≤ 8) ∧ (0 ≤ w ∧ w ≤ 1) ∧ agT σ n ≠ 0
theorem m_pin {t : TT} {B : Nat} {σ : Nat → Int} {N : Mm} {o k w : Int} (hT : RM t N) (hWt : WT t) (hS : N 34 = σ) (hw : WF (tn t) B σ) (ho : rng o) (hk : rng k) (hww : rng w) : S_Mod_pin o k w N (fun x N' => (pQ σ (tn t) o k w → x = (if w = 0 then (pSt (gosB σ) (tn t) o (agT σ (tn t) * 100000000) (wM σ) k.toNat).2.1 else (pSt (gosB σ) (tn t) o (agT σ (tn t) * 100000000) (wM σ) k.toNat).2.2) ∧ N' 1 0 = 0) ∧ (¬ pQ σ (tn t) o k w → x = 0 ∧ N' 1 0 = 1) ∧ FrM (fun c => c = 45) (fun j => j = 0) N N') := by
  have hn := hWt.1
  refine e_Mod_pin _ _ _ N fun K hK => w_Mod_pin_0 hK _ _ _ N ⟨_, m_within ho (by decide) (by decide), ?_⟩
  rintro r1 N1 ⟨hN, rfl⟩
  obtain rfl := hN.symm
  have bad : ¬ pQ σ (tn t) o k w → K NM RRM 42 [(0, vr 1), (1, vi o), (2, vi k), (3, vi w)] [vi 1, vr 1] N := by
    intro h
    refine w_Mod_pin_42 hK _ _ _ _ N ?_
    intro N2 g2
    have e : N2 1 0 = 1 := by rw [g2, upr_eq, if_pos rfl, up1_eq, if_pos rfl]
    exact ⟨by rw [e]; decide, fun z => absurd e z, fun _ => ⟨fun z => absurd z h, fun _ => ⟨rfl, e⟩, by rw [g2]; exact FrM.u1 rfl⟩⟩
  have good : pQ σ (tn t) o k w → K NM RRM 42 [(0, vr 1), (1, vi o), (2, vi k), (3, vi w)] [vi 0, vr 1] N := by
    intro h
    obtain ⟨q1, q2, q3, q4⟩ := id h
    refine w_Mod_pin_42 hK _ _ _ _ N ?_
    intro N2 g2
    have e : N2 1 0 = 0 := by rw [g2, upr_eq, if_pos rfl, up1_eq, if_pos rfl]
    have e2 : ∀ c, c ≠ 1 → N2 c = N c := fun c hc => by rw [g2, upr_eq, if_neg hc]
    refine ⟨by rw [e]; decide, fun _ => ?_, fun z => absurd z (by rw [e]; decide)⟩
    obtain ⟨kk, rfl⟩ : ∃ kk : Nat, k = (kk : Int) := ⟨k.toNat, by omega⟩
    have hg : ∃ j, j < tn t ∧ gosB σ j = true := by
      apply Classical.byContradiction
      intro z
      refine q4 ((agT_0 hw _ (Nat.le_refl _)).mpr (fun j hj => ?_))
      cases c : gosB σ j
      · rfl
      · exact absurd ⟨j, hj, c⟩ z
    refine m_pinGo hK (n := tn t) (σ := σ) (by rw [e2 3 (by omega)]; exact hT.1.1) hn (by rw [e2 34 (by omega)]; exact hS) hw q1 (by omega) (by omega) hg ?_
    intro N' e'
    rw [Int.toNat_natCast]
    refine ⟨fun _ => ⟨rfl, by rw [e' 1 (by omega)]; exact e⟩, fun z => absurd h z, fun c h1 h2 => (e' c h2).trans (e2 c h1), fun j hj => ?_⟩
    rw [e' 1 (by omega), g2, upr_eq, if_pos rfl, up1_eq, if_neg hj]
  refine ⟨zo_rng _, fun z => bad (fun q => ?_), fun z => ⟨_, m_within hk (by decide) (by decide), ?_⟩⟩
  · have := zo_0 z
    simp at this
    have := q.1
    omega
  · have ho' : 0 ≤ o ∧ o ≤ 10 := by simpa using zo_ne z
    rintro r2 N2 ⟨hN, rfl⟩
    obtain rfl := hN.symm
    refine ⟨zo_rng _, fun y => bad (fun q => ?_), fun y => ⟨_, m_within hww (by decide) (by decide), ?_⟩⟩
    · have := zo_0 y
      simp at this
      have := q.2.1
      omega
    · have hk' : 1 ≤ k ∧ k ≤ 8 := by simpa using zo_ne y
      rintro r3 N3 ⟨hN, rfl⟩
      obtain rfl := hN.symm
      refine ⟨zo_rng _, fun x => bad (fun q => ?_), fun x => ⟨_, m_going hT hWt hS hw, ?_⟩⟩
      · have := zo_0 x
        simp at this
        have := q.2.2.1
        omega
      · have hw' : 0 ≤ w ∧ w ≤ 1 := by simpa using zo_ne x
        rintro r4 N4 ⟨rfl, hN⟩
        obtain rfl := hN.symm
        have hl := goS_lt (n := tn t) (σ := σ) hn
        have h0 := goS_0 hw hn
        exact ⟨by omega, fun v => bad (fun q => q.2.2.2 (h0.mp (by omega))), fun v => good ⟨ho', hk', hw', fun q => v (by rw [h0.mpr q]; rfl)⟩⟩
