theorem c_isBid {u : Int} {M : Mm} (hu : rng u) : S_Main_isBid u M (fun r M' => M' = M ∧ r = zo (decide (0 ≤ u ∧ u ≤ 9))) := by
  refine W_Main_isBid _ M ⟨hu, fun z => ⟨rfl, ?_⟩, fun z => ⟨hu, fun y => ⟨rfl, ?_⟩, fun y => ⟨rfl, ?_⟩⟩⟩
  · rw [decide_eq_false (by omega)]; rfl
  · rw [decide_eq_false (by omega)]; rfl
  · rw [decide_eq_true (by omega)]; rfl
theorem c_rests {u v w : Int} {M : Mm} {P : Int → Mm → Prop} {X : Mm → Prop} (hu : rng u) (hv : rng v) (hw : rng w) (hP : rsQ u v w ∧ w < (rsC u v 100 : Int) → P (rsV u v w) M) (hX : ¬ (rsQ u v w ∧ w < (rsC u v 100 : Int)) → X M) : SX_Main_rests u v w M P X := by
  refine eX_Main_rests _ _ _ M fun K hK => w_Main_rests_0 hK _ _ _ M ⟨_, c_isBid hu, ?_⟩
  rintro r1 M1 ⟨hM, rfl⟩
  obtain rfl := hM.symm
  have bad : ¬ rsQ u v w → K NN RRC 35 [(1, vi u), (2, vi v), (3, vi w), (4, vi 0), (5, vi 0), (6, vi (-1)), (7, vi 0)] [] M := fun h =>
    w_Main_rests_35 hK _ _ _ _ _ _ _ M ⟨by decide, fun _ => w_Main_rests_89 hK _ _ _ _ M ⟨by decide, fun _ => hX (fun z => h z.1), fun z => absurd rfl z⟩, fun z => absurd rfl z⟩
  refine ⟨zo_rng _, fun z => bad (fun q => ?_), fun z => ⟨_, c_isBid hv, ?_⟩⟩
  · have := zo_0 z
    rw [decide_eq_false_iff_not] at this
    exact this q.1
  rintro r2 M2 ⟨hM, rfl⟩
  obtain rfl := hM.symm
  have qu : 0 ≤ u ∧ u ≤ 9 := by simpa using zo_ne z
  refine ⟨zo_rng _, fun y => bad (fun q => ?_), fun y => ⟨hw, fun x => bad (fun q => ?_), fun x => ?_⟩⟩
  · have := zo_0 y
    rw [decide_eq_false_iff_not] at this
    exact this q.2.1
  · have := q.2.2
    omega
  have qv : 0 ≤ v ∧ v ≤ 9 := by simpa using zo_ne y
  have hQ : rsQ u v w := ⟨qu, qv, by omega⟩
  have key : ∀ i, i ≤ 100 → (-1 ≤ rsA u v w i ∧ rsA u v w i ≤ 100) → K NN RRC 35 [(1, vi u), (2, vi v), (3, vi w), (4, vi 1), (5, vi (rsC u v i : Int)), (6, vi (rsA u v w i)), (7, vi (i : Int))] [] M := by
    refine up_ind ?_ ?_
    · intro ha
      have hl := rsC_le u v 100
      refine w_Main_rests_35 hK _ _ _ _ _ _ _ M ⟨by decide, fun z => absurd z (by decide), fun _ => ⟨by decide, fun _ => ?_, fun z => absurd (by decide) z⟩⟩
      refine w_Main_rests_89 hK _ _ _ _ M ⟨by decide, fun z => absurd z (by decide), fun _ => ⟨hw, by omega, fun z => ⟨hw, fun x9 => ?_, fun x9 => ?_⟩, fun z => hX (fun q => z q.2)⟩⟩
      · have := hP ⟨hQ, z⟩
        unfold rsV at this
        rw [if_neg x9] at this
        exact this
      · have := hP ⟨hQ, z⟩
        unfold rsV at this
        rw [if_pos x9] at this
        exact this
    · intro i hi ih ha
      have hl := rsC_le u v i
      refine w_Main_rests_35 hK _ _ _ _ _ _ _ M ⟨by decide, fun z => absurd z (by decide), fun _ => ⟨by omega, fun z => by omega, fun _ => ?_⟩⟩
      have ed : divI (i : Int) 10 = ((i / 10 : Nat) : Int) := divI_pos (d := 10) (by omega) (by omega) (by omega)
      have er : remI (i : Int) 10 = ((i % 10 : Nat) : Int) := remI_pos (d := 10) (by omega) (by omega) (by omega)
      rw [ed, er]
      refine ⟨_, c_isRest qu qv (by omega) (by omega), ?_⟩
      rintro r M3 ⟨hM, rfl⟩
      obtain rfl := hM.symm
      have es : rsB u v (i / 10) (i % 10) = rsk u v i := rfl
      rw [es]
      rw [show (i : Int) + 1 = ((i + 1 : Nat) : Int) by omega]
      refine ⟨zo_rng _, fun z => ?_, fun z => ⟨by omega, hw, fun y => ?_, fun y => ?_⟩⟩
      · have ez : ¬ rsk u v i = true := by rw [zo_0 z]; exact Bool.false_ne_true
        have ec : rsC u v (i + 1) = rsC u v i := by rw [rsC, if_neg ez]
        have ea : rsA u v w (i + 1) = rsA u v w i := by rw [rsA, if_neg ez]
        rw [ec, ea] at ih
        exact ih ha
      · have ec : rsC u v (i + 1) = rsC u v i + 1 := by rw [rsC, if_pos (zo_ne z)]
        have ea : rsA u v w (i + 1) = rsA u v w i := by rw [rsA, if_pos (zo_ne z), if_neg y]
        rw [ec, ea] at ih
        have := ih ha
        rw [show ((rsC u v i + 1 : Nat) : Int) = (rsC u v i : Int) + 1 by omega] at this
        exact this
      · have ec : rsC u v (i + 1) = rsC u v i + 1 := by rw [rsC, if_pos (zo_ne z)]
        have ea : rsA u v w (i + 1) = (i : Int) := by rw [rsA, if_pos (zo_ne z), if_pos y]
        rw [ec, ea] at ih
        have := ih (by omega)
        rw [show ((rsC u v i + 1 : Nat) : Int) = (rsC u v i : Int) + 1 by omega] at this
        exact this
  exact key 0 (by omega) (by rw [rsA]; decide)
theorem pSt_ans {g : Nat → Bool} {n : Nat} {o A : Int} {W0 : Nat → Int} (ho : 0 ≤ o ∧ o ≤ 10) (hA : 100000000 ≤ A) (hn : n ≤ 7) (hg : ∃ j, j < n ∧ g j = true) (h0 : ∀ j, j < n → (0 ≤ W0 j ∧ W0 j ≤ 2000000000)) : ∀ k, (-1 ≤ (pSt g n o A W0 k).2.1 ∧ (pSt g n o A W0 k).2.1 ≤ 7) ∧ (0 ≤ (pSt g n o A W0 k).2.2 ∧ (pSt g n o A W0 k).2.2 ≤ 20000000 * (k : Int))
  | 0 => by
    show (-1 ≤ (-1 : Int) ∧ (-1 : Int) ≤ 7) ∧ ((0 : Int) ≤ 0 ∧ (0 : Int) ≤ _)
    omega
  | k + 1 => by
    obtain ⟨-, ih⟩ := pSt_ans ho hA hn hg h0 k
    have l1 := lkF_in (g := g) (W := (pSt g n o A W0 k).1) (o := o) n
    have l2 := lkF_so (g := g) (W := (pSt g n o A W0 k).1) (o := o) n hg
    rw [pSt]
    dsimp only
    generalize lkF g (pSt g n o A W0 k).1 o n = q at l1 l2 ⊢
    have wq := pSt_in (g := g) (A := A) ho h0 k q.toNat (by omega)
    have sq := (st_in wq ho).2
    have e1 : 0 ≤ (pSt g n o A W0 k).1 q.toNat / 10 * o * 1000000 / A := Int.ediv_nonneg sq.1 (by omega)
    have e2 : (pSt g n o A W0 k).1 q.toNat / 10 * o * 1000000 / A ≤ 20000000 := by
      have a1 : (pSt g n o A W0 k).1 q.toNat / 10 * o * 1000000 / A < 20000001 := Int.ediv_lt_of_lt_mul (by omega) (by omega)
      omega
    refine ⟨by omega, by omega, ?_⟩
    have : ((k + 1 : Nat) : Int) = (k : Int) + 1 := by omega
    rw [this]
    omega
theorem c_pin {n tb B : Nat} {σ : Nat → Int} {M : Mm} {o k w : Int} {P : Int → Mm → Prop} {X : Mm → Prop} (htb : At shC NN tb (.inl 7)) (h72 : tb ≠ 72) (h11 : M 1 1 = (tb : Int)) (h9 : M tb 9 = (n : Int)) (hn : n ≤ 7) (hS : RS n σ M 42) (hw : WF n B σ) (ho : rng o) (hk : rng k) (hww : rng w)
    (hP : pQ σ n o k w → ∀ M', FrC (fun c => c = 72) M M' → P (if w = 0 then (pSt (gosB σ) n o (agT σ n * 100000000) (wM σ) k.toNat).2.1 else (pSt (gosB σ) n o (agT σ n * 100000000) (wM σ) k.toNat).2.2) M') (hX : ¬ pQ σ n o k w → X M) : SX_Main_pin o k w M P X := by
  refine eX_Main_pin _ _ _ M fun K hK => ?_
  have bad : ¬ ((0 ≤ o ∧ o ≤ 10) ∧ (1 ≤ k ∧ k ≤ 8)) → K NN RRC 26 [(0, vr 1), (1, vi o), (2, vi k), (3, vi w)] [vi 0] M := by
    intro h
    refine w_Main_pin_26 hK _ _ _ _ M ⟨_, c_allGoing htb h11 h9 hn hS hw, ?_⟩
    rintro r M1 ⟨hM, rfl⟩
    obtain rfl := hM.symm
    exact ⟨by decide, fun _ => hX (fun q => h ⟨q.1, q.2.1⟩), fun z => absurd rfl z⟩
  refine w_Main_pin_0 hK _ _ _ M ⟨ho, fun z => bad (by omega), fun z => ⟨ho, fun y => bad (by omega), fun y => ⟨hk, fun x => bad (by omega), fun x => ⟨hk, fun v => bad (by omega), fun v => ?_⟩⟩⟩⟩
  obtain ⟨kn, rfl⟩ : ∃ kn : Nat, k = (kn : Int) := ⟨k.toNat, by omega⟩
  rw [Int.toNat_natCast] at hP
  refine w_Main_pin_26 hK _ _ _ _ M ⟨_, c_allGoing htb h11 h9 hn hS hw, ?_⟩
  rintro r M1 ⟨hM, rfl⟩
  obtain rfl := hM.symm
  have hT := agT_in hw n (Nat.le_refl _)
  refine ⟨by decide, fun z => absurd z (by decide), fun _ => ⟨hww, fun z => hX (fun q => by have := q.2.2.1; omega), fun z => ⟨hww, fun y => hX (fun q => by have := q.2.2.1; omega), fun y => ⟨by omega, fun x => ?_, fun x => hX (fun q => q.2.2.2 x)⟩⟩⟩⟩
  have hQ : pQ σ n o (kn : Int) w := ⟨by omega, by omega, by omega, x⟩
  have hg : ∃ j, j < n ∧ gosB σ j = true := by
    refine Classical.byContradiction fun h => x ((agT_0 hw n (Nat.le_refl _)).mpr fun j hj => ?_)
    cases e : gosB σ j
    · rfl
    · exact absurd ⟨j, hj, e⟩ h
  obtain ⟨W0, hW0⟩ : ∃ W0 : Nat → Int, W0 = fun h => if h < n then σ (12 + h) * 100000000 else 0 := ⟨_, rfl⟩
  have hin0 : ∀ j, j < n → (0 ≤ W0 j ∧ W0 j ≤ 2000000000) := fun j hj => by
    have := hw.2.2.2.2.1 j hj
    rw [hW0]; dsimp only; rw [if_pos hj]; omega
  have hdv : ∀ j, j < n → ∃ q : Int, W0 j = q * 100000000 := fun j hj => ⟨σ (12 + j), by rw [hW0]; dsimp only; rw [if_pos hj]⟩
  have hcg := (pSt_cg (g := gosB σ) (n := n) (o := o) (A := agT σ n * 100000000) (W := wM σ) (W' := W0) hg (fun j hj hj2 => by rw [hW0]; dsimp only; rw [if_pos hj]; unfold wM; rw [if_pos hj2]) kn).2
  refine ⟨_, c_weighH htb h11 h9 hn hS hw, ?_⟩
  rintro M2 ⟨hM2, f2⟩
  have ho2 : 0 ≤ o ∧ o ≤ 10 := by omega
  have key : ∀ j, j ≤ kn → ∀ M3 : Mm, (∀ h, h < n → M3 72 h = (pSt (gosB σ) n o (agT σ n * 100000000) W0 j).1 h) → FrC (fun c => c = 72) M M3 → K NN RRC 77 [(0, vr 1), (1, vi o), (2, vi (kn : Int)), (3, vi w), (5, vi (agT σ n)), (6, vi (pSt (gosB σ) n o (agT σ n * 100000000) W0 j).2.1), (7, vi (pSt (gosB σ) n o (agT σ n * 100000000) W0 j).2.2), (8, vi (j : Int))] [] M3 := by
    refine up_ind ?_ ?_
    · intro M3 h e
      have hp := hP hQ M3 e
      rw [← hcg] at hp
      refine w_Main_pin_77 hK _ _ _ _ _ _ _ M3 ⟨by omega, by omega, fun _ => ⟨by omega, fun z => ?_, fun z => ?_⟩, fun z => absurd (Int.le_refl _) z⟩
      · rw [if_neg z] at hp; exact hp
      · rw [if_pos z] at hp; exact hp
    · intro j hj ih M3 h e
      have hin := pSt_in (g := gosB σ) (A := agT σ n * 100000000) ho2 hin0 j
      refine w_Main_pin_77 hK _ _ _ _ _ _ _ M3 ⟨by omega, by omega, fun z => by omega, fun _ => ⟨_, c_likeliest (n := n) (tb := tb) (σ := σ) htb (by rw [e 1 (by omega)]; exact h11) (by rw [e tb h72]; exact h9) hn (hS.fr (fun i hi => e _ (by omega))) hw ho2 (fun q hq => by rw [h q hq]; exact hin q hq), ?_⟩⟩
      rintro r M4 ⟨hM, rfl⟩
      obtain rfl := hM.symm
      have ec : lkF (gosB σ) (M3 72) o n = lkF (gosB σ) (pSt (gosB σ) n o (agT σ n * 100000000) W0 j).1 o n := lkF_cg (fun q hq _ => h q hq) n (Nat.le_refl _)
      rw [ec]
      have l1 := lkF_in (g := gosB σ) (W := (pSt (gosB σ) n o (agT σ n * 100000000) W0 j).1) (o := o) n
      have l2 := lkF_so (g := gosB σ) (W := (pSt (gosB σ) n o (agT σ n * 100000000) W0 j).1) (o := o) n hg
      obtain ⟨q, hq⟩ : ∃ q, q = lkF (gosB σ) (pSt (gosB σ) n o (agT σ n * 100000000) W0 j).1 o n := ⟨_, rfl⟩
      rw [← hq] at l1 l2 ⊢
      have wq := hin q.toNat (by omega)
      have sq := st_in wq ho2
      obtain ⟨z, hz⟩ := pSt_dv (g := gosB σ) (o := o) (A := agT σ n * 100000000) hdv j (by omega) q.toNat (by omega)
      have hten : (pSt (gosB σ) n o (agT σ n * 100000000) W0 j).1 q.toNat = 10 * (z * ((10 ^ (7 - j) : Nat) : Int)) := by
        rw [hz, show 8 - j = (7 - j) + 1 by omega, Nat.pow_succ, Int.natCast_mul, ← Int.mul_assoc, Int.mul_comm]
        rfl
      have hm : 0 ≤ M3 72 q.toNat * o ∧ M3 72 q.toNat * o ≤ 20000000000 := by
        rw [h q.toNat (by omega)]
        refine ⟨Int.mul_nonneg wq.1 ho2.1, ?_⟩
        exact Int.le_trans (Int.mul_le_mul wq.2 ho2.2 ho2.1 (by omega)) (by decide)
      refine ⟨by omega, fun e9 => absurd e9 l2, fun _ => ⟨by omega, by omega, _, c_millionths hm (by omega), ?_⟩⟩
      rintro r2 M5 ⟨hM, rfl⟩
      obtain rfl := hM.symm
      refine ⟨by omega, by omega, by omega, fun M6 g6 => ?_⟩
      rw [h q.toNat (by omega), chance_eq hten, show (j : Int) + 1 = ((j + 1 : Nat) : Int) by omega]
      rw [h q.toNat (by omega), divL_nn wq.1 (by omega) (by decide) (by decide)] at g6
      have := ih M6 (fun x hx => ?_) (fun c hc => by rw [g6, upr_eq, if_neg hc]; exact e c hc)
      · rw [pSt, ← hq] at this
        exact this
      · rw [g6, upr_eq, if_pos rfl, up1_eq]
        show _ = up1 _ _ _ x
        rw [up1_eq, ← hq]
        split
        · rfl
        · exact h x hx
  exact key 0 (by omega) M2 (fun h hh => by rw [hM2 h hh]; show _ = W0 h; rw [hW0]; dsimp only; rw [if_pos hh]) f2
/-- one call on both sides, of a method that may throw -/
def OpX (C : Mm → (Int → Mm → Prop) → (Mm → Prop) → Prop) (D : Mm → (Int → Mm → Prop) → Prop) (B : Nat) (M N : Mm) : Prop := ∃ (c : Prop) (r : Int) (A A' : Mm → Prop) (PD : Int → Mm → Prop), (c → rng r) ∧ (c → C M (fun x M' => x = r ∧ A M') (fun _ => False)) ∧ (¬ c → C M (fun _ _ => False) A) ∧ D N PD ∧ (c → ∀ x N', PD x N' → x = r ∧ N' 1 0 = 0 ∧ A' N') ∧ (¬ c → ∀ x N', PD x N' → N' 1 0 = 1 ∧ A' N') ∧ ∀ M' N', A M' → A' N' → ∃ t tb, Sim t tb (B + 1) M' N'
theorem op_rests {t : TT} {tb B : Nat} {M N : Mm} {u v w : Int} (hu : rng u) (hv : rng v) (hw : rng w) (h : Sim t tb B M N) : OpX (SX_Main_rests u v w) (S_Mod_rests u v w) B M N := by
  have hr : rng (rsV u v w) := by
    have a := rsC_le u v 100
    have b : ∀ i, i ≤ 100 → -1 ≤ rsA u v w i ∧ rsA u v w i ≤ 100 := by
      intro i
      induction i with
      | zero => intro _; rw [rsA]; decide
      | succ i ih =>
        intro hi
        have := ih (by omega)
        rw [rsA]
        split
        · split <;> omega
        · exact this
    have b1 := b 100 (Nat.le_refl _)
    unfold rsV
    split <;> omega
  refine ⟨rsQ u v w ∧ w < (rsC u v 100 : Int), rsV u v w, fun M' => M' = M, fun N' => FrM (fun _ => False) (fun k => k = 0) N N', _, fun _ => hr, fun c => ?_, fun c => ?_, m_rests hu hv hw, fun c x N' g => ?_, fun c x N' g => ?_, ?_⟩
  · exact c_rests hu hv hw (fun _ => ⟨rfl, rfl⟩) (fun z => absurd c z)
  · exact c_rests hu hv hw (fun z => absurd z c) (fun _ => rfl)
  · exact ⟨(g.1 c).1, (g.1 c).2, g.2.2⟩
  · exact ⟨(g.2.1 c).2, g.2.2⟩
  · rintro M' N' rfl f
    exact ⟨t, tb, (h.ask FrC.rf (f.wk (fun _ z => z.elim) (fun _ z => Or.inl z)) (fun i _ => by rw [f.1 34 (by omega) (fun z => z)])).mono (Nat.le_succ _)⟩
theorem op_pin {t : TT} {tb B : Nat} {M N : Mm} {o k w : Int} (ho : rng o) (hk : rng k) (hw : rng w) (h : Sim t tb B M N) : OpX (SX_Main_pin o k w) (S_Mod_pin o k w) B M N := by
  obtain ⟨hW, hT, hS, hN, -⟩ := id h
  have hn := hW.1
  have htb : At shC NN tb (.inl 7) := by
    rcases hT.1 with rfl | rfl
    · exact ⟨rfl, by decide, by decide⟩
    · exact ⟨rfl, by decide, by decide⟩
  have h72 : tb ≠ 72 := by rcases hT.1 with rfl | rfl <;> decide
  have h9 : M tb 9 = (tn t : Int) := hT.2.2.2.1.1.1
  have hr : pQ (N 34) (tn t) o k w → rng (if w = 0 then (pSt (gosB (N 34)) (tn t) o (agT (N 34) (tn t) * 100000000) (wM (N 34)) k.toNat).2.1 else (pSt (gosB (N 34)) (tn t) o (agT (N 34) (tn t) * 100000000) (wM (N 34)) k.toNat).2.2) := by
    rintro ⟨c1, c2, c3, c4⟩
    have hA := agT_in hN.2 (tn t) (Nat.le_refl _)
    have hg : ∃ j, j < tn t ∧ gosB (N 34) j = true := by
      refine Classical.byContradiction fun h => c4 ((agT_0 hN.2 (tn t) (Nat.le_refl _)).mpr fun j hj => ?_)
      cases e : gosB (N 34) j
      · rfl
      · exact absurd ⟨j, hj, e⟩ h
    have := pSt_ans (A := agT (N 34) (tn t) * 100000000) c1 (by omega) hn hg (fun j hj => by
      have := hN.2.2.2.2.2.1 j hj
      show 0 ≤ wM (N 34) j ∧ wM (N 34) j ≤ _
      unfold wM
      split <;> omega) k.toNat
    split <;> omega
  refine ⟨pQ (N 34) (tn t) o k w, _, fun M' => FrC (fun c => c = 72) M M', fun N' => FrM (fun c => c = 45) (fun j => j = 0) N N', _, hr, fun c => ?_, fun c => ?_, m_pin hT.2.2.2.2.1 hW rfl hN.2 ho hk hw, fun c x N' g => ?_, fun c x N' g => ?_, ?_⟩
  · exact c_pin htb h72 hT.2.1 h9 hn hN.1 hN.2 ho hk hw (fun _ M' f => ⟨rfl, f⟩) (fun z => absurd c z)
  · exact c_pin htb h72 hT.2.1 h9 hn hN.1 hN.2 ho hk hw (fun z => absurd z c) (fun _ => FrC.rf)
  · exact ⟨(g.1 c).1, (g.1 c).2, g.2.2⟩
  · exact ⟨(g.2.1 c).2, g.2.2⟩
  · intro M' N' e f
    exact ⟨t, tb, (h.ask (fun c hc => e c (fun z => hc (Or.inr (Or.inr (Or.inr (by omega)))))) (f.wk (fun c z => Or.inr (Or.inr (Or.inr (by omega)))) (fun _ z => Or.inl z)) (fun i _ => by rw [f.1 34 (by omega) (by omega)])).mono (Nat.le_succ _)⟩
