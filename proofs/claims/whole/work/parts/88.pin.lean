/-- the thicknesses of those that go, together -/
def agT (σ : Nat → Int) : Nat → Int
  | 0 => 0
  | h + 1 => if gosB σ h = true then agT σ h + σ (12 + h) else agT σ h
theorem agT_in {n B : Nat} {σ : Nat → Int} (hw : WF n B σ) : ∀ h, h ≤ n → 0 ≤ agT σ h ∧ agT σ h ≤ 20 * h
  | 0, _ => by rw [agT]; omega
  | h + 1, hh => by
    have := agT_in hw h (by omega)
    have := hw.2.2.2.2.1 h (by omega)
    rw [agT]
    split <;> omega
theorem agT_0 {n B : Nat} {σ : Nat → Int} (hw : WF n B σ) : ∀ h, h ≤ n → (agT σ h = 0 ↔ ∀ j, j < h → gosB σ j = false)
  | 0, _ => ⟨fun _ j hj => absurd hj (Nat.not_lt_zero _), fun _ => rfl⟩
  | h + 1, hh => by
    have ih := agT_0 hw h (by omega)
    have i2 := agT_in hw h (by omega)
    have i3 := hw.2.2.2.2.1 h (by omega)
    rw [agT]
    by_cases c : gosB σ h = true
    · rw [if_pos c]
      exact ⟨fun z => by omega, fun z => by rw [z h (by omega)] at c; cases c⟩
    · rw [if_neg c]
      refine ⟨fun z j hj => ?_, fun z => ih.mpr (fun j hj => z j (by omega))⟩
      by_cases e : j = h
      · subst e
        cases d : gosB σ j
        · rfl
        · exact absurd d c
      · exact ih.mp z j (by omega)
theorem c_allGoing {n tb B : Nat} {σ : Nat → Int} {M : Mm} (htb : At shC NN tb (.inl 7)) (h11 : M 1 1 = (tb : Int)) (h9 : M tb 9 = (n : Int)) (hn : n ≤ 7) (hS : RS n σ M 42) (hw : WF n B σ) : S_Main_allGoingThickness M (fun r M' => M' = M ∧ r = agT σ n) := by
  refine e_Main_allGoingThickness M fun K hK => w_Main_allGoingThickness_0 hK M ?_
  have key : ∀ i, i ≤ n → K NN RRC 4 [(0, vr 1), (1, vi (agT σ i)), (2, vi (i : Int))] [] M := by
    refine up_ind ?_ ?_
    · refine w_Main_allGoingThickness_4 hK _ _ M ⟨tb, h11, htb, ?_⟩
      rw [h9]
      exact ⟨by omega, by omega, fun _ => ⟨rfl, rfl⟩, fun z => absurd (Int.le_refl _) z⟩
    · intro i hi ih
      refine w_Main_allGoingThickness_4 hK _ _ M ⟨tb, h11, htb, ?_⟩
      rw [h9]
      refine ⟨by omega, by omega, fun z => by omega, fun _ => ⟨_, c_goes atC_42 hS hw (by omega), ?_⟩⟩
      rintro r M1 ⟨hM, rfl⟩
      obtain rfl := hM.symm
      rw [show (i : Int) + 1 = ((i + 1 : Nat) : Int) by omega]
      refine ⟨zo_rng _, fun z => ?_, fun z => ⟨by omega, ?_⟩⟩
      · rw [agT, if_neg (by rw [zo_0 z]; exact Bool.false_ne_true)] at ih
        exact ih
      · rw [agT, if_pos (zo_ne z)] at ih
        rw [Int.toNat_natCast, (hS.2 i hi).2.1]
        exact ih
  exact key 0 (by omega)
theorem c_weighH {n tb B : Nat} {σ : Nat → Int} {M : Mm} (htb : At shC NN tb (.inl 7)) (h11 : M 1 1 = (tb : Int)) (h9 : M tb 9 = (n : Int)) (hn : n ≤ 7) (hS : RS n σ M 42) (hw : WF n B σ) : S_Main_weighHouses M (fun M' => (∀ h, h < n → M' 72 h = σ (12 + h) * 100000000) ∧ FrC (fun c => c = 72) M M') := by
  have htb4 := town_at htb
  refine e_Main_weighHouses M fun K hK => w_Main_weighHouses_0 hK M ?_
  have key : ∀ i, i ≤ n → ∀ M1 : Mm, (∀ h, h < i → M1 72 h = σ (12 + h) * 100000000) → FrC (fun c => c = 72) M M1 → K NN RRC 2 [(0, vr 1), (1, vi (i : Int))] [] M1 := by
    refine up_ind ?_ ?_
    · intro M1 h f
      refine w_Main_weighHouses_2 hK _ M1 ⟨tb, by rw [f 1 (by omega)]; exact h11, htb, ?_⟩
      rw [f tb (by omega), h9]
      exact ⟨by omega, by omega, fun _ => ⟨h, f⟩, fun z => absurd (Int.le_refl _) z⟩
    · intro i hi ih M1 h f
      refine w_Main_weighHouses_2 hK _ M1 ⟨tb, by rw [f 1 (by omega)]; exact h11, htb, ?_⟩
      rw [f tb (by omega), h9, Int.toNat_natCast, f 43 (by omega), (hS.2 i hi).2.1]
      have := hw.2.2.2.2.1 i hi
      refine ⟨by omega, by omega, fun z => by omega, fun _ => ⟨by omega, by omega, by omega, fun M2 g2 => ?_⟩⟩
      rw [show (i : Int) + 1 = ((i + 1 : Nat) : Int) by omega]
      refine ih M2 (fun j hj => ?_) (FrC.tr (p := fun c => c = 72) f (by rw [g2]; exact FrC.up rfl))
      rw [g2, upr_eq, if_pos rfl, up1_eq]
      by_cases e : j = i
      · rw [if_pos e, e]
      · rw [if_neg e]; exact h j (by omega)
  exact key 0 (by omega) M (fun h hh => absurd hh (Nat.not_lt_zero _)) FrC.rf
theorem cmp_le {x y : Int} : cmpL x y ≤ 0 ↔ x ≤ y := by
  unfold cmpL
  split
  · omega
  · split <;> omega
/-- where a pin is likeliest -/
def lkF (g : Nat → Bool) (W : Nat → Int) (o : Int) : Nat → Int
  | 0 => -1
  | h + 1 => if g h = true ∧ (lkF g W o h = -1 ∨ (0 < o ∧ W (lkF g W o h).toNat < W h)) then (h : Int) else lkF g W o h
theorem lkF_in {g : Nat → Bool} {W : Nat → Int} {o : Int} : ∀ h, lkF g W o h = -1 ∨ (0 ≤ lkF g W o h ∧ lkF g W o h < (h : Int) ∧ g (lkF g W o h).toNat = true)
  | 0 => Or.inl rfl
  | h + 1 => by
    rw [lkF]
    split
    · rename_i c
      exact Or.inr ⟨by omega, by omega, by rw [Int.toNat_natCast]; exact c.1⟩
    · rcases lkF_in (g := g) (W := W) (o := o) h with z | z
      · exact Or.inl z
      · exact Or.inr ⟨z.1, by omega, z.2.2⟩
theorem lkF_cg {g : Nat → Bool} {W W' : Nat → Int} {o : Int} {n : Nat} (e : ∀ j, j < n → g j = true → W' j = W j) : ∀ h, h ≤ n → lkF g W' o h = lkF g W o h
  | 0, _ => rfl
  | h + 1, hh => by
    have ih := lkF_cg (o := o) e h (by omega)
    rw [lkF, lkF, ih]
    by_cases c : g h = true
    · rcases lkF_in (g := g) (W := W) (o := o) h with z | z
      · rw [if_pos ⟨c, Or.inl z⟩, if_pos ⟨c, Or.inl z⟩]
      · rw [e h (by omega) c, e _ (by omega) z.2.2]
    · rw [if_neg (fun z => c z.1), if_neg (fun z => c z.1)]
theorem lkF_so {g : Nat → Bool} {W : Nat → Int} {o : Int} : ∀ h, (∃ j, j < h ∧ g j = true) → lkF g W o h ≠ -1
  | 0, ⟨j, hj, _⟩ => absurd hj (Nat.not_lt_zero _)
  | h + 1, ⟨j, hj, c⟩ => by
    rw [lkF]
    split
    · omega
    · rename_i q
      by_cases e : j = h
      · subst e
        exact fun z => q ⟨c, Or.inl z⟩
      · exact lkF_so h ⟨j, by omega, c⟩
theorem c_likeliest {n tb B : Nat} {σ : Nat → Int} {M : Mm} {o : Int} (htb : At shC NN tb (.inl 7)) (h11 : M 1 1 = (tb : Int)) (h9 : M tb 9 = (n : Int)) (hn : n ≤ 7) (hS : RS n σ M 42) (hw : WF n B σ) (ho : 0 ≤ o ∧ o ≤ 10) (hW : ∀ h, h < n → (0 ≤ M 72 h ∧ M 72 h ≤ 2000000000)) : S_Main_likeliestFind o M (fun r M' => M' = M ∧ r = lkF (gosB σ) (M 72) o n) := by
  refine e_Main_likeliestFind _ M fun K hK => w_Main_likeliestFind_0 hK _ M ?_
  have key : ∀ i, i ≤ n → K NN RRC 4 [(0, vr 1), (1, vi o), (2, vi (lkF (gosB σ) (M 72) o i)), (3, vi (i : Int))] [] M := by
    refine up_ind ?_ ?_
    · refine w_Main_likeliestFind_4 hK _ _ _ M ⟨tb, h11, htb, ?_⟩
      rw [h9]
      exact ⟨by omega, by omega, fun _ => ⟨rfl, rfl⟩, fun z => absurd (Int.le_refl _) z⟩
    · intro i hi ih
      have hl := lkF_in (g := gosB σ) (W := M 72) (o := o) i
      have k47 : ∀ s : Int, rng s → (s ≠ 0 ↔ (lkF (gosB σ) (M 72) o i = -1 ∨ (0 < o ∧ M 72 (lkF (gosB σ) (M 72) o i).toNat < M 72 i))) → K NN RRC 47 [(0, vr 1), (1, vi o), (2, vi (lkF (gosB σ) (M 72) o i)), (3, vi (i : Int))] [vi s] M := by
        intro s hs hc
        refine w_Main_likeliestFind_47 hK _ _ _ _ M ⟨_, c_goes atC_42 hS hw (by omega), ?_⟩
        rintro r M1 ⟨hM, rfl⟩
        obtain rfl := hM.symm
        rw [show (i : Int) + 1 = ((i + 1 : Nat) : Int) by omega]
        rw [lkF] at ih
        refine ⟨zo_rng _, fun z => ?_, fun z => ⟨hs, fun y => ?_, fun y => ?_⟩⟩
        · rw [if_neg (fun q => by rw [zo_0 z] at q; exact Bool.false_ne_true q.1)] at ih; exact ih
        · rw [if_neg (fun q => hc.mpr q.2 y)] at ih; exact ih
        · rw [if_pos ⟨zo_ne z, hc.mp y⟩] at ih; exact ih
      refine w_Main_likeliestFind_4 hK _ _ _ M ⟨tb, h11, htb, ?_⟩
      rw [h9, Int.toNat_natCast]
      refine ⟨by omega, by omega, fun z => by omega, fun _ => ⟨by omega, fun z => k47 1 (by decide) ⟨fun _ => Or.inl z, fun _ => by decide⟩, fun z => ?_⟩⟩
      have hz : 0 ≤ lkF (gosB σ) (M 72) o i ∧ lkF (gosB σ) (M 72) o i < (i : Int) := by omega
      have w1 := hW i hi
      have w2 := hW (lkF (gosB σ) (M 72) o i).toNat (by omega)
      have m1 : ∀ w : Int, 0 ≤ w → w ≤ 2000000000 → 0 ≤ w * o ∧ w * o ≤ 20000000000 := fun w a b => ⟨Int.mul_nonneg a ho.1, by
        have : w * o ≤ 2000000000 * 10 := Int.mul_le_mul b ho.2 ho.1 (by decide)
        omega⟩
      have p1 := m1 _ w1.1 w1.2
      have p2 := m1 _ w2.1 w2.2
      have cmp : M 72 i * o ≤ M 72 (lkF (gosB σ) (M 72) o i).toNat * o ↔ ¬ (0 < o ∧ M 72 (lkF (gosB σ) (M 72) o i).toNat < M 72 i) := by
        refine ⟨fun a b => ?_, fun a => ?_⟩
        · have := Int.mul_lt_mul_of_pos_right b.2 b.1
          omega
        · by_cases c : o = 0
          · rw [c, Int.mul_zero, Int.mul_zero]; omega
          · exact Int.mul_le_mul_of_nonneg_right (by omega) ho.1
      refine ⟨by omega, by omega, by omega, by omega, by omega, by omega, fun y => k47 0 (by decide) ?_, fun y => k47 1 (by decide) ?_⟩
      · rw [cmp_le] at y
        exact ⟨fun q => absurd rfl q, fun q => by rcases q with q | q; exact absurd q z; exact absurd q (cmp.mp y)⟩
      · rw [cmp_le] at y
        refine ⟨fun _ => Or.inr ?_, fun _ => by decide⟩
        exact Classical.byContradiction (fun q => y (cmp.mpr q))
  exact key 0 (by omega)
theorem m_likeliest {n B : Nat} {σ : Nat → Int} {N : Mm} {o : Int} (h0 : N 3 0 = (n : Int)) (hn : n ≤ 7) (hS : N 34 = σ) (hw : WF n B σ) (ho : 0 ≤ o ∧ o ≤ 10) (hW : ∀ h, h < n → (0 ≤ N 45 h ∧ N 45 h ≤ 2000000000)) : S_Mod_likeliest o N (fun r N' => N' = N ∧ r = lkF (gosB σ) (N 45) o n) := by
  refine e_Mod_likeliest _ N fun K hK => w_Mod_likeliest_0 hK _ N ?_
  have key : ∀ i, i ≤ n → K NM RRM 4 [(0, vr 1), (1, vi o), (2, vi (lkF (gosB σ) (N 45) o i)), (3, vi (i : Int))] [] N := by
    refine up_ind ?_ ?_
    · refine w_Mod_likeliest_4 hK _ _ _ N ?_
      rw [h0]
      exact ⟨by omega, by omega, fun _ => ⟨rfl, rfl⟩, fun z => absurd (Int.le_refl _) z⟩
    · intro i hi ih
      have hl := lkF_in (g := gosB σ) (W := N 45) (o := o) i
      refine w_Mod_likeliest_4 hK _ _ _ N ?_
      rw [h0]
      refine ⟨by omega, by omega, fun z => by omega, fun _ => ⟨_, m_isGoing hS hw (by omega), ?_⟩⟩
      rintro r N1 ⟨hN, rfl⟩
      obtain rfl := hN.symm
      rw [show (i : Int) + 1 = ((i + 1 : Nat) : Int) by omega, Int.toNat_natCast]
      rw [lkF] at ih
      refine ⟨zo_rng _, fun z => ?_, fun z => ⟨by omega, fun y => ?_, fun y => ⟨by omega, fun x => ?_, fun x => ?_⟩⟩⟩
      · rw [if_neg (fun q => by rw [zo_0 z] at q; exact Bool.false_ne_true q.1)] at ih; exact ih
      · rw [if_pos ⟨zo_ne z, Or.inl (by omega)⟩] at ih; exact ih
      · rw [if_neg (fun q => by omega)] at ih; exact ih
      · have w1 := hW i hi
        have w2 := hW (lkF (gosB σ) (N 45) o i).toNat (by omega)
        refine ⟨by omega, by omega, by omega, by omega, fun q => ?_, fun q => ?_⟩
        · rw [cmp_le] at q
          rw [if_neg (fun k => by omega)] at ih; exact ih
        · rw [cmp_le] at q
          rw [if_pos ⟨zo_ne z, Or.inr ⟨by omega, by omega⟩⟩] at ih; exact ih
  exact key 0 (by omega)
