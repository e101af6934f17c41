theorem surj_inj : ∀ (n : Nat) (f : Nat → Nat), (∀ i, i < n → f i < n) → (∀ a b, a < n → b < n → f a = f b → a = b) → ∀ h, h < n → ∃ i, i < n ∧ f i = h
  | 0, _, _, _, h, hh => by omega
  | n + 1, f, hf, hi, h, hh => by
    by_cases hm : f n = n
    · have r := surj_inj n f (fun i hlt => by
        have h1 := hf i (by omega)
        have h2 : f i ≠ n := fun e => by have := hi i n (by omega) (by omega) (e.trans hm.symm); omega
        omega) (fun a b ha hb e => hi a b (by omega) (by omega) e)
      by_cases e : h = n
      · exact ⟨n, by omega, by omega⟩
      · obtain ⟨i, h1, h2⟩ := r h (by omega)
        exact ⟨i, by omega, h2⟩
    · have hlt := hf n (by omega)
      have r := surj_inj n (fun i => if f i = n then f n else f i) (fun i hlt' => by
          have h1 := hf i (by omega)
          split <;> omega)
        (fun a b ha hb e => by
          split at e <;> split at e
          · exact hi a b (by omega) (by omega) (by omega)
          · have := hi n b (by omega) (by omega) e; omega
          · have := hi a n (by omega) (by omega) e; omega
          · exact hi a b (by omega) (by omega) e)
      by_cases e : h = n
      · obtain ⟨i, h1, h2⟩ := r (f n) (by omega)
        split at h2
        · exact ⟨i, by omega, by omega⟩
        · have := hi i n (by omega) (by omega) h2; omega
      · obtain ⟨i, h1, h2⟩ := r h (by omega)
        split at h2
        · exact ⟨n, by omega, h2⟩
        · exact ⟨i, by omega, h2⟩
theorem WF.place {n B : Nat} {σ : Nat → Int} (hw : WF n B σ) {h : Nat} (hh : h < n) : ∃ p, p < n ∧ σ (5 + p) = (h : Int) := by
  obtain ⟨p, h1, h2⟩ := surj_inj n (fun p => (σ (5 + p)).toNat) (fun i hi => by have := hw.2.2.2.2.1 i hi; omega) (fun a b ha hb e => by
    have h1 := hw.2.2.2.2.1 a ha
    have h2 := hw.2.2.2.2.1 b hb
    exact hw.2.2.2.2.2 a b ha hb (by omega)) h hh
  have := hw.2.2.2.2.1 p h1
  exact ⟨p, h1, by omega⟩
def src (f p q : Nat) : Nat := if q = p then f else if f ≤ q ∧ q < p then q + 1 else if p < q ∧ q ≤ f then q - 1 else q
/-- the house at place f is put at place p -/
def mv (σ : Nat → Int) (f p : Nat) : Nat → Int := fun i => if 5 ≤ i ∧ i < 12 then σ (5 + src f p (i - 5)) else σ i
theorem mv_at {σ : Nat → Int} {f p q : Nat} (hq : q < 7) : mv σ f p (5 + q) = σ (5 + src f p q) := by
  unfold mv; rw [if_pos (by omega)]; congr 2; congr 1; omega
theorem mv_out {σ : Nat → Int} {f p i : Nat} (h : ¬ (5 ≤ i ∧ i < 12)) : mv σ f p i = σ i := by unfold mv; rw [if_neg h]
theorem src_lt {f p q n : Nat} (hf : f < n) (hp : p < n) (hq : q < n) : src f p q < n := by unfold src; split; omega; split; omega; split <;> omega
theorem src_inj {f p a b : Nat} (e : src f p a = src f p b) : a = b := by
  unfold src at e
  split at e <;> split at e <;> (try split at e) <;> (try split at e) <;> (try split at e) <;> (try split at e) <;> omega
theorem mv_WF {n B : Nat} {σ : Nat → Int} {f p : Nat} (hw : WF n B σ) (hn : n ≤ 7) (hf : f < n) (hp : p < n) : WF n B (mv σ f p) := by
  obtain ⟨w1, w2, w3, w4, w5, w6⟩ := hw
  refine ⟨by rw [mv_out (by omega)]; exact w1, by rw [mv_out (by omega)]; exact w2, by rw [mv_out (by omega)]; exact w3, by rw [mv_out (by omega)]; exact w4, fun h hh => ?_, fun a b ha hb e => ?_⟩
  · have a1 := w5 (src f p h) (src_lt hf hp hh)
    have a2 := w5 h hh
    rw [mv_at (by omega), mv_out (i := 12 + h) (by omega), mv_out (i := 19 + h) (by omega), mv_out (i := 26 + h) (by omega)]
    omega
  · rw [mv_at (by omega), mv_at (by omega)] at e
    exact src_inj (w6 _ _ (src_lt hf hp ha) (src_lt hf hp hb) e)
theorem c_placeOf {n B : Nat} {σ : Nat → Int} {M : Mm} {b h p : Nat} (hb : At shC NN b (.inl 5)) (hS : RS n σ M b) (hw : WF n B σ) (hn : n ≤ 7) (hp : p < n) (hh : σ (5 + p) = (h : Int)) : S_State_placeOf b (h : Int) (n : Int) M (fun r M' => M' = M ∧ r = (p : Int)) := by
  have w5p := hw.2.2.2.2.1 p hp
  refine e_State_placeOf b _ _ M fun K hK => w_State_placeOf_0 hK b hb _ _ M ?_
  have key : ∀ k, k ≤ p → K NN RRC 2 [(0, vr b), (1, vi (h : Int)), (2, vi (n : Int)), (3, vi (k : Int))] [] M := by
    refine up_ind ?_ ?_
    · refine w_State_placeOf_2 hK b hb _ _ _ M ?_
      rw [Int.toNat_natCast, (hS.2 p hp).1, hh]
      exact ⟨by omega, by omega, fun q => by omega, fun q => ⟨by omega, by omega, by omega, fun q => absurd rfl q, fun _ => ⟨rfl, rfl⟩⟩⟩
    · intro k hk ih
      have w5k := hw.2.2.2.2.1 k (by omega)
      refine w_State_placeOf_2 hK b hb _ _ _ M ?_
      rw [Int.toNat_natCast, (hS.2 k (by omega)).1]
      refine ⟨by omega, by omega, fun q => by omega, fun q => ⟨by omega, by omega, by omega, fun q => ih, fun q => ?_⟩⟩
      have := hw.2.2.2.2.2 k p (by omega) hp (q.trans hh.symm)
      omega
  exact key 0 (by omega)
theorem m_placeOf {n B : Nat} {σ : Nat → Int} {N : Mm} {h p : Nat} (hS : N 34 = σ) (hw : WF n B σ) (hn : n ≤ 7) (hp : p < n) (hh : σ (5 + p) = (h : Int)) : S_Mod_placeOf (h : Int) N (fun r N' => N' = N ∧ r = (p : Int)) := by
  have w5p := hw.2.2.2.2.1 p hp
  refine e_Mod_placeOf _ N fun K hK => w_Mod_placeOf_0 hK _ N ?_
  have key : ∀ k, k ≤ p → K NM RRM 2 [(0, vr 1), (1, vi (h : Int)), (2, vi (k : Int))] [] N := by
    refine up_ind ?_ ?_
    · refine w_Mod_placeOf_2 hK _ _ N ?_
      rw [show ((5 : Int) + (p : Int)).toNat = 5 + p by omega, hS, hh]
      exact ⟨by omega, by omega, by omega, fun _ => ⟨rfl, rfl⟩, fun q => absurd rfl q⟩
    · intro k hk ih
      have w5k := hw.2.2.2.2.1 k (by omega)
      refine w_Mod_placeOf_2 hK _ _ N ?_
      rw [show ((5 : Int) + (k : Int)).toNat = 5 + k by omega, hS]
      refine ⟨by omega, by omega, by omega, fun q => ?_, fun q => ih⟩
      have := hw.2.2.2.2.2 k p (by omega) hp (q.trans hh.symm)
      omega
  exact key 0 (by omega)
theorem RS_mv {n : Nat} {σ : Nat → Int} {M M' : Mm} {b f p : Nat} (hn : n ≤ 7) (hf : f < n) (hp : p < n) (hS : RS n σ M b) (h4 : ∀ q, q < n → M' (b + 4) q = M (b + 4) (src f p q)) (ho : FrC (fun c => c = b + 4) M M') : RS n (mv σ f p) M' b := by
  obtain ⟨a, c⟩ := hS
  have e0 := ho b (by omega); have e1 := ho (b + 1) (by omega); have e2 := ho (b + 2) (by omega); have e3 := ho (b + 3) (by omega)
  refine ⟨?_, fun h hh => ?_⟩
  · rw [e0, mv_out (by omega), mv_out (by omega), mv_out (by omega), mv_out (by omega), mv_out (by omega)]; exact a
  · rw [e1, e2, e3, h4 h hh, mv_at (by omega), mv_out (i := 12 + h) (by omega), mv_out (i := 19 + h) (by omega), mv_out (i := 26 + h) (by omega)]
    exact ⟨(c _ (src_lt hf hp hh)).1, (c h hh).2⟩
theorem c_moveTo {n B : Nat} {σ : Nat → Int} {M : Mm} {b h f p : Nat} (hb : At shC NN b (.inl 5)) (hS : RS n σ M b) (hw : WF n B σ) (hn : n ≤ 7) (hf : f < n) (hh : σ (5 + f) = (h : Int)) (hp : p < n) :
    S_State_moveTo b (h : Int) (p : Int) (n : Int) M (fun r M' => r = 1 ∧ RS n (mv σ f p) M' b ∧ FrC (fun c => c = b + 4) M M') := by
  refine e_State_moveTo b _ _ _ M fun K hK => w_State_moveTo_0 hK b hb _ _ _ M ?_
  refine ⟨_, c_placeOf hb hS hw hn hf hh, ?_⟩
  rintro r M1 ⟨rfl, rfl⟩
  have k61 : ∀ k, p ≤ k → k ≤ max f p → ∀ M2 : Mm, (∀ q, q < n → M2 (b + 4) q = if k < q ∧ q ≤ f then M1 (b + 4) (q - 1) else if f ≤ q ∧ q < p then M1 (b + 4) (q + 1) else M1 (b + 4) q) → FrC (fun c => c = b + 4) M1 M2 → (f < p → k = f ∨ k = p) → (p ≤ f → True) → K NN RRC 61 [(0, vr b), (1, vi (h : Int)), (2, vi (p : Int)), (5, vi (k : Int))] [] M2 := by
    intro k
    induction k with
    | zero =>
      intro hpk hk M2 h2 hf2 _ _
      refine w_State_moveTo_61 hK b hb _ _ _ M2 ?_
      refine ⟨by omega, by omega, fun q => ⟨by omega, ?_⟩, fun q => by omega⟩
      rintro M3 rfl
      refine ⟨rfl, RS_mv hn hf hp hS (fun q hq => ?_) (hf2.tr (FrC.up rfl)), hf2.tr (FrC.up rfl)⟩
      rw [upr_eq, if_pos rfl, up1_eq, Int.toNat_natCast]
      unfold src
      by_cases e : q = p
      · rw [if_pos e, if_pos e, (hS.2 f hf).1, hh]
      · rw [if_neg e, if_neg e, h2 q hq]
        by_cases c1 : f ≤ q ∧ q < p
        · rw [if_pos c1, if_neg (by omega), if_pos c1]
        · rw [if_neg c1]
          by_cases c2 : p < q ∧ q ≤ f
          · simp only [if_pos c2, if_neg c1, if_pos (show 0 < q ∧ q ≤ f by omega)]
          · rw [if_neg c2, if_neg (by omega), if_neg c1]
    | succ k ih =>
      intro hpk hk M2 h2 hf2 hx _
      refine w_State_moveTo_61 hK b hb _ _ _ M2 ?_
      refine ⟨by omega, by omega, fun q => ⟨by omega, ?_⟩, fun q => ⟨by omega, by omega, ?_⟩⟩
      · rintro M3 rfl
        refine ⟨rfl, RS_mv hn hf hp hS (fun q hq => ?_) (hf2.tr (FrC.up rfl)), hf2.tr (FrC.up rfl)⟩
        rw [upr_eq, if_pos rfl, up1_eq, Int.toNat_natCast]
        unfold src
        by_cases e : q = p
        · rw [if_pos e, if_pos e, (hS.2 f hf).1, hh]
        · rw [if_neg e, if_neg e, h2 q hq]
          by_cases c1 : f ≤ q ∧ q < p
          · rw [if_pos c1, if_neg (by omega), if_pos c1]
          · rw [if_neg c1]
            by_cases c2 : p < q ∧ q ≤ f
            · simp only [if_pos c2, if_neg c1, if_pos (show k + 1 < q ∧ q ≤ f by omega)]
            · rw [if_neg c2, if_neg (by omega), if_neg c1]
      · rintro M3 rfl
        have e1 : ((k + 1 : Nat) : Int) + (-1) = (k : Int) := by omega
        rw [e1]
        refine ih (by omega) (by omega) _ (fun q hq => ?_) (hf2.tr (FrC.up rfl)) (by omega) (fun _ => trivial)
        rw [upr_eq, if_pos rfl, up1_eq, show (((k + 1 : Nat) : Int) - 1).toNat = k by omega, Int.toNat_natCast]
        by_cases e : q = k + 1
        · rw [if_pos e, h2 k (by omega), if_neg (by omega), if_neg (by omega), if_pos (by omega)]
          congr 1; omega
        · rw [if_neg e, h2 q hq]
          by_cases c1 : k < q ∧ q ≤ f
          · rw [if_pos c1, if_pos (by omega)]
          · rw [if_neg c1, if_neg (by omega)]
  have k29 : ∀ k, k ≤ max f p → f ≤ k → ∀ M2 : Mm, (∀ q, q < n → M2 (b + 4) q = if f ≤ q ∧ q < k then M1 (b + 4) (q + 1) else M1 (b + 4) q) → FrC (fun c => c = b + 4) M1 M2 → K NN RRC 29 [(0, vr b), (1, vi (h : Int)), (2, vi (p : Int)), (4, vi (f : Int)), (5, vi (k : Int))] [] M2 := by
    refine up_ind (n := max f p) ?_ ?_
    · intro hfk M2 h2 hf2
      refine w_State_moveTo_29 hK b hb _ _ _ _ M2 ?_
      refine ⟨by omega, by omega, fun _ => ?_, fun q => by omega⟩
      by_cases hc : f < p
      · -- nothing to shift back
        refine w_State_moveTo_61 hK b hb _ _ _ M2 ?_
        refine ⟨by omega, by omega, fun q => ⟨by omega, ?_⟩, fun q => by omega⟩
        rintro M3 rfl
        refine ⟨rfl, RS_mv hn hf hp hS (fun q hq => ?_) (hf2.tr (FrC.up rfl)), hf2.tr (FrC.up rfl)⟩
        rw [upr_eq, if_pos rfl, up1_eq, Int.toNat_natCast]
        unfold src
        by_cases e : q = p
        · rw [if_pos e, if_pos e, (hS.2 f hf).1, hh]
        · rw [if_neg e, if_neg e, h2 q hq]
          by_cases c1 : f ≤ q ∧ q < p
          · rw [if_pos c1, if_pos (by omega)]
          · rw [if_neg c1, if_neg (by omega), if_neg (by omega)]
      · refine k61 f (by omega) (by omega) M2 (fun q hq => ?_) hf2 (by omega) (fun _ => trivial)
        rw [h2 q hq, if_neg (by omega), if_neg (by omega), if_neg (by omega)]
    · intro k hk ih hfk M2 h2 hf2
      refine w_State_moveTo_29 hK b hb _ _ _ _ M2 ?_
      refine ⟨by omega, by omega, fun q => by omega, fun q => ⟨by omega, by omega, ?_⟩⟩
      rintro M3 rfl
      refine ih (by omega) _ (fun q hq => ?_) (hf2.tr (FrC.up rfl))
      rw [upr_eq, if_pos rfl, up1_eq, show ((k : Int) + 1).toNat = k + 1 by omega, Int.toNat_natCast]
      by_cases e : q = k
      · rw [if_pos e, h2 (k + 1) (by omega), if_neg (by omega), if_pos (by omega)]
        congr 1; omega
      · rw [if_neg e, h2 q hq]
        by_cases c1 : f ≤ q ∧ q < k
        · rw [if_pos c1, if_pos (by omega)]
        · rw [if_neg c1, if_neg (by omega)]
  refine ⟨by omega, fun q => by omega, fun q => ⟨by omega, fun q => by omega, fun q => ⟨by omega, by omega, fun _ => ?_, fun q => by omega⟩⟩⟩
  exact k29 f (by omega) (by omega) M1 (fun q hq => by rw [if_neg (by omega)]) FrC.rf
