def prb (t : TT) (σ : Nat → Int) (by_ : Int) (h : Nat) : Int := if by_ = -1 then 0 else prt t σ by_.toNat h
def pr1 (t : TT) (σ : Nat → Int) (by_ : Int) (h : Nat) : Nat → Int := up1 (up1 (up1 σ (19 + h) (σ (19 + h) - prs t σ h)) 2 (min (σ 2 + prs t σ h) 999)) (26 + h) (min (σ (26 + h) + prb t σ by_ h) 99)
def pr2 (t : TT) (σ : Nat → Int) (h : Nat) : Nat → Int := if tkind t h = 2 then up1 σ 1 (min (σ 1 + 1) 20) else σ
def pr3 (t : TT) (σ : Nat → Int) (h : Nat) : Nat → Int := if tkind t h = 1 ∧ σ 1 < σ (12 + h) then up1 σ (12 + h) (σ (12 + h) - 1) else σ
def pr (t : TT) (σ : Nat → Int) (by_ : Int) (h : Nat) : Nat → Int := pr3 t (pr2 t (pr1 t σ by_ h) h) h
theorem prs_in {t : TT} {σ : Nat → Int} {h : Nat} (h0 : 0 ≤ σ (19 + h)) : 0 ≤ prs t σ h ∧ prs t σ h ≤ σ (19 + h) := by unfold prs; omega
theorem prt_in {t : TT} {σ : Nat → Int} {a h : Nat} : 0 ≤ prt t σ a h ∧ prt t σ a h ≤ 9 := by unfold prt; split <;> omega
theorem prb_in {t : TT} {σ : Nat → Int} {a : Int} {h : Nat} : 0 ≤ prb t σ a h ∧ prb t σ a h ≤ 9 := by
  unfold prb; split
  · omega
  · exact prt_in
theorem pr1_WF {t : TT} {n B : Nat} {σ : Nat → Int} (hw : WF n B σ) (hn : n ≤ 7) {h : Nat} (hh : h < n) (a : Int) : WF n B (pr1 t σ a h) := by
  have w5 := hw.2.2.2.2.1 h hh
  have w3 := hw.2.2.1
  have p1 := prs_in (t := t) (σ := σ) (h := h) w5.2.2.2.2.1
  have p2 := prb_in (t := t) (σ := σ) (a := a) (h := h)
  exact ((hw.wet (by omega) hn (by omega)).pts hn (by omega)).prn (by omega) hn (by omega)
theorem pr2_WF {t : TT} {n B : Nat} {σ : Nat → Int} (hw : WF n B σ) (hn : n ≤ 7) {h : Nat} : WF n B (pr2 t σ h) := by
  have w2 := hw.2.1
  unfold pr2; split
  · exact hw.gap hn (by omega)
  · exact hw
theorem pr3_WF {t : TT} {n B : Nat} {σ : Nat → Int} (hw : WF n B σ) (hn : n ≤ 7) {h : Nat} (hh : h < n) : WF n B (pr3 t σ h) := by
  have w2 := hw.2.1
  have w5 := hw.2.2.2.2.1 h hh
  unfold pr3; split
  · exact hw.thk (by omega) hn (by omega)
  · exact hw
theorem pr_WF {t : TT} {n B : Nat} {σ : Nat → Int} (hw : WF n B σ) (hn : n ≤ 7) {h : Nat} (hh : h < n) (a : Int) : WF n B (pr t σ a h) := pr3_WF (pr2_WF (pr1_WF hw hn hh a) hn) hn hh
/-- what a pressing leaves: the road and the order -/
theorem pr_keep {t : TT} {σ : Nat → Int} {a : Int} {h : Nat} (hh : h < 7) : (pr t σ a h) 4 = σ 4 ∧ (∀ p, p < 7 → (pr t σ a h) (5 + p) = σ (5 + p)) ∧ (pr t σ a h) 0 = σ 0 ∧ (pr t σ a h) 3 = σ 3 := by
  have k1 : ∀ i, i ≠ 1 → i ≠ 2 → i ≠ 12 + h → i ≠ 19 + h → i ≠ 26 + h → (pr t σ a h) i = σ i := by
    intro i h1 h2 h3 h4 h5
    have e3 : (pr t σ a h) i = (pr2 t (pr1 t σ a h) h) i := by
      unfold pr pr3; split
      · rw [up1_eq, if_neg h3]
      · rfl
    have e2 : (pr2 t (pr1 t σ a h) h) i = (pr1 t σ a h) i := by
      unfold pr2; split
      · rw [up1_eq, if_neg h1]
      · rfl
    rw [e3, e2]
    unfold pr1
    rw [up1_eq, if_neg h5, up1_eq, if_neg h2, up1_eq, if_neg h4]
  refine ⟨k1 4 (by omega) (by omega) (by omega) (by omega) (by omega), fun p hp => k1 _ (by omega) (by omega) (by omega) (by omega) (by omega), k1 0 (by omega) (by omega) (by omega) (by omega) (by omega), k1 3 (by omega) (by omega) (by omega) (by omega) (by omega)⟩
theorem c_takeOut {n B : Nat} {σ : Nat → Int} {M : Mm} {b h : Nat} {x : Int} (hb : At shC NN b (.inl 5)) (hS : RS n σ M b) (hw : WF n B σ) (hn : n ≤ 7) (hh : h < n) (hx : 0 ≤ x ∧ x ≤ 99) :
    S_State_takeOut b (h : Int) x M (fun M' => RS n (up1 (up1 σ (19 + h) (σ (19 + h) - x)) 2 (min (σ 2 + x) 999)) M' b ∧ FrC (fun c => c = b ∨ c = b + 2) M M') := by
  refine W_State_takeOut b hb _ _ M ?_
  rw [Int.toNat_natCast, (hS.2 h hh).2.2.1]
  refine ⟨by omega, by omega, ?_⟩
  rintro M1 rfl
  have e : ∀ g, (upr M (b + 2) g) b 7 = σ 2 := fun g => by rw [upr_eq, if_neg (by omega)]; exact hS.1.2.2.1
  rw [e]
  refine ⟨by have := hw.2.2.1; omega, ?_⟩
  rintro M2 rfl
  exact ⟨(hS.wet hn (by omega) _).pts _, (FrC.up (Or.inr rfl)).tr (FrC.up (Or.inl rfl))⟩
theorem c_printOn {n B : Nat} {σ : Nat → Int} {M : Mm} {b h : Nat} {x : Int} (hb : At shC NN b (.inl 5)) (hS : RS n σ M b) (hw : WF n B σ) (hn : n ≤ 7) (hh : h < n) (hx : 0 ≤ x ∧ x ≤ 9) :
    S_State_printOn b (h : Int) x M (fun M' => RS n (up1 σ (26 + h) (min (σ (26 + h) + x) 99)) M' b ∧ FrC (fun c => c = b + 3) M M') := by
  refine W_State_printOn b hb _ _ M ?_
  rw [Int.toNat_natCast, (hS.2 h hh).2.2.2]
  have w5 := hw.2.2.2.2.1 h hh
  refine ⟨by omega, by omega, by omega, ?_⟩
  rintro M1 rfl
  exact ⟨hS.prn hn (by omega) _, FrC.up rfl⟩
abbrev inS (b c : Nat) : Prop := b ≤ c ∧ c ≤ b + 4
theorem c_pressOne {t : TT} {B : Nat} {σ : Nat → Int} {M : Mm} {b b1 b2 h : Nat} {a : Int} (hb : At shC NN b (.inl 1)) (hb1 : At shC NN b1 (.inl 7)) (hb2 : At shC NN b2 (.inl 5)) (hT : RT t M b1) (hW : WT t) (hS : RS (tn t) σ M b2) (hw : WF (tn t) B σ) (hh : h < tn t) (ha : a = -1 ∨ (0 ≤ a ∧ a < tn t)) :
    S_Mangle_pressOne b b1 b2 a (h : Int) M (fun M' => RS (tn t) (pr t σ a h) M' b2 ∧ RT t M' b1 ∧ M' b 0 = M b 0 + prs t σ h ∧ (M' b 1 = M b 1 + prb t σ a h ∧ ∀ k, 2 ≤ k → M' b k = M b k) ∧ FrC (fun c => c = b ∨ c = b1 + 10 ∨ c = b1 + 13 ∨ inS b2 c) M M') := by
  have hn := hW.1
  have w5 := hw.2.2.2.2.1 h hh
  have p1 := prs_in (t := t) (σ := σ) (h := h) w5.2.2.2.2.1
  have p2 := prb_in (t := t) (σ := σ) (a := a) (h := h)
  have lb := mangle_at hb
  have lb1 := town_at hb1
  have lb2 := st_at hb2
  refine e_Mangle_pressOne b b1 b2 _ _ M fun K hK => w_Mangle_pressOne_0 hK b hb b1 hb1 b2 hb2 _ _ M ?_
  refine ⟨_, c_pressedOut hb1 hb2 hT hS hw hn hh, ?_⟩
  rintro r1 M1 ⟨rfl, hf1⟩
  have hT1 : RT t M1 b1 := hT.fr (fun i h1 h2 => hf1 _ (by omega))
  have hS1 : RS (tn t) σ M1 b2 := hS.frC hf1 (fun i hi => by omega)
  have k26 : ∀ M2 : Mm, RT t M2 b1 → RS (tn t) σ M2 b2 → FrC (fun c => c = b1 + 10 ∨ c = b1 + 13) M M2 → K NN RRC 26 [(0, vr b), (1, vr b1), (2, vr b2), (4, vi (h : Int)), (5, vi (prs t σ h))] [vi (prb t σ a h)] M2 := by
    intro M2 hT2 hS2 hf2
    refine w_Mangle_pressOne_26 hK b hb b1 hb1 b2 hb2 _ _ _ M2 ?_
    refine ⟨_, c_takeOut hb2 hS2 hw hn hh (by omega), ?_⟩
    rintro M3 ⟨hS3, hf3⟩
    have hw3 : WF (tn t) B (up1 (up1 σ (19 + h) (σ (19 + h) - prs t σ h)) 2 (min (σ 2 + prs t σ h) 999)) := (hw.wet (by omega) hn (by omega)).pts hn (by have := hw.2.2.1; omega)
    refine ⟨_, c_printOn hb2 hS3 hw3 hn hh p2, ?_⟩
    rintro M4 ⟨hS4, hf4⟩
    have e4 : up1 (up1 (up1 σ (19 + h) (σ (19 + h) - prs t σ h)) 2 (min (σ 2 + prs t σ h) 999)) (26 + h) (min ((up1 (up1 σ (19 + h) (σ (19 + h) - prs t σ h)) 2 (min (σ 2 + prs t σ h) 999)) (26 + h) + prb t σ a h) 99) = pr1 t σ a h := by
      unfold pr1
      rw [up1_eq (up1 σ (19 + h) (σ (19 + h) - prs t σ h)), if_neg (by omega), up1_eq σ, if_neg (by omega)]
    rw [e4] at hS4
    rintro M5 rfl M6 rfl
    have hf6 : FrC (fun c => c = b ∨ c = b1 + 10 ∨ c = b1 + 13 ∨ inS b2 c) M (upr (upr M4 b (up1 (M4 b) 0 (M4 b 0 + prs t σ h))) b (up1 (upr M4 b (up1 (M4 b) 0 (M4 b 0 + prs t σ h)) b) 1 (upr M4 b (up1 (M4 b) 0 (M4 b 0 + prs t σ h)) b 1 + prb t σ a h))) :=
      ((((hf2.wk (fun c hc => by omega)).tr (hf3.wk (fun c hc => by omega))).tr (hf4.wk (fun c hc => by omega))).tr (FrC.up (Or.inl rfl))).tr (FrC.up (Or.inl rfl))
    have hS6 : RS (tn t) (pr1 t σ a h) (upr (upr M4 b (up1 (M4 b) 0 (M4 b 0 + prs t σ h))) b (up1 (upr M4 b (up1 (M4 b) 0 (M4 b 0 + prs t σ h)) b) 1 (upr M4 b (up1 (M4 b) 0 (M4 b 0 + prs t σ h)) b 1 + prb t σ a h))) b2 :=
      hS4.fr (fun i hi => by rw [upr_eq, if_neg (by omega), upr_eq, if_neg (by omega)])
    have h40 : M4 b = M b := by rw [hf4 b (by omega), hf3 b (by omega), hf2 b (by omega)]
    have hb0 : (upr (upr M4 b (up1 (M4 b) 0 (M4 b 0 + prs t σ h))) b (up1 (upr M4 b (up1 (M4 b) 0 (M4 b 0 + prs t σ h)) b) 1 (upr M4 b (up1 (M4 b) 0 (M4 b 0 + prs t σ h)) b 1 + prb t σ a h))) b 0 = M b 0 + prs t σ h ∧ ((upr (upr M4 b (up1 (M4 b) 0 (M4 b 0 + prs t σ h))) b (up1 (upr M4 b (up1 (M4 b) 0 (M4 b 0 + prs t σ h)) b) 1 (upr M4 b (up1 (M4 b) 0 (M4 b 0 + prs t σ h)) b 1 + prb t σ a h))) b 1 = M b 1 + prb t σ a h ∧ ∀ k, 2 ≤ k → (upr (upr M4 b (up1 (M4 b) 0 (M4 b 0 + prs t σ h))) b (up1 (upr M4 b (up1 (M4 b) 0 (M4 b 0 + prs t σ h)) b) 1 (upr M4 b (up1 (M4 b) 0 (M4 b 0 + prs t σ h)) b 1 + prb t σ a h))) b k = M b k) := by
      rw [h40]
      refine ⟨by simp [upr_eq, up1_eq], by simp [upr_eq, up1_eq], fun k hk => ?_⟩
      rw [upr_eq, if_pos rfl, up1_eq, if_neg (by omega), upr_eq, if_pos rfl, up1_eq, if_neg (by omega)]
    have hT6 : RT t (upr (upr M4 b (up1 (M4 b) 0 (M4 b 0 + prs t σ h))) b (up1 (upr M4 b (up1 (M4 b) 0 (M4 b 0 + prs t σ h)) b) 1 (upr M4 b (up1 (M4 b) 0 (M4 b 0 + prs t σ h)) b 1 + prb t σ a h))) b1 :=
      hT2.fr (fun i h1 h2 => by rw [upr_eq, if_neg (by omega), upr_eq, if_neg (by omega), hf4 _ (by omega), hf3 _ (by omega)])
    revert hf6 hS6 hb0 hT6
    generalize (upr (upr M4 b (up1 (M4 b) 0 (M4 b 0 + prs t σ h))) b (up1 (upr M4 b (up1 (M4 b) 0 (M4 b 0 + prs t σ h)) b) 1 (upr M4 b (up1 (M4 b) 0 (M4 b 0 + prs t σ h)) b 1 + prb t σ a h))) = M6
    intro hf6 hS6 hb0 hT6
    have w1 := pr1_WF (t := t) hw hn hh a
    have hk := hW.2.1 h hh
    rw [Int.toNat_natCast, (hT6.2.1 h hh).1]
    have k92 : ∀ M7 : Mm, RT t M7 b1 → RS (tn t) (pr2 t (pr1 t σ a h) h) M7 b2 → M7 b = M6 b → FrC (fun c => c = b ∨ c = b1 + 10 ∨ c = b1 + 13 ∨ inS b2 c) M M7 → K NN RRC 92 [(1, vr b1), (2, vr b2), (4, vi (h : Int))] [] M7 := by
      intro M7 hT7 hS7 hb7 hf7
      refine w_Mangle_pressOne_92 hK b1 hb1 b2 hb2 _ M7 ?_
      have w2 := pr2_WF (t := t) (h := h) w1 hn
      have w25 := w2.2.2.2.2.1 h hh
      have w22 := w2.2.1
      rw [Int.toNat_natCast, (hT7.2.1 h hh).1, (hS7.2 h hh).2.1, hS7.1.2.1]
      refine ⟨by omega, by omega, fun q => ?_, fun q => ⟨by omega, by omega, by omega, fun q2 => ?_, fun q2 => ⟨by omega, by omega, ?_⟩⟩⟩
      · refine ⟨?_, hT7, by rw [hb7]; exact hb0.1, by rw [hb7]; exact hb0.2, hf7⟩
        unfold pr pr3
        rw [if_neg (by omega)]; exact hS7
      · refine ⟨?_, hT7, by rw [hb7]; exact hb0.1, by rw [hb7]; exact hb0.2, hf7⟩
        unfold pr pr3
        rw [if_neg (by omega)]; exact hS7
      · rintro M8 rfl
        refine ⟨?_, hT7.fr (fun i h1 h2 => by rw [upr_eq, if_neg (by omega)]), by rw [upr_eq, if_neg (by omega), hb7]; exact hb0.1, by rw [upr_eq, if_neg (by omega), hb7]; exact hb0.2, hf7.tr (FrC.up (by omega))⟩
        unfold pr pr3
        rw [if_pos (by omega)]
        exact hS7.thk hn (by omega) _
    refine ⟨by omega, by omega, fun q => k92 _ hT6 ?_ rfl hf6, fun q => ?_⟩
    · unfold pr2; rw [if_neg q]; exact hS6
    · rw [hS6.1.2.1]
      have w12 := w1.2.1
      refine ⟨by omega, ?_⟩
      rintro M7 rfl
      refine k92 _ (hT6.fr (fun i h1 h2 => by rw [upr_eq, if_neg (by omega)])) ?_ (by rw [upr_eq, if_neg (by omega)]) (hf6.tr (FrC.up (by omega)))
      unfold pr2; rw [if_pos q]
      exact hS6.gap _
  refine ⟨by omega, fun q => ?_, fun q => ?_⟩
  · obtain ⟨a', rfl⟩ : ∃ a' : Nat, a = (a' : Int) := ⟨a.toNat, by omega⟩
    refine ⟨_, c_printedOn hb1 hb2 hT1 hW hS1 hw (by omega) hh, ?_⟩
    rintro r2 M2 ⟨rfl, hf2⟩
    have e : prt t σ a' h = prb t σ (a' : Int) h := by unfold prb; rw [if_neg q, Int.toNat_natCast]
    rw [e]
    exact k26 M2 (hT1.fr (fun i h1 h2 => hf2 _ (by omega))) (hS1.frC hf2 (fun i hi => by omega)) ((hf1.wk (fun c hc => Or.inl hc)).tr (hf2.wk (fun c hc => Or.inr hc)))
  · have e : (0 : Int) = prb t σ a h := by unfold prb; rw [if_pos q]
    rw [e]
    exact k26 M1 hT1 hS1 (hf1.wk (fun c hc => Or.inl hc))
