theorem m_signAt {tx : TX} {N : Mm} {i : Nat} (ht : ∀ j, j < tx.2 → N 2 j = tx.1 j) (h3 : N 1 3 = (tx.2 : Int)) (hW : WX tx) (hi : i ≤ 1000) : S_Mod_signAt (i : Int) N (fun r N' => N' = N ∧ r = if tx.2 ≤ i then 0 else tx.1 i) := by
  have h1000 := hW.1
  refine W_Mod_signAt _ N ?_
  rw [h3, Int.toNat_natCast]
  refine ⟨by omega, by omega, fun z => ⟨rfl, ?_⟩, fun z => ⟨by omega, rfl, ?_⟩⟩
  · rw [if_pos (by omega)]
  · rw [if_neg (by omega)]; exact ht i (by omega)
theorem m_tokW {tx : TX} {b : Nat} {N : Mm} {K : Nat → Rr → Nat → List (Nat × AV) → List AV → Mm → Prop} {P : Mm → Prop} (hK : EK shM yX12_nextToken cX12_nextToken 2 none 2 NM NM (QV RRM P) K) (hW : WX tx) (ht : ∀ j, j < tx.2 → N 2 j = tx.1 j) (h3 : N 1 3 = (tx.2 : Int)) (h5 : N 1 5 = (b : Int)) (h4 : N 1 4 = (b : Int)) (h7 : N 1 7 = 0) (hb : b ≤ tx.2)
    (fin : ∀ N' : Mm, N' 1 4 = (sc isL tx b : Int) → N' 1 6 = (if sc isL tx b - b ≤ 8 then 1 else 4) → (sc isL tx b - b ≤ 8 → N' 1 7 = enc 27 (lwd tx.1 b (sc isL tx b - b))) → FrM (fun _ => False) (fun k => k = 4 ∨ k = 6 ∨ k = 7) N N' → P N') : K NM RRM 109 [(0, vr 1)] [] N := by
  have h1000 := hW.1
  have key : ∀ k i, i + k = tx.2 → b ≤ i → sc isL tx b = sc isL tx i → ∀ N2 : Mm, N2 1 4 = (i : Int) → N2 1 7 = enc 27 (lwd tx.1 b (min (i - b) 8)) → FrM (fun _ => False) (fun k => k = 4 ∨ k = 6 ∨ k = 7) N N2 → K NM RRM 109 [(0, vr 1)] [] N2 := by
    have last : ∀ i, i ≤ tx.2 → b ≤ i → sc isL tx b = i → ∀ N2 : Mm, N2 1 4 = (i : Int) → N2 1 7 = enc 27 (lwd tx.1 b (min (i - b) 8)) → FrM (fun _ => False) (fun k => k = 4 ∨ k = 6 ∨ k = 7) N N2 → K NM RRM 188 [(0, vr 1)] [] N2 := by
      intro i hi hbi he N2 s1 s2 s3
      have e5 : N2 1 5 = (b : Int) := by rw [s3.2 5 (by omega)]; exact h5
      refine w_Mod_nextToken_188 hK N2 ?_
      rw [s1, e5]
      refine ⟨by omega, fun z => ?_, fun z => ?_⟩
      · rintro N3 rfl
        refine fin _ ?_ ?_ (fun h8 => ?_) (s3.tr (FrM.u1 (Or.inr (Or.inl rfl))))
        · rw [upr_eq, if_pos rfl, up1_eq, if_neg (by omega), s1, he]
        · rw [upr_eq, if_pos rfl, up1_eq, if_pos rfl, if_pos (by omega)]
        · rw [upr_eq, if_pos rfl, up1_eq, if_neg (by omega), s2, he, show min (i - b) 8 = i - b by omega]
      · rintro N3 rfl
        refine fin _ ?_ ?_ (fun h8 => by omega) (s3.tr (FrM.u1 (Or.inr (Or.inl rfl))))
        · rw [upr_eq, if_pos rfl, up1_eq, if_neg (by omega), s1, he]
        · rw [upr_eq, if_pos rfl, up1_eq, if_pos rfl, if_neg (by omega)]
    intro k
    induction k with
    | zero =>
      intro i hk hbi he N2 s1 s2 s3
      have e3 : N2 1 3 = (tx.2 : Int) := by rw [s3.2 3 (by omega)]; exact h3
      rw [sc_n (i := i) (by omega)] at he
      refine w_Mod_nextToken_109 hK N2 ?_
      rw [s1]
      refine ⟨_, m_signAt (tx := tx) (N := N2) (i := i) (fun j hj => by rw [s3.1 2 (by omega) (fun z => z)]; exact ht j hj) e3 hW (by omega), ?_⟩
      rintro r N3 ⟨rfl, rfl⟩
      rw [if_pos (by omega)]
      exact ⟨by decide, fun _ => last i (by omega) hbi he N3 s1 s2 s3, fun z => by omega⟩
    | succ k ih =>
      intro i hk hbi he N2 s1 s2 s3
      have hg := hW.2 i (by omega)
      have e3 : N2 1 3 = (tx.2 : Int) := by rw [s3.2 3 (by omega)]; exact h3
      have e5 : N2 1 5 = (b : Int) := by rw [s3.2 5 (by omega)]; exact h5
      have sg := m_signAt (tx := tx) (N := N2) (i := i) (fun j hj => by rw [s3.1 2 (by omega) (fun z => z)]; exact ht j hj) e3 hW (by omega)
      rw [if_neg (by omega)] at sg
      have fl : ¬ isL (tx.1 i) = true → K NM RRM 188 [(0, vr 1)] [] N2 := fun hn => last i (by omega) hbi (by rw [he, sc_n (fun z => hn z.2)]) N2 s1 s2 s3
      refine w_Mod_nextToken_109 hK N2 ?_
      rw [s1]
      refine ⟨_, sg, ?_⟩
      rintro r N3 ⟨rfl, rfl⟩
      refine ⟨by omega, fun z => fl (fun y => by have := of_decide_eq_true y; omega), fun z => ?_⟩
      rw [s1]
      refine ⟨_, sg, ?_⟩
      rintro r N4 ⟨rfl, rfl⟩
      refine ⟨by omega, fun z2 => fl (fun y => by have := of_decide_eq_true y; omega), fun z2 => ?_⟩
      have hli : isL (tx.1 i) = true := decide_eq_true (by omega)
      have he2 : sc isL tx b = sc isL tx (i + 1) := by rw [he, sc_y (by omega) hli]
      rw [s1, e5]
      refine ⟨by omega, fun z3 => ?_, fun z3 => ⟨_, sg, ?_⟩⟩
      · rintro N5 rfl
        refine ih (i + 1) (by omega) (by omega) he2 _ ?_ ?_ (s3.tr (FrM.u1 (Or.inl rfl)))
        · rw [upr_eq, if_pos rfl, up1_eq, if_pos rfl]; rfl
        · rw [upr_eq, if_pos rfl, up1_eq, if_neg (by omega), s2, show min (i - b) 8 = 8 by omega, show min (i + 1 - b) 8 = 8 by omega]
      · rintro r N5 ⟨rfl, rfl⟩
        refine ⟨by omega, ?_⟩
        rintro N6 rfl N7 rfl
        refine ih (i + 1) (by omega) (by omega) he2 _ ?_ ?_ ((s3.tr (FrM.u1 (Or.inr (Or.inr rfl)))).tr (FrM.u1 (Or.inl rfl)))
        · rw [upr_eq, if_pos rfl, up1_eq, if_pos rfl, upr_eq, if_pos rfl, up1_eq, if_neg (by omega), s1]; rfl
        · rw [upr_eq, if_pos rfl, up1_eq, if_neg (by omega), upr_eq, if_pos rfl, up1_eq, if_pos rfl, s2, show min (i - b) 8 = i - b by omega, show min (i + 1 - b) 8 = (i - b) + 1 by omega, lwd, enc_app, show b + (i - b) = i by omega]
          omega
  exact key (tx.2 - b) b (by omega) (Nat.le_refl _) rfl N h4 (by rw [h7, Nat.sub_self]; rfl) FrM.rf
theorem m_tokN {tx : TX} {b : Nat} {N : Mm} {K : Nat → Rr → Nat → List (Nat × AV) → List AV → Mm → Prop} {P : Mm → Prop} (hK : EK shM yX12_nextToken cX12_nextToken 2 none 2 NM NM (QV RRM P) K) (hW : WX tx) (ht : ∀ j, j < tx.2 → N 2 j = tx.1 j) (h3 : N 1 3 = (tx.2 : Int)) (h5 : N 1 5 = (b : Int)) (h4 : N 1 4 = (b : Int)) (h7 : N 1 8 = 0) (hb : b ≤ tx.2)
    (fin : ∀ N' : Mm, N' 1 4 = (sc isD tx b : Int) → N' 1 6 = (if sc isD tx b - b ≤ 4 then 2 else 4) → (sc isD tx b - b ≤ 4 → N' 1 8 = dvd_ tx.1 b (sc isD tx b - b)) → FrM (fun _ => False) (fun k => k = 4 ∨ k = 6 ∨ k = 8) N N' → P N') : K NM RRM 224 [(0, vr 1)] [] N := by
  have h1000 := hW.1
  have key : ∀ k i, i + k = tx.2 → b ≤ i → sc isD tx b = sc isD tx i → ∀ N2 : Mm, N2 1 4 = (i : Int) → N2 1 8 = dvd_ tx.1 b (min (i - b) 4) → FrM (fun _ => False) (fun k => k = 4 ∨ k = 6 ∨ k = 8) N N2 → K NM RRM 224 [(0, vr 1)] [] N2 := by
    have last : ∀ i, i ≤ tx.2 → b ≤ i → sc isD tx b = i → ∀ N2 : Mm, N2 1 4 = (i : Int) → N2 1 8 = dvd_ tx.1 b (min (i - b) 4) → FrM (fun _ => False) (fun k => k = 4 ∨ k = 6 ∨ k = 8) N N2 → K NM RRM 299 [(0, vr 1)] [] N2 := by
      intro i hi hbi he N2 s1 s2 s3
      have e5 : N2 1 5 = (b : Int) := by rw [s3.2 5 (by omega)]; exact h5
      refine w_Mod_nextToken_299 hK N2 ?_
      rw [s1, e5]
      refine ⟨by omega, fun z => ?_, fun z => ?_⟩
      · rintro N3 rfl
        refine fin _ ?_ ?_ (fun h8 => ?_) (s3.tr (FrM.u1 (Or.inr (Or.inl rfl))))
        · rw [upr_eq, if_pos rfl, up1_eq, if_neg (by omega), s1, he]
        · rw [upr_eq, if_pos rfl, up1_eq, if_pos rfl, if_pos (by omega)]
        · rw [upr_eq, if_pos rfl, up1_eq, if_neg (by omega), s2, he, show min (i - b) 4 = i - b by omega]
      · rintro N3 rfl
        refine fin _ ?_ ?_ (fun h8 => by omega) (s3.tr (FrM.u1 (Or.inr (Or.inl rfl))))
        · rw [upr_eq, if_pos rfl, up1_eq, if_neg (by omega), s1, he]
        · rw [upr_eq, if_pos rfl, up1_eq, if_pos rfl, if_neg (by omega)]
    intro k
    induction k with
    | zero =>
      intro i hk hbi he N2 s1 s2 s3
      have e3 : N2 1 3 = (tx.2 : Int) := by rw [s3.2 3 (by omega)]; exact h3
      rw [sc_n (i := i) (by omega)] at he
      refine w_Mod_nextToken_224 hK N2 ?_
      rw [s1]
      refine ⟨_, m_signAt (tx := tx) (N := N2) (i := i) (fun j hj => by rw [s3.1 2 (by omega) (fun z => z)]; exact ht j hj) e3 hW (by omega), ?_⟩
      rintro r N3 ⟨rfl, rfl⟩
      rw [if_pos (by omega)]
      exact ⟨by decide, fun _ => last i (by omega) hbi he N3 s1 s2 s3, fun z => by omega⟩
    | succ k ih =>
      intro i hk hbi he N2 s1 s2 s3
      have hg := hW.2 i (by omega)
      have e3 : N2 1 3 = (tx.2 : Int) := by rw [s3.2 3 (by omega)]; exact h3
      have e5 : N2 1 5 = (b : Int) := by rw [s3.2 5 (by omega)]; exact h5
      have sg := m_signAt (tx := tx) (N := N2) (i := i) (fun j hj => by rw [s3.1 2 (by omega) (fun z => z)]; exact ht j hj) e3 hW (by omega)
      rw [if_neg (by omega)] at sg
      have fl : ¬ isD (tx.1 i) = true → K NM RRM 299 [(0, vr 1)] [] N2 := fun hn => last i (by omega) hbi (by rw [he, sc_n (fun z => hn z.2)]) N2 s1 s2 s3
      refine w_Mod_nextToken_224 hK N2 ?_
      rw [s1]
      refine ⟨_, sg, ?_⟩
      rintro r N3 ⟨rfl, rfl⟩
      refine ⟨by omega, fun z => fl (fun y => by have := of_decide_eq_true y; omega), fun z => ?_⟩
      rw [s1]
      refine ⟨_, sg, ?_⟩
      rintro r N4 ⟨rfl, rfl⟩
      refine ⟨by omega, fun z2 => fl (fun y => by have := of_decide_eq_true y; omega), fun z2 => ?_⟩
      have hli : isD (tx.1 i) = true := decide_eq_true (by omega)
      have he2 : sc isD tx b = sc isD tx (i + 1) := by rw [he, sc_y (by omega) hli]
      rw [s1, e5]
      refine ⟨by omega, fun z3 => ?_, fun z3 => ⟨_, sg, ?_⟩⟩
      · rintro N5 rfl
        refine ih (i + 1) (by omega) (by omega) he2 _ ?_ ?_ (s3.tr (FrM.u1 (Or.inl rfl)))
        · rw [upr_eq, if_pos rfl, up1_eq, if_pos rfl]; rfl
        · rw [upr_eq, if_pos rfl, up1_eq, if_neg (by omega), s2, show min (i - b) 4 = 4 by omega, show min (i + 1 - b) 4 = 4 by omega]
      · rintro r N5 ⟨rfl, rfl⟩
        rintro N6 rfl N7 rfl
        refine ih (i + 1) (by omega) (by omega) he2 _ ?_ ?_ ((s3.tr (FrM.u1 (Or.inr (Or.inr rfl)))).tr (FrM.u1 (Or.inl rfl)))
        · rw [upr_eq, if_pos rfl, up1_eq, if_pos rfl, upr_eq, if_pos rfl, up1_eq, if_neg (by omega), s1]; rfl
        · rw [upr_eq, if_pos rfl, up1_eq, if_neg (by omega), upr_eq, if_pos rfl, up1_eq, if_pos rfl, s2, show min (i - b) 4 = i - b by omega, show min (i + 1 - b) 4 = (i - b) + 1 by omega, dvd_, show b + (i - b) = i by omega]
          omega
  exact key (tx.2 - b) b (by omega) (Nat.le_refl _) rfl N h4 (by rw [h7, Nat.sub_self]; rfl) FrM.rf
theorem m_nextToken {tx : TX} {p : Nat} {N : Mm} (hW : WX tx) (ht : ∀ j, j < tx.2 → N 2 j = tx.1 j) (h3 : N 1 3 = (tx.2 : Int)) (h4 : N 1 4 = (p : Int)) (hp : p ≤ tx.2) : S_Mod_nextToken N (fun N' => TpM tx p N' ∧ FrM (fun _ => False) (fun k => 4 ≤ k ∧ k ≤ 8) N N') := by
  have h1000 := hW.1
  have hok := te_ok hp
  refine e_Mod_nextToken N fun K hK => ?_
  have k52 : ∀ N2 : Mm, N2 1 4 = (tb_ tx p : Int) → FrM (fun _ => False) (fun k => 4 ≤ k ∧ k ≤ 8) N N2 → K NM RRM 52 [(0, vr 1)] [] N2 := by
    intro N2 s1 s2
    refine w_Mod_nextToken_52 hK N2 ?_
    intro N3 g3 N4 g4 N5 g5
    have a3 : N5 1 3 = (tx.2 : Int) := by rw [g5, upr_eq, if_pos rfl, up1_eq, if_neg (by omega), g4, upr_eq, if_pos rfl, up1_eq, if_neg (by omega), g3, upr_eq, if_pos rfl, up1_eq, if_neg (by omega), s2.2 3 (by omega)]; exact h3
    have a4 : N5 1 4 = (tb_ tx p : Int) := by rw [g5, upr_eq, if_pos rfl, up1_eq, if_neg (by omega), g4, upr_eq, if_pos rfl, up1_eq, if_neg (by omega), g3, upr_eq, if_pos rfl, up1_eq, if_neg (by omega)]; exact s1
    have a5 : N5 1 5 = (tb_ tx p : Int) := by rw [g5, upr_eq, if_pos rfl, up1_eq, if_neg (by omega), g4, upr_eq, if_pos rfl, up1_eq, if_neg (by omega), g3, upr_eq, if_pos rfl, up1_eq, if_pos rfl]; exact s1
    have a7 : N5 1 7 = 0 := by rw [g5, upr_eq, if_pos rfl, up1_eq, if_neg (by omega), g4, upr_eq, if_pos rfl, up1_eq, if_pos rfl]
    have a8 : N5 1 8 = 0 := by rw [g5, upr_eq, if_pos rfl, up1_eq, if_pos rfl]
    have f5 : FrM (fun _ => False) (fun k => 4 ≤ k ∧ k ≤ 8) N N5 := by
      refine s2.tr ?_
      rw [g5, g4, g3]
      exact ((FrM.u1 (by omega)).tr (FrM.u1 (by omega))).tr (FrM.u1 (by omega))
    have tx5 : ∀ j, j < tx.2 → N5 2 j = tx.1 j := fun j hj => by rw [f5.1 2 (by omega) (fun z => z)]; exact ht j hj
    rw [a3, a4, Int.toNat_natCast]
    by_cases hend : tx.2 ≤ tb_ tx p
    · have ek : tk_ tx p = 0 := by unfold tk_; rw [if_pos hend]
      have ee : te_ tx p = tb_ tx p := by unfold te_; rw [if_pos hend]
      refine ⟨by omega, by omega, fun z => by omega, fun _ => ?_⟩
      rintro N6 rfl
      refine ⟨⟨fun j hj => by rw [upr_eq, if_neg (by omega)]; exact tx5 j hj, ?_, ?_, ?_, ?_, fun z => by omega, fun z => by omega⟩, f5.tr (FrM.u1 (by omega))⟩ <;> rw [upr_eq, if_pos rfl, up1_eq]
      · rw [if_neg (by omega)]; exact a3
      · rw [if_neg (by omega)]; exact a5
      · rw [if_neg (by omega), ee]; exact a4
      · rw [if_pos rfl, ek]; rfl
    · have hg := hW.2 (tb_ tx p) (by omega)
      rw [tx5 _ (by omega)]
      have k322 : ¬ isL (tx.1 (tb_ tx p)) = true → ¬ isD (tx.1 (tb_ tx p)) = true → K NM RRM 322 [(0, vr 1), (1, vi (tx.1 (tb_ tx p)))] [] N5 := by
        intro hnl hnd
        have ek : tk_ tx p = if isG (tx.1 (tb_ tx p)) = true then 4 else 1 := by unfold tk_; rw [if_neg hend, if_neg hnl, if_neg hnd]
        have ee : te_ tx p = tb_ tx p + 1 := by unfold te_; rw [if_neg hend, if_neg hnl, if_neg hnd]
        refine w_Mod_nextToken_322 hK _ N5 ?_
        rintro N6 rfl
        have fin : ∀ v : Int, v = (if isG (tx.1 (tb_ tx p)) = true then 3 else 4) → ∀ N7 : Mm, N7 = upr (upr N5 1 (up1 (N5 1) 4 (N5 1 4 + 1))) 1 (up1 ((upr N5 1 (up1 (N5 1) 4 (N5 1 4 + 1))) 1) 6 v) → TpM tx p N7 ∧ FrM (fun _ => False) (fun k => 4 ≤ k ∧ k ≤ 8) N N7 := by
          rintro v rfl N7 rfl
          refine ⟨⟨fun j hj => by rw [upr_eq, if_neg (by omega), upr_eq, if_neg (by omega)]; exact tx5 j hj, ?_, ?_, ?_, ?_, fun z => ?_, fun z => ?_⟩, (f5.tr (FrM.u1 (by omega))).tr (FrM.u1 (by omega))⟩
          · simpa [upr_eq, up1_eq] using a3
          · simpa [upr_eq, up1_eq] using a5
          · simp [upr_eq, up1_eq]; rw [a4, ee]; rfl
          · simp [upr_eq, up1_eq]; rw [ek]; split <;> rfl
          · rw [ek] at z; split at z <;> omega
          · rw [ek] at z; split at z <;> omega
        have k345 : ¬ (40 ≤ tx.1 (tb_ tx p) ∧ tx.1 (tb_ tx p) ≤ 43) → K NM RRM 345 [(1, vi (tx.1 (tb_ tx p)))] [vr 1] (upr N5 1 (up1 (N5 1) 4 (N5 1 4 + 1))) := by
          intro h40
          refine w_Mod_nextToken_345 hK _ _ ⟨by omega, fun z => fin 3 ?_, fun z => ⟨by omega, fun z2 => fin 4 ?_, fun z2 => ⟨by omega, fun z3 => fin 4 ?_, fun z3 => fin 3 ?_⟩⟩⟩
          · rw [if_pos (show isG (tx.1 (tb_ tx p)) = true from decide_eq_true (by omega))]
          · rw [if_neg (fun y => by have := of_decide_eq_true y; omega)]
          · rw [if_neg (fun y => by have := of_decide_eq_true y; omega)]
          · rw [if_pos (show isG (tx.1 (tb_ tx p)) = true from decide_eq_true (by omega))]
        exact ⟨by omega, fun z => k345 (by omega), fun z => ⟨by omega, fun z2 => fin 3 (by rw [if_pos (show isG (tx.1 (tb_ tx p)) = true from decide_eq_true (by omega))]), fun z2 => k345 (by omega)⟩⟩
      have k224 : ¬ isL (tx.1 (tb_ tx p)) = true → isD (tx.1 (tb_ tx p)) = true → K NM RRM 224 [(0, vr 1)] [] N5 := by
        intro hnl hd
        have ee : te_ tx p = sc isD tx (tb_ tx p) := by unfold te_; rw [if_neg hend, if_neg hnl, if_pos hd]
        have ek : tk_ tx p = if te_ tx p - tb_ tx p ≤ 4 then 3 else 1 := by unfold tk_; rw [if_neg hend, if_neg hnl, if_pos hd]
        have ev : tv_ tx p = dvd_ tx.1 (tb_ tx p) (te_ tx p - tb_ tx p) := by unfold tv_; rw [if_pos hd]
        refine m_tokN hK hW tx5 a3 a5 a4 a8 (by omega) ?_
        intro N6 b1 b2 b3 b4
        rw [← ee] at b1 b2 b3
        refine ⟨⟨fun j hj => by rw [b4.1 2 (by omega) (fun z => z)]; exact tx5 j hj, by rw [b4.2 3 (by omega)]; exact a3, by rw [b4.2 5 (by omega)]; exact a5, b1, ?_, fun z => by rw [ek] at z; split at z <;> omega, fun z => ?_⟩, f5.tr (b4.wk (fun c z => z) (fun k hk => by omega))⟩
        · rw [b2, ek]; split <;> rfl
        · rw [ev]; refine b3 ?_
          rw [ek] at z; split at z
          · assumption
          · omega
      have k109 : isL (tx.1 (tb_ tx p)) = true → K NM RRM 109 [(0, vr 1)] [] N5 := by
        intro hl
        have ee : te_ tx p = sc isL tx (tb_ tx p) := by unfold te_; rw [if_neg hend, if_pos hl]
        have ek : tk_ tx p = if te_ tx p - tb_ tx p ≤ 8 then 2 else 1 := by unfold tk_; rw [if_neg hend, if_pos hl]
        refine m_tokW hK hW tx5 a3 a5 a4 a7 (by omega) ?_
        intro N6 b1 b2 b3 b4
        rw [← ee] at b1 b2 b3
        refine ⟨⟨fun j hj => by rw [b4.1 2 (by omega) (fun z => z)]; exact tx5 j hj, by rw [b4.2 3 (by omega)]; exact a3, by rw [b4.2 5 (by omega)]; exact a5, b1, ?_, fun z => ?_, fun z => by rw [ek] at z; split at z <;> omega⟩, f5.tr (b4.wk (fun c z => z) (fun k hk => by omega))⟩
        · rw [b2, ek]; split <;> rfl
        · refine b3 ?_
          rw [ek] at z; split at z
          · assumption
          · omega
      have nl : (tx.1 (tb_ tx p) < 97 ∨ 122 < tx.1 (tb_ tx p)) → ¬ isL (tx.1 (tb_ tx p)) = true := fun h y => by have := of_decide_eq_true y; omega
      have nd : (tx.1 (tb_ tx p) < 48 ∨ 57 < tx.1 (tb_ tx p)) → ¬ isD (tx.1 (tb_ tx p)) = true := fun h y => by have := of_decide_eq_true y; omega
      refine ⟨by omega, by omega, fun _ => ⟨by omega, by omega, fun z => ⟨by omega, fun z2 => k322 (nl (by omega)) (nd (by omega)), fun z2 => ⟨by omega, fun z3 => k322 (nl (by omega)) (nd (by omega)), fun z3 => k224 (nl (by omega)) (decide_eq_true (by omega))⟩⟩, fun z => ⟨by omega, fun z2 => ⟨by omega, fun z3 => by omega, fun z3 => ⟨by omega, fun z4 => k322 (nl (by omega)) (nd (by omega)), fun z4 => by omega⟩⟩, fun z2 => k109 (decide_eq_true (by omega))⟩⟩, fun z => by omega⟩
  have key : ∀ k i, i + k = tx.2 → tb_ tx p = sc isB tx i → ∀ N2 : Mm, N2 1 4 = (i : Int) → FrM (fun _ => False) (fun k => 4 ≤ k ∧ k ≤ 8) N N2 → K NM RRM 0 [(0, vr 1)] [] N2 := by
    intro k
    induction k with
    | zero =>
      intro i hk he N2 s1 s2
      rw [sc_n (i := i) (by omega)] at he
      refine w_Mod_nextToken_0 hK N2 ?_
      rw [s1, s2.2 3 (by omega), h3]
      exact ⟨by omega, by omega, fun _ => k52 N2 (by rw [s1, he]) s2, fun z => by omega⟩
    | succ k ih =>
      intro i hk he N2 s1 s2
      have hg := hW.2 i (by omega)
      have e3 : N2 2 i = tx.1 i := by rw [s2.1 2 (by omega) (fun z => z)]; exact ht i (by omega)
      have go : isB (tx.1 i) = true → ∀ N3 : Mm, N3 = upr N2 1 (up1 (N2 1) 4 ((i : Int) + 1)) → K NM RRM 0 [(0, vr 1)] [] N3 := by
        rintro hb N3 rfl
        refine ih (i + 1) (by omega) (by rw [he, sc_y (by omega) hb]) _ ?_ (s2.tr (FrM.u1 (by omega)))
        rw [upr_eq, if_pos rfl, up1_eq, if_pos rfl]; rfl
      refine w_Mod_nextToken_0 hK N2 ?_
      rw [s1, s2.2 3 (by omega), h3, Int.toNat_natCast, e3]
      refine ⟨by omega, by omega, fun z => by omega, fun _ => ⟨by omega, by omega, fun z => go (decide_eq_true (Or.inr z)), fun z => ⟨by omega, by omega, fun z2 => k52 N2 ?_ s2, fun z2 => go (decide_eq_true (Or.inl z2))⟩⟩⟩
      rw [s1, he, sc_n (fun y => by have := of_decide_eq_true y.2; omega)]
  exact key (tx.2 - p) p (by omega) rfl N h4 FrM.rf
