theorem mk_le {k : Nat} : 0 ≤ mk_ k ∧ mk_ k ≤ 4 := by
  unfold mk_
  split
  · omega
  · split
    · omega
    · split
      · omega
      · split <;> omega
theorem mk_2 {k : Nat} (h : k ≤ 4) : (mk_ k = 1 ↔ k = 2) ∧ (mk_ k = 2 ↔ k = 3) ∧ (mk_ k = 3 ↔ k = 4) ∧ (mk_ k = 0 ↔ k = 0) := by
  have : ∀ k, k ≤ 4 → (mk_ k = 1 ↔ k = 2) ∧ (mk_ k = 2 ↔ k = 3) ∧ (mk_ k = 3 ↔ k = 4) ∧ (mk_ k = 0 ↔ k = 0) := by decide
  exact this k h
theorem cmp0 {x y : Int} : cmpL x y = 0 ↔ x = y := by
  unfold cmpL
  split
  · omega
  · split <;> omega
theorem m_isSign {tx : TX} {p : Nat} {N : Mm} {c : Int} (hW : WX tx) (hp : p ≤ tx.2) (hT : TpM tx p N) (hc : rng c) : S_Mod_isSign c N (fun r N' => N' = N ∧ r = zo (isS_ tx p c)) := by
  obtain ⟨h1, h3, h5, h4, h6, h7, h8⟩ := hT
  have htk := tk_le (tx := tx) (p := p)
  have hm := mk_2 htk
  have hml := mk_le (k := tk_ tx p)
  have hlen := hW.1
  refine W_Mod_isSign _ N ?_
  rw [h6, h5, Int.toNat_natCast]
  unfold isS_
  refine ⟨by omega, fun z => ⟨rfl, ?_⟩, fun z => ?_⟩
  · rw [decide_eq_false (fun y => z (hm.2.2.1.mpr y.1))]; rfl
  · have h4k := hm.2.2.1.mp z
    have hv := tv_sg hp hW h4k
    rw [h1 _ hv.2.1]
    refine ⟨by omega, by omega, hc, fun z2 => ⟨rfl, ?_⟩, fun z2 => ⟨rfl, ?_⟩⟩
    · rw [decide_eq_false (fun y => z2 (by rw [← hv.1]; exact y.2))]; rfl
    · rw [decide_eq_true ⟨h4k, by rw [hv.1]; exact z2⟩]; rfl
theorem w27_rL : ∀ o, o < 27 → rngL (w27.getD o 0) := by decide +kernel
theorem m_isWord {tx : TX} {p o : Nat} {N : Mm} (hp : p ≤ tx.2) (hT : TpM tx p N) (ho : 1 ≤ o) (ho2 : o < 27) : S_Mod_isWord (w27.getD o 0) N (fun r N' => N' = N ∧ r = zo (decide (wo_ tx p = o))) := by
  obtain ⟨h1, h3, h5, h4, h6, h7, h8⟩ := hT
  have htk := tk_le (tx := tx) (p := p)
  have hm := mk_2 htk
  have hml := mk_le (k := tk_ tx p)
  refine W_Mod_isWord _ N ?_
  rw [h6]
  refine ⟨by omega, fun z => ⟨rfl, ?_⟩, fun z => ?_⟩
  · rw [decide_eq_false (fun y => z (hm.1.mpr (wo_k (by omega))))]; rfl
  · have hk := hm.1.mp z
    have hok := tl_ok hp hk
    rw [h7 hk]
    have ew : wo_ tx p = spo (enc 32 (tl_ tx p)) := by unfold wo_; rw [if_pos hk]
    have hiff : enc 27 (tl_ tx p) = w27.getD o 0 ↔ wo_ tx p = o := by rw [w27_iff hok ho2, ew, spo_iff hok ho ho2]
    refine ⟨(enc_rL (Or.inl rfl) hok).2, w27_rL o ho2, fun z2 => ⟨rfl, ?_⟩, fun z2 => ⟨rfl, ?_⟩⟩
    · rw [decide_eq_false (fun y => z2 (cmp0.mpr (hiff.mpr y)))]; rfl
    · rw [decide_eq_true (hiff.mp (cmp0.mp z2))]; rfl
abbrev frF (N N' : Mm) : Prop := FrM (fun _ => False) (fun k => k = 9) N N'
theorem m_fails {tx : TX} {p : Nat} {N : Mm} {k : Int} (hT : TpM tx p N) : S_Mod_fails k N (fun r N' => r = 0 ∧ N' 1 9 = k + 16 * (tb_ tx p : Int) ∧ frF N N') := by
  refine W_Mod_fails _ N ?_
  rintro N1 rfl
  refine ⟨rfl, ?_, FrM.u1 rfl⟩
  rw [upr_eq, if_pos rfl, up1_eq, if_pos rfl, hT.2.2.1]
def appM (n : Nat) (N N' : Mm) (ms : List Int) : Prop := N' 1 21 = ((n + ms.length : Nat) : Int) ∧ (∀ i, i < n → N' 13 i = N 13 i) ∧ ∀ i, i < ms.length → N' 13 (n + i) = ms.getD i 0
theorem appM.tr {n : Nat} {M M1 M2 : Mm} {cs cs2 : List Int} (h1 : appM n M M1 cs) (h2 : appM (n + cs.length) M1 M2 cs2) : appM n M M2 (cs ++ cs2) := by
  obtain ⟨a1, a2, a3⟩ := h1
  obtain ⟨b1, b2, b3⟩ := h2
  refine ⟨by rw [b1, List.length_append]; omega, fun i hi => by rw [b2 i (by omega)]; exact a2 i hi, fun i hi => ?_⟩
  rw [List.length_append] at hi
  by_cases c : i < cs.length
  · rw [b2 (n + i) (by omega), a3 i c, getD_l c]
  · rw [getD_r (by omega)]
    have := b3 (i - cs.length) (by omega)
    rw [← this]
    congr 1; omega
theorem appM.fr {n : Nat} {M M1 M2 : Mm} {cs : List Int} (h : appM n M M1 cs) (e0 : M2 1 21 = M1 1 21) (e1 : M2 13 = M1 13) : appM n M M2 cs := by
  unfold appM
  rw [e0, e1]; exact h
theorem m_puts {n : Nat} {N : Mm} {x : Int} (h : N 1 21 = (n : Int)) (hn : n < 2000) : S_Mod_puts x N (fun N' => appM n N N' [x] ∧ FrM (fun c => c = 13) (fun k => k = 21) N N') := by
  refine W_Mod_puts _ N ?_
  rw [h, Int.toNat_natCast]
  refine ⟨by omega, ?_⟩
  rintro N1 rfl N2 rfl
  refine ⟨⟨?_, fun i hi => ?_, fun i hi => ?_⟩, (FrM.up (p := fun c => c = 13) (q := fun k => k = 21) (c := 13) rfl (by decide)).tr (FrM.u1 rfl)⟩
  · rw [upr_eq, if_pos rfl, up1_eq, if_pos rfl, upr_eq, if_neg (by omega), h]; rfl
  · rw [upr_eq, if_neg (by omega), upr_eq, if_pos rfl, up1_eq, if_neg (by omega)]
  · have : i = 0 := by
      have : i < 1 := hi
      omega
    subst this
    rw [upr_eq, if_neg (by omega), upr_eq, if_pos rfl, up1_eq, if_pos (by omega)]; rfl
theorem m_nxt {tx : TX} {p : Nat} {N : Mm} (hW : WX tx) (hp : p ≤ tx.2) (hT : TpM tx p N) : S_Mod_nextToken N (fun N' => TpM tx (te_ tx p) N' ∧ FrM (fun _ => False) (fun k => 4 ≤ k ∧ k ≤ 8) N N') := m_nextToken hW hT.1 hT.2.1 hT.2.2.2.1 (te_ok hp).2.2.1
theorem TpM.fr {tx : TX} {p : Nat} {N N' : Mm} (h : TpM tx p N) (e2 : N' 2 = N 2) (e : ∀ k, 3 ≤ k → k ≤ 8 → N' 1 k = N 1 k) : TpM tx p N' := by
  obtain ⟨h1, h3, h5, h4, h6, h7, h8⟩ := h
  exact ⟨fun j hj => by rw [e2]; exact h1 j hj, by rw [e 3 (by omega) (by omega)]; exact h3, by rw [e 5 (by omega) (by omega)]; exact h5, by rw [e 4 (by omega) (by omega)]; exact h4, by rw [e 6 (by omega) (by omega)]; exact h6, fun z => by rw [e 7 (by omega) (by omega)]; exact h7 z, fun z => by rw [e 8 (by omega) (by omega)]; exact h8 z⟩
/-- what the model's fact answers -/
def fcM (tx : TX) (pr : Bool) (p : Nat) : Int := if wo_ tx p = 22 then 1 else if wo_ tx p = 23 then 2 else if wo_ tx p = 24 then 3 else if wo_ tx p = 25 ∧ pr = true then 4 else if wo_ tx p = 26 ∧ pr = true then 5 else 0
theorem m_fact {tx : TX} {pr : Bool} {p : Nat} {N : Mm} (hp : p ≤ tx.2) (hT : TpM tx p N) (h22 : N 1 22 = zo pr) : S_Mod_fact N (fun r N' => N' = N ∧ r = fcM tx pr p) := by
  obtain ⟨h1, h3, h5, h4, h6, h7, h8⟩ := hT
  have htk := tk_le (tx := tx) (p := p)
  have hm := mk_2 htk
  have hml := mk_le (k := tk_ tx p)
  refine W_Mod_fact N ?_
  rw [h6, h22]
  unfold fcM
  refine ⟨by omega, fun z => ?_, fun z => ⟨rfl, ?_⟩⟩
  · have hk := hm.1.mp z
    have hok := tl_ok hp hk
    rw [h7 hk]
    have hr := (enc_rL (Or.inl rfl) hok).2
    have ew : wo_ tx p = spo (enc 32 (tl_ tx p)) := by unfold wo_; rw [if_pos hk]
    have iff : ∀ o, 1 ≤ o → o < 27 → (cmpL (enc 27 (tl_ tx p)) (w27.getD o 0) = 0 ↔ wo_ tx p = o) := fun o a b => by rw [cmp0, w27_iff hok b, ew, spo_iff hok a b]
    have i22 : cmpL (enc 27 (tl_ tx p)) 459383 = 0 ↔ wo_ tx p = 22 := iff 22 (by omega) (by omega)
    have i23 : cmpL (enc 27 (tl_ tx p)) 79828 = 0 ↔ wo_ tx p = 23 := iff 23 (by omega) (by omega)
    have i24 : cmpL (enc 27 (tl_ tx p)) 857670836 = 0 ↔ wo_ tx p = 24 := iff 24 (by omega) (by omega)
    have i25 : cmpL (enc 27 (tl_ tx p)) 1299899 = 0 ↔ wo_ tx p = 25 := iff 25 (by omega) (by omega)
    have i26 : cmpL (enc 27 (tl_ tx p)) 453774 = 0 ↔ wo_ tx p = 26 := iff 26 (by omega) (by omega)
    refine ⟨hr, fun a => ⟨hr, fun b => ⟨hr, fun c => ⟨zo_rng _, fun d => ⟨hr, fun e => ⟨hr, fun f => ⟨rfl, ?_⟩, fun f => ⟨rfl, ?_⟩⟩, fun e => ⟨rfl, ?_⟩⟩, fun d => ⟨rfl, ?_⟩⟩, fun c => ⟨rfl, ?_⟩⟩, fun b => ⟨rfl, ?_⟩⟩, fun a => ⟨rfl, ?_⟩⟩
    · rw [if_neg (fun y => a (i22.mpr y)), if_neg (fun y => b (i23.mpr y)), if_neg (fun y => c (i24.mpr y)), if_neg (fun y => e (i25.mpr y.1)), if_neg (fun y => f (i26.mpr y.1))]
    · have := i26.mp f
      rw [if_neg (by omega), if_neg (by omega), if_neg (by omega), if_neg (by omega), if_pos ⟨this, zo_ne d⟩]
    · have := i25.mp e
      rw [if_neg (by omega), if_neg (by omega), if_neg (by omega), if_pos ⟨this, zo_ne d⟩]
    · have hp := zo_0 d
      rw [if_neg (fun y => a (i22.mpr y)), if_neg (fun y => b (i23.mpr y)), if_neg (fun y => c (i24.mpr y)), if_neg (fun y => by rw [hp] at y; cases y.2), if_neg (fun y => by rw [hp] at y; cases y.2)]
    · have := i24.mp c
      rw [if_neg (by omega), if_neg (by omega), if_pos this]
    · have := i23.mp b
      rw [if_neg (by omega), if_pos this]
    · rw [if_pos (i22.mp a)]
  · have h0 : wo_ tx p = 0 := by unfold wo_; rw [if_neg (fun y => z (hm.1.mpr y))]
    rw [if_neg (by omega), if_neg (by omega), if_neg (by omega), if_neg (by omega), if_neg (by omega)]
theorem lfc_M {tx : TX} {pr : Bool} {p : Nat} (hk : tk_ tx p ≠ 3) : (fcM tx pr p = 0 ↔ lfc tx pr p = none) ∧ (∀ x, lfc tx pr p = some x → fcM tx pr p = x.2.1) ∧ 0 ≤ fcM tx pr p ∧ fcM tx pr p ≤ 5 := by
  unfold fcM lfc
  rw [if_neg hk]
  by_cases c1 : wo_ tx p = 22
  · rw [if_pos c1, if_pos c1]; exact ⟨by simp, fun x h => by cases h; rfl, by omega, by omega⟩
  · rw [if_neg c1, if_neg c1]
    by_cases c2 : wo_ tx p = 23
    · rw [if_pos c2, if_pos c2]; exact ⟨by simp, fun x h => by cases h; rfl, by omega, by omega⟩
    · rw [if_neg c2, if_neg c2]
      by_cases c3 : wo_ tx p = 24
      · rw [if_pos c3, if_pos c3]; exact ⟨by simp, fun x h => by cases h; rfl, by omega, by omega⟩
      · rw [if_neg c3, if_neg c3]
        by_cases c4 : wo_ tx p = 25 ∧ pr = true
        · rw [if_pos c4, if_pos c4]; exact ⟨by simp, fun x h => by cases h; rfl, by omega, by omega⟩
        · rw [if_neg c4, if_neg c4]
          by_cases c5 : wo_ tx p = 26 ∧ pr = true
          · rw [if_pos c5, if_pos c5]; exact ⟨by simp, fun x h => by cases h; rfl, by omega, by omega⟩
          · rw [if_neg c5, if_neg c5]; exact ⟨by simp, fun x h => (by cases h), by omega, by omega⟩
theorem fc3 {tx : TX} {pr : Bool} {p : Nat} (hk : tk_ tx p = 3) : fcM tx pr p = 0 ∧ lfc tx pr p = some (tv_ tx p, 100 + tv_ tx p, fun _ => tv_ tx p) := by
  have h0 : wo_ tx p = 0 := by unfold wo_; rw [if_neg (by omega)]
  unfold fcM lfc
  rw [if_pos hk, if_neg (by omega), if_neg (by omega), if_neg (by omega), if_neg (by omega), if_neg (by omega)]
  exact ⟨rfl, rfl⟩
def StM (N N' : Mm) : Prop := FrM (fun c => c = 13 ∨ c = 14 ∨ c = 15) (fun k => (4 ≤ k ∧ k ≤ 9) ∨ k = 21) N N' ∧ ∀ i, i < 1000 → N' 13 i = N 13 i
theorem StM.tr {N N1 N2 : Mm} (h : StM N N1) (h2 : StM N1 N2) : StM N N2 := ⟨h.1.tr h2.1, fun i hi => (h2.2 i hi).trans (h.2 i hi)⟩
def bs (O : Nat → Int) : Nat → Nat
  | 0 => 0
  | w + 1 => if O (w + 1) = 1 then bs O w else w + 1
def MidM (tx : TX) (w n : Nat) (N : Mm) (s : PRS) (N' : Mm) : Prop := StM N N' ∧ TpM tx s.1 N' ∧ appM n N N' s.2.2.1 ∧ (∀ i, i ≤ w → N' 14 i = N 14 i) ∧ (∀ i, i < w → N' 15 i = N 15 i)
abbrev KT : Type := Nat → Rr → Nat → List (Nat × AV) → List AV → Mm → Prop
abbrev k11 (K : KT) (w : Nat) (b : Int) (N : Mm) : Prop := K NM RRM 11 [(0, vr 1), (1, vi (w : Int)), (2, vi b)] [] N
/-- the machine reads what q reads, at the depth w -/
def OpM (tx : TX) (pr : Bool) (K : KT) (P : Int → Mm → Prop) (w : Nat) (q : Nat → PR) (A : Mm → Prop) (Z : Nat → Mm → Prop) : Prop :=
  ∀ p n N, p ≤ tx.2 → n ≤ 1000 + p → 1000 ≤ n → TpM tx p N → N 1 21 = (n : Int) → N 1 22 = zo pr → A N →
    (∀ f, q p = .inl f → ∀ N', StM N N' → N' 1 9 = (f.1 : Int) + 16 * (f.2 : Int) → P 0 N') →
    (∀ s, q p = .inr s → ∀ N', MidM tx w n N s N' → Z s.1 N' → k11 K (bs (N 14) w) 0 N') → k11 K w 1 N
theorem bs_ext {O O' : Nat → Int} : ∀ w, (∀ i, i ≤ w → O' i = O i) → bs O' w = bs O w
  | 0, _ => rfl
  | w + 1, h => by rw [bs, bs, h (w + 1) (Nat.le_refl _), bs_ext w (fun i hi => h i (by omega))]
