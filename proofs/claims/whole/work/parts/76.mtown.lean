/-- below these places lies what was told before -/
def loB (c : Nat) : Nat := if c = 3 then 4 else if c ≤ 9 then 7 else if c = 10 then 12 else if c ≤ 12 then 2 else if c = 13 then 1000 else 0
abbrev qT (k : Nat) : Prop := (4 ≤ k ∧ k ≤ 9) ∨ (21 ≤ k ∧ k ≤ 23) ∨ k = 36
def TfM (N N' : Mm) : Prop := FrM (fun c => 3 ≤ c ∧ c ≤ 15) qT N N' ∧ ∀ c, 3 ≤ c → c ≤ 15 → ∀ k, k < loB c → N' c k = N c k
theorem TfM.rf {N : Mm} : TfM N N := ⟨FrM.rf, fun _ _ _ _ _ => rfl⟩
theorem TfM.tr {N N1 N2 : Mm} (h : TfM N N1) (h2 : TfM N1 N2) : TfM N N2 := ⟨h.1.tr h2.1, fun c a b k hk => (h2.2 c a b k hk).trans (h.2 c a b k hk)⟩
theorem TfM.up {N : Mm} {c k : Nat} {v : Int} (hc : 3 ≤ c ∧ c ≤ 15) (hk : loB c ≤ k) : TfM N (upr N c (up1 (N c) k v)) := by
  refine ⟨FrM.up hc (by omega), fun c' a b j hj => ?_⟩
  rw [upr_eq]
  by_cases e : c' = c
  · subst e; rw [if_pos rfl, up1_eq, if_neg (by omega)]
  · rw [if_neg e]
theorem TfM.u1 {N : Mm} {k : Nat} {v : Int} (hk : qT k) : TfM N (upr N 1 (up1 (N 1) k v)) := ⟨FrM.u1 hk, fun c a b j hj => by rw [upr_eq, if_neg (by omega)]⟩
theorem TfM.of {N N' : Mm} {q : Nat → Prop} (h : FrM (fun _ => False) q N N') (hq : ∀ k, q k → qT k) : TfM N N' := ⟨h.wk (fun c z => z.elim) hq, fun c a b k hk => by rw [h.1 c (by omega) (fun z => z)]⟩
theorem TfM.nx {N N' : Mm} (h : FrM (fun _ => False) (fun k => 4 ≤ k ∧ k ≤ 8) N N') : TfM N N' := TfM.of h (fun k hk => Or.inl (by omega))
theorem TfM.fl {N N' : Mm} (h : frF N N') : TfM N N' := TfM.of h (fun k hk => Or.inl (by omega))
theorem m_isKept {tx : TX} {p : Nat} {N : Mm} (hp : p ≤ tx.2) (hT : TpM tx p N) : S_Mod_isKept N (fun r N' => N' = N ∧ r = zo (!isNm tx p)) := by
  obtain ⟨h1, h3, h5, h4, h6, h7, h8⟩ := hT
  have htk := tk_le (tx := tx) (p := p)
  have hm := mk_2 htk
  have hml := mk_le (k := tk_ tx p)
  have hlt := wo_lt tx p
  refine W_Mod_isKept N ?_
  rw [h6]
  unfold isNm
  refine ⟨by omega, fun z => ?_, fun z => ⟨rfl, ?_⟩⟩
  · have hk := hm.1.mp z
    have hok := tl_ok hp hk
    rw [h7 hk]
    have hr := (enc_rL (Or.inl rfl) hok).2
    have ew : wo_ tx p = spo (enc 32 (tl_ tx p)) := by unfold wo_; rw [if_pos hk]
    have iff : ∀ o, 1 ≤ o → o < 27 → (cmpL (enc 27 (tl_ tx p)) (w27.getD o 0) = 0 ↔ wo_ tx p = o) := fun o a b => by rw [cmp0, w27_iff hok b, ew, spo_iff hok a b]
    have yes : ∀ o, 1 ≤ o → o ≤ 21 → cmpL (enc 27 (tl_ tx p)) (w27.getD o 0) = 0 → ((N = N) ∧ (1 : Int) = zo (!decide (tk_ tx p = 2 ∧ (wo_ tx p = 0 ∨ 22 ≤ wo_ tx p)))) := by
      intro o h1 h2 h3
      have := (iff o h1 (by omega)).mp h3
      rw [decide_eq_false (by omega)]
      exact ⟨rfl, rfl⟩
    refine ⟨hr, fun c => yes 1 (by omega) (by omega) c, fun n1 => ⟨hr, fun c => yes 2 (by omega) (by omega) c, fun n2 => ⟨hr, fun c => yes 3 (by omega) (by omega) c, fun n3 => ⟨hr, fun c => yes 4 (by omega) (by omega) c, fun n4 => ⟨hr, fun c => yes 5 (by omega) (by omega) c, fun n5 => ⟨hr, fun c => yes 6 (by omega) (by omega) c, fun n6 => ⟨hr, fun c => yes 7 (by omega) (by omega) c, fun n7 => ⟨hr, fun c => yes 8 (by omega) (by omega) c, fun n8 => ⟨hr, fun c => yes 9 (by omega) (by omega) c, fun n9 => ⟨hr, fun c => yes 10 (by omega) (by omega) c, fun n10 => ⟨hr, fun c => yes 11 (by omega) (by omega) c, fun n11 => ⟨hr, fun c => yes 12 (by omega) (by omega) c, fun n12 => ⟨hr, fun c => yes 13 (by omega) (by omega) c, fun n13 => ⟨hr, fun c => yes 14 (by omega) (by omega) c, fun n14 => ⟨hr, fun c => yes 15 (by omega) (by omega) c, fun n15 => ⟨hr, fun c => yes 16 (by omega) (by omega) c, fun n16 => ⟨hr, fun c => yes 17 (by omega) (by omega) c, fun n17 => ⟨hr, fun c => yes 18 (by omega) (by omega) c, fun n18 => ⟨hr, fun c => yes 19 (by omega) (by omega) c, fun n19 => ⟨hr, fun c => yes 20 (by omega) (by omega) c, fun n20 => ⟨hr, fun n21 => ⟨rfl, ?_⟩, fun c => yes 21 (by omega) (by omega) c⟩⟩⟩⟩⟩⟩⟩⟩⟩⟩⟩⟩⟩⟩⟩⟩⟩⟩⟩⟩⟩
    have hw : wo_ tx p = 0 ∨ 22 ≤ wo_ tx p := by
      apply Classical.byContradiction
      intro y
      have e : wo_ tx p = 1 ∨ wo_ tx p = 2 ∨ wo_ tx p = 3 ∨ wo_ tx p = 4 ∨ wo_ tx p = 5 ∨ wo_ tx p = 6 ∨ wo_ tx p = 7 ∨ wo_ tx p = 8 ∨ wo_ tx p = 9 ∨ wo_ tx p = 10 ∨ wo_ tx p = 11 ∨ wo_ tx p = 12 ∨ wo_ tx p = 13 ∨ wo_ tx p = 14 ∨ wo_ tx p = 15 ∨ wo_ tx p = 16 ∨ wo_ tx p = 17 ∨ wo_ tx p = 18 ∨ wo_ tx p = 19 ∨ wo_ tx p = 20 ∨ wo_ tx p = 21 := by omega
      rcases e with e | e | e | e | e | e | e | e | e | e | e | e | e | e | e | e | e | e | e | e | e
      · exact n1 ((iff 1 (by omega) (by omega)).mpr e)
      · exact n2 ((iff 2 (by omega) (by omega)).mpr e)
      · exact n3 ((iff 3 (by omega) (by omega)).mpr e)
      · exact n4 ((iff 4 (by omega) (by omega)).mpr e)
      · exact n5 ((iff 5 (by omega) (by omega)).mpr e)
      · exact n6 ((iff 6 (by omega) (by omega)).mpr e)
      · exact n7 ((iff 7 (by omega) (by omega)).mpr e)
      · exact n8 ((iff 8 (by omega) (by omega)).mpr e)
      · exact n9 ((iff 9 (by omega) (by omega)).mpr e)
      · exact n10 ((iff 10 (by omega) (by omega)).mpr e)
      · exact n11 ((iff 11 (by omega) (by omega)).mpr e)
      · exact n12 ((iff 12 (by omega) (by omega)).mpr e)
      · exact n13 ((iff 13 (by omega) (by omega)).mpr e)
      · exact n14 ((iff 14 (by omega) (by omega)).mpr e)
      · exact n15 ((iff 15 (by omega) (by omega)).mpr e)
      · exact n16 ((iff 16 (by omega) (by omega)).mpr e)
      · exact n17 ((iff 17 (by omega) (by omega)).mpr e)
      · exact n18 ((iff 18 (by omega) (by omega)).mpr e)
      · exact n19 ((iff 19 (by omega) (by omega)).mpr e)
      · exact n20 ((iff 20 (by omega) (by omega)).mpr e)
      · exact n21 ((iff 21 (by omega) (by omega)).mpr e)
    rw [decide_eq_true ⟨hk, hw⟩]; rfl
  · rw [decide_eq_false (fun y => z (hm.1.mpr y.1))]; rfl
/-- names of a town of the model: r 0 told, 1 the draft -/
def NmM (n : Nat) (nm : Nat → List Nat) (r : Nat) (N : Mm) : Prop := N 3 (4 * r) = (n : Int) ∧ n ≤ 7 ∧ ∀ h, h < n → (okw (nm h) ∧ N 4 (7 * r + h) = enc 27 (nm h))
theorem m_houseNamed {n r : Nat} {nm : Nat → List Nat} {N : Mm} {l : List Nat} (hr : r < 2) (hN : NmM n nm r N) (hl : okw l) (h7 : N 1 7 = enc 27 l) : S_Mod_houseNamed (r : Int) N (fun r N' => N' = N ∧ r = hNo n (nmO n nm l)) := by
  obtain ⟨h9, hn7, hnm⟩ := hN
  refine e_Mod_houseNamed _ N fun K hK => w_Mod_houseNamed_0 hK _ N ?_
  have e4 : (4 * (r : Int) + 0).toNat = 4 * r := by omega
  have key : ∀ i, i ≤ n → nmO n nm l = fsb (fun h => decide (nm h = l)) n (n - i) → K NM RRM 2 [(0, vr 1), (1, vi (r : Int)), (2, vi (i : Int))] [] N := by
    refine up_ind ?_ ?_
    · intro e
      refine w_Mod_houseNamed_2 hK _ _ N ?_
      rw [e4, h9]
      refine ⟨by omega, by omega, by omega, fun _ => ⟨rfl, ?_⟩, fun z => absurd (Int.le_refl _) z⟩
      rw [e, Nat.sub_self, fsb]
      unfold hNo; rw [if_pos rfl]
    · intro i hi ih e
      rw [fsb_step hi] at e
      have hi2 := hnm i hi
      have hc : cmpL (enc 27 (nm i)) (enc 27 l) = 0 ↔ nm i = l := by
        rw [cmp0]
        exact ⟨fun z => enc_inj (by decide) hi2.1.2 hl.2 z, fun z => by rw [z]⟩
      refine w_Mod_houseNamed_2 hK _ _ N ?_
      rw [e4, h9, show (7 * (r : Int) + (i : Int)).toNat = 7 * r + i by omega, hi2.2, h7]
      refine ⟨by omega, by omega, by omega, fun z => by omega, fun _ => ⟨by omega, (enc_rL (Or.inl rfl) hi2.1).2, (enc_rL (Or.inl rfl) hl).2, fun z => ih ?_, fun z => ⟨rfl, ?_⟩⟩⟩
      · rw [e, if_neg (fun y => z (hc.mpr (of_decide_eq_true y)))]
      · rw [e, if_pos (decide_eq_true (hc.mp z))]
        unfold hNo; rw [if_neg (by omega)]
  exact key 0 (by omega) rfl
theorem TpM.tf {tx : TX} {p : Nat} {N N' : Mm} (h : TpM tx p N) (f : FrM (fun c => 3 ≤ c ∧ c ≤ 15) (fun k => (21 ≤ k ∧ k ≤ 23) ∨ k = 36 ∨ k = 9) N N') : TpM tx p N' := h.fr (f.1 2 (by omega) (by omega)) (fun k a b => f.2 k (by omega))
theorem m_needsNumber {tx : TX} {p : Nat} {N : Mm} {lo hi : Int} (hW : WX tx) (hp : p ≤ tx.2) (hT : TpM tx p N) (hlo : rng lo) (hhi : rng hi) : S_Mod_needsNumber lo hi N (fun r N' => FrM (fun _ => False) (fun k => (4 ≤ k ∧ k ≤ 9) ∨ k = 36) N N' ∧ (∀ f, tkN tx p lo hi = .inl f → r = 0 ∧ N' 1 9 = (f.1 : Int) + 16 * (f.2 : Int)) ∧ (∀ x, tkN tx p lo hi = .inr x → r = 1 ∧ TpM tx x.2 N' ∧ N' 1 36 = x.1)) := by
  obtain ⟨h1, h3, h5, h4, h6, h7, h8⟩ := id hT
  have htk := tk_le (tx := tx) (p := p)
  have hm := mk_2 htk
  have hml := mk_le (k := tk_ tx p)
  have bad : ∀ k : Nat, tkN tx p lo hi = .inl (k, tb_ tx p) → ∃ P1 : Int → Mm → Prop, S_Mod_fails (k : Int) N P1 ∧ ∀ (r1 : Int) (N1 : Mm), P1 r1 N1 → (r1 = 0 ∨ r1 = 1) ∧ FrM (fun _ => False) (fun k => (4 ≤ k ∧ k ≤ 9) ∨ k = 36) N N1 ∧ (∀ f, tkN tx p lo hi = .inl f → r1 = 0 ∧ N1 1 9 = (f.1 : Int) + 16 * (f.2 : Int)) ∧ (∀ x, tkN tx p lo hi = .inr x → r1 = 1 ∧ TpM tx x.2 N1 ∧ N1 1 36 = x.1) := by
    intro k hk
    refine ⟨_, m_fails (k := (k : Int)) hT, ?_⟩
    rintro r N1 ⟨rfl, a, b⟩
    exact ⟨Or.inl rfl, b.wk (fun c z => z) (fun k hk => Or.inl (by omega)), fun f hf => by rw [hk] at hf; cases hf; exact ⟨rfl, a⟩, fun x hx => by rw [hk] at hx; cases hx⟩
  refine W_Mod_needsNumber _ _ N ?_
  rw [h6]
  refine ⟨by omega, fun z => ?_, fun z => bad 1 ?_⟩
  · have hk3 := hm.2.1.mp z
    have hv := tv_in hp hk3
    rw [h8 hk3]
    refine ⟨_, m_within (by omega) hlo hhi, ?_⟩
    rintro r N1 ⟨rfl, rfl⟩
    refine ⟨zo_rng _, fun y => ?_, fun y => bad 4 ?_⟩
    · have hin : lo ≤ tv_ tx p ∧ tv_ tx p ≤ hi := by simpa using zo_ne y
      intro N2 g2
      have f2 : FrM (fun _ => False) (fun k => k = 36) N1 N2 := by rw [g2]; exact FrM.u1 rfl
      have hT2 : TpM tx p N2 := hT.fr (f2.1 2 (by omega) (fun z => z)) (fun k a b => f2.2 k (by omega))
      refine ⟨_, m_nxt hW hp hT2, ?_⟩
      rintro N3 ⟨b1, b2⟩
      refine ⟨(f2.wk (fun c z => z) (fun k hk => Or.inr hk)).tr (b2.wk (fun c z => z) (fun k hk => Or.inl (by omega))), fun f hf => ?_, fun x hx => ?_⟩
      · unfold tkN at hf; rw [if_neg (by omega), if_neg (by omega)] at hf; cases hf
      · unfold tkN at hx; rw [if_neg (by omega), if_neg (by omega)] at hx; cases hx
        refine ⟨rfl, b1, ?_⟩
        rw [b2.2 36 (by omega), g2, upr_eq, if_pos rfl, up1_eq, if_pos rfl]
        exact h8 hk3
    · have : ¬ (lo ≤ tv_ tx p ∧ tv_ tx p ≤ hi) := by
        have := zo_0 y
        simpa using this
      unfold tkN; rw [if_neg (by omega), if_pos (by omega)]
  · unfold tkN; rw [if_pos (fun y => z (hm.2.1.mpr y))]
theorem m_needsBoth {tx : TX} {p o : Nat} {N : Mm} {lo hi : Int} (hW : WX tx) (hp : p ≤ tx.2) (hT : TpM tx p N) (ho : 1 ≤ o) (ho2 : o < 27) (hlo : rng lo) (hhi : rng hi) : S_Mod_needsBoth (w27.getD o 0) lo hi N (fun r N' => FrM (fun _ => False) (fun k => (4 ≤ k ∧ k ≤ 9) ∨ k = 36) N N' ∧ (∀ f, tkB tx p o lo hi = .inl f → r = 0 ∧ N' 1 9 = (f.1 : Int) + 16 * (f.2 : Int)) ∧ (∀ x, tkB tx p o lo hi = .inr x → r = 1 ∧ TpM tx x.2 N' ∧ N' 1 36 = x.1)) := by
  have t1 := te_le hp
  refine W_Mod_needsBoth _ _ _ N ⟨_, m_isWord hp hT ho ho2, ?_⟩
  rintro r N1 ⟨rfl, rfl⟩
  unfold tkB
  refine ⟨zo_rng _, fun z => ⟨_, m_nxt hW hp hT, ?_⟩, fun z => ⟨_, m_fails (k := 1) hT, ?_⟩⟩
  · have hw := of_decide_eq_true (zo_ne z)
    rintro N2 ⟨b1, b2⟩
    refine ⟨_, m_needsNumber hW t1.2 b1 hlo hhi, ?_⟩
    rintro r N3 ⟨f3, u1, u2⟩
    rw [if_neg (fun y => y hw)]
    refine ⟨?_, (b2.wk (fun c z => z) (fun k hk => Or.inl (by omega))).tr f3, u1, u2⟩
    cases c : tkN tx (te_ tx p) lo hi with
    | inl f => exact Or.inl (u1 f c).1
    | inr x => exact Or.inr (u2 x c).1
  · have hw := of_decide_eq_false (zo_0 z)
    rintro r N2 ⟨rfl, a, b⟩
    rw [if_pos hw]
    exact ⟨Or.inl rfl, b.wk (fun c z => z) (fun k hk => Or.inl (by omega)), fun f hf => by cases hf; exact ⟨rfl, a⟩, fun x hx => by cases hx⟩
/-- a line's end -/
def clo (tx : TX) {β : Type} (res : Sum FLT (β × Nat)) : Sum FLT (β × Nat) := bnd res fun x => if isS_ tx x.2 59 = true then .inr (x.1, te_ tx x.2) else .inl (1, tb_ tx x.2)
theorem m_closes {tx : TX} {p : Nat} {N : Mm} (hW : WX tx) (hp : p ≤ tx.2) (hT : TpM tx p N) : S_Mod_closes N (fun r N' => FrM (fun _ => False) (fun k => 4 ≤ k ∧ k ≤ 9) N N' ∧ (isS_ tx p 59 = true → r = 1 ∧ TpM tx (te_ tx p) N') ∧ (isS_ tx p 59 = false → r = 0 ∧ N' 1 9 = 1 + 16 * (tb_ tx p : Int))) := by
  refine W_Mod_closes N ⟨_, m_isSign hW hp hT (by decide), ?_⟩
  rintro r N1 ⟨rfl, rfl⟩
  refine ⟨zo_rng _, fun z => ⟨_, m_nxt hW hp hT, ?_⟩, fun z => ⟨_, m_fails (k := 1) hT, ?_⟩⟩
  · rintro N2 ⟨b1, b2⟩
    exact ⟨b2.wk (fun c z => z) (fun k hk => by omega), fun _ => ⟨rfl, b1⟩, fun y => (by rw [zo_ne z] at y; cases y)⟩
  · rintro r N2 ⟨rfl, a, b⟩
    exact ⟨Or.inl rfl, b.wk (fun c z => z) (fun k hk => by omega), fun y => (by rw [zo_0 z] at y; cases y), fun _ => ⟨rfl, a⟩⟩
theorem m_needsHouse {tx : TX} {p n r : Nat} {nm : Nat → List Nat} {N : Mm} (hp : p ≤ tx.2) (hT : TpM tx p N) (hr : r < 2) (hN : NmM n nm r N) : S_Mod_needsHouse (r : Int) N (fun x N' => FrM (fun _ => False) (fun k => k = 9 ∨ k = 36) N N' ∧ (∀ f, tkH tx n nm p = .inl f → x = 0 ∧ N' 1 9 = (f.1 : Int) + 16 * (f.2 : Int)) ∧ (∀ a, tkH tx n nm p = .inr a → x = 1 ∧ N' 1 36 = (a : Int) ∧ TpM tx p N')) := by
  have hno := nmO_ok (n := n) (nm := nm) (l := tl_ tx p)
  have h7 := hN.2.1
  refine W_Mod_needsHouse _ N ⟨_, m_isKept hp hT, ?_⟩
  rintro x N1 ⟨rfl, rfl⟩
  unfold tkH
  refine ⟨zo_rng _, fun z => ?_, fun z => ⟨_, m_fails (k := 1) hT, ?_⟩⟩
  · have hnm : isNm tx p = true := by
      have := zo_0 z
      cases c : isNm tx p
      · rw [c] at this; cases this
      · rfl
    have hk := isNm_k hnm
    refine ⟨_, m_houseNamed hr hN (tl_ok hp hk) (hT.2.2.2.2.2.1 hk), ?_⟩
    rintro x N2 ⟨rfl, rfl⟩
    intro N3 g3
    have f3 : FrM (fun _ => False) (fun k => k = 9 ∨ k = 36) N2 N3 := by rw [g3]; exact FrM.u1 (Or.inr rfl)
    have e36 : N3 1 36 = hNo n (nmO n nm (tl_ tx p)) := by rw [g3, upr_eq, if_pos rfl, up1_eq, if_pos rfl]
    have hT3 : TpM tx p N3 := hT.fr (f3.1 2 (by omega) (fun z => z)) (fun k a b => f3.2 k (by omega))
    rw [e36, hnm, if_neg (by decide)]
    have hh : hNo n (nmO n nm (tl_ tx p)) < 0 ↔ nmO n nm (tl_ tx p) = n := by
      unfold hNo
      split <;> omega
    have hr2 : rng (hNo n (nmO n nm (tl_ tx p))) := by
      unfold hNo
      split <;> omega
    refine ⟨hr2, fun y => ⟨f3, fun f hf => ?_, fun a ha => ?_⟩, fun y => ⟨_, m_fails (k := 2) hT3, ?_⟩⟩
    · rw [if_neg (fun q => by have := hh.mpr q; omega)] at hf; cases hf
    · rw [if_neg (fun q => by have := hh.mpr q; omega)] at ha; cases ha
      refine ⟨rfl, ?_, hT3⟩
      unfold hNo; rw [if_neg (fun q => by have := hh.mpr q; omega)]
    · rintro x N4 ⟨rfl, a, b⟩
      refine ⟨by decide, fun _ => ⟨f3.tr (b.wk (fun c z => z) (fun k hk => Or.inl hk)), fun f hf => ?_, fun q hq => ?_⟩, fun q => absurd rfl q⟩
      · rw [if_pos (hh.mp (by omega))] at hf; cases hf
        exact ⟨rfl, a⟩
      · rw [if_pos (hh.mp (by omega))] at hq; cases hq
  · have hnm : isNm tx p = false := by
      have := zo_ne z
      cases c : isNm tx p
      · rfl
      · rw [c] at this; cases this
    rintro x N2 ⟨rfl, a, b⟩
    rw [hnm, if_pos rfl]
    exact ⟨Or.inl rfl, b.wk (fun c z => z) (fun k hk => Or.inl hk), fun f hf => by cases hf; exact ⟨rfl, a⟩, fun q hq => by cases hq⟩
def DMl (N : Mm) (k : Nat) (o : Option (Nat × PRS)) (ci : Nat) : Prop := (o = none → N 11 k = 1000 ∧ N 12 k = 1000) ∧ ∀ x, o = some x → ∃ a : Nat, N 11 k = (a : Int) ∧ N 12 k = ((a + x.2.2.2.1.length : Nat) : Int) ∧ 1000 ≤ a ∧ a + x.2.2.2.1.length ≤ ci ∧ 1 ≤ x.2.2.2.1.length ∧ ∀ j, j < x.2.2.2.1.length → N 13 (a + j) = x.2.2.2.1.getD j 0
def tlb (D : DT) : Nat := (if (dga D).2 = true then 2 else 0) + (if (dpr D).2 = true then 4 else 0)
/-- the draft of the model -/
def DM (D : DT) (ci : Nat) (N : Mm) : Prop :=
  (N 3 4 = (dn D : Int) ∧ N 3 5 = (dga D).1 ∧ N 3 6 = (dpr D).1 ∧ N 3 7 = ((drn D).1 : Int) ∧ N 1 23 = (tlb D : Int) ∧ N 1 21 = (ci : Int) ∧ 1000 ≤ ci) ∧
  (∀ h, h < dn D → (N 4 (7 + h) = enc 27 (dnm D h) ∧ N 5 (7 + h) = dk D h ∧ N 6 (7 + h) = dth D h ∧ N 7 (7 + h) = dwe D h ∧ N 8 (7 + h) = din D h ∧ N 9 (7 + h) = (dsh D h : Int))) ∧
  (∀ i, i < (drn D).1 → N 10 (12 + i) = (drn D).2 i) ∧ DMl N 2 (dlp D) ci ∧ DMl N 3 (dlq D) ci
theorem DMl.fr {N N' : Mm} {k ci : Nat} {o : Option (Nat × PRS)} (h : DMl N k o ci) (e11 : N' 11 k = N 11 k) (e12 : N' 12 k = N 12 k) (e13 : ∀ j, j < ci → N' 13 j = N 13 j) : DMl N' k o ci := by
  refine ⟨fun z => by rw [e11, e12]; exact h.1 z, fun x hx => ?_⟩
  obtain ⟨a, h1, h2, h3, h4, h5, h6⟩ := h.2 x hx
  exact ⟨a, by rw [e11]; exact h1, by rw [e12]; exact h2, h3, h4, h5, fun j hj => by rw [e13 _ (by omega)]; exact h6 j hj⟩
theorem DM.fr {D : DT} {ci : Nat} {N N' : Mm} (h : DM D ci N) (f : FrM (fun _ => False) (fun k => (4 ≤ k ∧ k ≤ 9) ∨ k = 36) N N') : DM D ci N' := by
  have e : ∀ c, c ≠ 1 → N' c = N c := fun c hc => f.1 c hc (fun z => z)
  obtain ⟨h1, h2, h3, h4, h5⟩ := h
  refine ⟨by rw [e 3 (by omega), f.2 23 (by omega), f.2 21 (by omega)]; exact h1, fun q hq => ?_, by rw [e 10 (by omega)]; exact h3, h4.fr (by rw [e 11 (by omega)]) (by rw [e 12 (by omega)]) (fun j _ => by rw [e 13 (by omega)]), h5.fr (by rw [e 11 (by omega)]) (by rw [e 12 (by omega)]) (fun j _ => by rw [e 13 (by omega)])⟩
  rw [e 4 (by omega), e 5 (by omega), e 6 (by omega), e 7 (by omega), e 8 (by omega), e 9 (by omega)]; exact h2 q hq
theorem DM.nm {tx : TX} {D : DT} {ci : Nat} {N : Mm} (h : DM D ci N) (hw : WD tx D) : NmM (dn D) (dnm D) 1 N := ⟨h.1.1, hw.1, fun q hq => ⟨(hw.2.1 q hq).1, (h.2.1 q hq).1⟩⟩
/-- what a reader of the model leaves -/
def PoM (tx : TX) (N : Mm) (res : Sum FLT (DT × Nat)) (r : Int) (N' : Mm) : Prop := TfM N N' ∧ (∀ f, res = .inl f → r = 0 ∧ N' 1 9 = (f.1 : Int) + 16 * (f.2 : Int)) ∧ (∀ x, res = .inr x → r = 1 ∧ TpM tx x.2 N' ∧ ∃ ci, DM x.1 ci N' ∧ ci ≤ 1000 + x.2)
theorem PoM_f {tx : TX} {N N' : Mm} {res : Sum FLT (DT × Nat)} {f : FLT} (hr : res = .inl f) (h : TfM N N') (h2 : N' 1 9 = (f.1 : Int) + 16 * (f.2 : Int)) : PoM tx N res 0 N' := ⟨h, fun f' e => by rw [hr] at e; cases e; exact ⟨rfl, h2⟩, fun x e => by rw [hr] at e; cases e⟩
theorem PoM_r01 {tx : TX} {N N' : Mm} {res : Sum FLT (DT × Nat)} {r : Int} (h : PoM tx N res r N') : r = 0 ∨ r = 1 := by
  cases c : res with
  | inl f => exact Or.inl (h.2.1 f c).1
  | inr x => exact Or.inr (h.2.2 x c).1
/-- the end of a line -/
theorem m_end {tx : TX} {N0 N : Mm} {p : Nat} {D : DT} {ci : Nat} {res : Sum FLT (DT × Nat)} (hW : WX tx) (hp : p ≤ tx.2) (hT : TpM tx p N) (hD : DM D ci N) (hci : ci ≤ 1000 + p) (tf : TfM N0 N) (hres : res = .inr (D, p)) : ∃ P8 : Int → Mm → Prop, S_Mod_closes N P8 ∧ ∀ (r7 : Int) (M8 : Mm), P8 r7 M8 → (r7 = 0 ∨ r7 = 1) ∧ PoM tx N0 (clo tx res) r7 M8 := by
  refine ⟨_, m_closes hW hp hT, ?_⟩
  rintro r N1 ⟨f1, u1, u2⟩
  have hc : clo tx res = if isS_ tx p 59 = true then .inr (D, te_ tx p) else .inl (1, tb_ tx p) := by unfold clo; rw [bnd_r hres]
  have tf1 : TfM N0 N1 := tf.tr (TfM.of f1 (fun k hk => Or.inl hk))
  cases c : isS_ tx p 59
  · obtain ⟨rfl, e⟩ := u2 c
    rw [c, if_neg Bool.false_ne_true] at hc
    exact ⟨Or.inl rfl, PoM_f (f := (1, tb_ tx p)) hc tf1 e⟩
  · obtain ⟨rfl, hT1⟩ := u1 c
    rw [c, if_pos rfl] at hc
    have t1 := te_le hp
    exact ⟨Or.inr rfl, tf1, fun f e => (by rw [hc] at e; cases e), fun x e => by
      rw [hc] at e; cases e
      exact ⟨rfl, hT1, ci, hD.fr (f1.wk (fun c z => z) (fun k hk => Or.inl hk)), by show ci ≤ 1000 + te_ tx p; omega⟩⟩
