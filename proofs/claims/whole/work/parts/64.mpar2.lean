theorem StM.tk {N N' : Mm} (h : FrM (fun _ => False) (fun k => 4 ≤ k ∧ k ≤ 8) N N') : StM N N' := ⟨h.wk (fun c z => z.elim) (fun k hk => Or.inl (by omega)), fun i _ => by rw [h.1 13 (by omega) (fun z => z)]⟩
theorem StM.pu {N N' : Mm} {n : Nat} {l : List Int} (h : FrM (fun c => c = 13) (fun k => k = 21) N N') (a : appM n N N' l) (hn : 1000 ≤ n) : StM N N' := ⟨h.wk (fun c z => Or.inl z) (fun k hk => Or.inr hk), fun i hi => a.2.1 i (by omega)⟩
theorem StM.ot {N N' : Mm} (h : FrM (fun c => c = 14 ∨ c = 15) (fun _ => False) N N') : StM N N' := ⟨h.wk (fun c z => Or.inr z) (fun k z => z.elim), fun i _ => by rw [h.1 13 (by omega) (by omega)]⟩
theorem TpM.st {tx : TX} {p : Nat} {N N' : Mm} (h : TpM tx p N) (f : FrM (fun c => c = 13 ∨ c = 14 ∨ c = 15) (fun k => k = 21) N N') : TpM tx p N' := h.fr (f.1 2 (by omega) (by omega)) (fun k a b => f.2 k (by omega))
theorem mid_st {tx : TX} {w n p : Nat} {N N1 N2 N3 : Mm} {s : PRS} {m : Int} {v : Int} (hn : 1000 ≤ n) (h : MidM tx w n N s N1) (hp : appM (n + s.2.2.1.length) N1 N2 [m]) (fp : FrM (fun c => c = 13) (fun k => k = 21) N1 N2) (h3 : N3 = upr N2 15 (up1 (N2 15) w v) ∨ N3 = N2) (hT : TpM tx p N3) : MidM tx w n N (p, s.2.1, s.2.2.1 ++ [m], s.2.2.2) N3 ∧ StM N N3 := by
  obtain ⟨a1, a2, a3, a4, a5⟩ := h
  have f3 : FrM (fun c => c = 15) (fun _ => False) N2 N3 := by
    rcases h3 with rfl | rfl
    · exact FrM.up rfl (by omega)
    · exact FrM.rf
  have s3 : StM N N3 := (a1.tr (StM.pu fp hp (by omega))).tr (StM.ot (f3.wk (fun c hc => by omega) (fun k z => z.elim)))
  refine ⟨⟨s3, hT, (a3.tr hp).fr (f3.2 21 (fun z => z)) (f3.1 13 (by omega) (by omega)), fun i hi => ?_, fun i hi => ?_⟩, s3⟩
  · rw [f3.1 14 (by omega) (by omega), fp.1 14 (by omega) (by omega)]; exact a4 i hi
  · have : N3 15 i = N2 15 i := by
      rcases h3 with rfl | rfl
      · rw [upr_eq, if_pos rfl, up1_eq, if_neg (by omega)]
      · rfl
    rw [this, fp.1 15 (by omega) (by omega)]; exact a5 i hi
theorem MidM.nx {tx : TX} {w n p : Nat} {N N1 N2 : Mm} {s : PRS} (h : MidM tx w n N s N1) (hT : TpM tx p N2) (hf : FrM (fun _ => False) (fun k => 4 ≤ k ∧ k ≤ 8) N1 N2) : MidM tx w n N (p, s.2) N2 := by
  obtain ⟨a1, a2, a3, a4, a5⟩ := h
  exact ⟨a1.tr (StM.tk hf), hT, a3.fr (hf.2 21 (by omega)) (hf.1 13 (by omega) (fun z => z)), fun i hi => by rw [hf.1 14 (by omega) (fun z => z)]; exact a4 i hi, fun i hi => by rw [hf.1 15 (by omega) (fun z => z)]; exact a5 i hi⟩
/-- two readings one behind the other -/
theorem mid_mid {tx : TX} {w n : Nat} {N N1 N2 : Mm} {s s2 : PRS} {ms : List Int} {r : PRS} (h : MidM tx w n N (s.1, s.2.1, ms, s.2.2.2) N1) (h2 : MidM tx w (n + ms.length) N1 s2 N2) (hr : r.1 = s2.1 ∧ r.2.2.1 = ms ++ s2.2.2.1) : MidM tx w n N r N2 := by
  obtain ⟨a1, a2, a3, a4, a5⟩ := h
  obtain ⟨b1, b2, b3, b4, b5⟩ := h2
  refine ⟨a1.tr b1, by rw [hr.1]; exact b2, by rw [hr.2]; exact a3.tr b3, fun i hi => by rw [b4 i hi]; exact a4 i hi, fun i hi => by rw [b5 i hi]; exact a5 i hi⟩
def Qb (w : Nat) (q : Prop) (O : Nat → Int) : Prop := (∀ i, 1 ≤ i → i ≤ w → rng (O i)) ∧ (q → bs O w = w)
theorem Qb.ext {w : Nat} {q : Prop} {O O' : Nat → Int} (h : Qb w q O) (e : ∀ i, i ≤ w → O' i = O i) : Qb w q O' := ⟨fun i a b => by rw [e i b]; exact h.1 i a b, fun hq => by rw [bs_ext w e]; exact h.2 hq⟩
abbrev EKr (K : KT) (P : Int → Mm → Prop) : Prop := EK shM yX12_reads cX12_reads 6 (some .boolean) 3 NM NM (QI RRM P) K
/-- an operator at the depth w -/
def HdM (tx : TX) (K : KT) (w : Nat) (op : Nat → Option (Int × Int)) (Z : Nat → Mm → Prop) (A : Mm → Prop) : Prop :=
  ∀ (p n : Nat) (N : Mm) (cm : Int × Int), p ≤ tx.2 → n < 2000 → TpM tx p N → N 1 21 = (n : Int) → Z p N → op p = some cm →
    (∀ N2 N3 N4 : Mm, ∀ v : Int, appM n N N2 [cm.2] → FrM (fun c => c = 13) (fun k => k = 21) N N2 → (N3 = upr N2 15 (up1 (N2 15) w v) ∨ N3 = N2) → TpM tx (te_ tx p) N4 → FrM (fun _ => False) (fun k => 4 ≤ k ∧ k ≤ 8) N3 N4 → A N4 → k11 K w 1 N4) → k11 K w 0 N
theorem isS_v {tx : TX} {p : Nat} {a b : Int} (h : isS_ tx p a = true) (hab : a ≠ b) : isS_ tx p b = false := by
  have := isS_k h
  unfold isS_
  exact decide_eq_false (fun z => hab (by rw [← this.2, z.2]))
theorem hd_206 {tx : TX} {K : KT} {P : Int → Mm → Prop} (hK : EKr K P) (hW : WX tx) {w p n : Nat} {N : Mm} {m : Int} (hp : p ≤ tx.2) (hn : n < 2000) (hT : TpM tx p N) (h21 : N 1 21 = (n : Int)) (hm : (isS_ tx p 43 = true ∧ m = 20) ∨ (isS_ tx p 45 = true ∧ m = 21) ∨ (isS_ tx p 42 = true ∧ m = 22))
    (cont : ∀ N2 N4 : Mm, appM n N N2 [m] → FrM (fun c => c = 13) (fun k => k = 21) N N2 → TpM tx (te_ tx p) N4 → FrM (fun _ => False) (fun k => 4 ≤ k ∧ k ≤ 8) N2 N4 → k11 K w 1 N4) : k11 K w 0 N := by
  have go : ∃ P3 : Mm → Prop, S_Mod_puts m N P3 ∧ ∀ M3 : Mm, P3 M3 → ∃ P4 : Mm → Prop, S_Mod_nextToken M3 P4 ∧ ∀ M4 : Mm, P4 M4 → K NM RRM 11 [(0, vr 1), (1, vi (w : Int)), (2, vi 1)] [] M4 := by
    refine ⟨_, m_puts h21 hn, ?_⟩
    rintro N2 ⟨a1, a2⟩
    refine ⟨_, m_nxt hW hp (hT.st (a2.wk (fun c hc => Or.inl hc) (fun k hk => hk))), ?_⟩
    rintro N4 ⟨b1, b2⟩
    exact cont N2 N4 a1 a2 b1 b2
  have k206 : K NM RRM 206 [(0, vr 1), (1, vi (w : Int))] [] N := by
    refine w_Mod_reads_206 hK _ N ⟨_, m_isSign hW hp hT (by decide), ?_⟩
    rintro r N1 ⟨rfl, rfl⟩
    rcases hm with ⟨hs, rfl⟩ | ⟨hs, rfl⟩ | ⟨hs, rfl⟩
    · rw [hs]; exact ⟨by decide, fun z => (by cases z), fun _ => go⟩
    · rw [isS_v hs (by decide)]
      refine ⟨by decide, fun _ => ⟨_, m_isSign hW hp hT (by decide), ?_⟩, fun z => absurd rfl z⟩
      rintro r N2 ⟨rfl, rfl⟩
      rw [hs]; exact ⟨by decide, fun z => (by cases z), fun _ => go⟩
    · rw [isS_v hs (by decide)]
      refine ⟨by decide, fun _ => ⟨_, m_isSign hW hp hT (by decide), ?_⟩, fun z => absurd rfl z⟩
      rintro r N2 ⟨rfl, rfl⟩
      rw [isS_v hs (by decide)]; exact ⟨by decide, fun _ => go, fun z => absurd rfl z⟩
  refine w_Mod_reads_11 hK _ _ N ⟨by decide, fun _ => ⟨_, m_isSign hW hp hT (by decide), ?_⟩, fun z => absurd rfl z⟩
  rintro r N1 ⟨rfl, rfl⟩
  refine ⟨zo_rng _, fun _ => k206, fun z => ⟨_, m_isSign hW hp hT (by decide), ?_⟩⟩
  rintro r N2 ⟨rfl, rfl⟩
  refine ⟨zo_rng _, fun _ => k206, fun z2 => ⟨_, m_isSign hW hp hT (by decide), ?_⟩⟩
  rintro r N3 ⟨rfl, rfl⟩
  refine ⟨zo_rng _, fun z3 => ?_, fun _ => k206⟩
  exfalso
  rcases hm with ⟨hs, -⟩ | ⟨hs, -⟩ | ⟨hs, -⟩
  · rw [hs] at z; cases z
  · rw [hs] at z2; cases z2
  · rw [hs] at z3; cases z3
/-- past + - * -/
theorem hd_cmp {tx : TX} {K : KT} {P : Int → Mm → Prop} (hK : EKr K P) (hW : WX tx) {w p : Nat} {N : Mm} (hp : p ≤ tx.2) (hT : TpM tx p N) (h43 : isS_ tx p 43 = false) (h45 : isS_ tx p 45 = false) (h42 : isS_ tx p 42 = false)
    (c263 : (isS_ tx p 60 = true ∨ isS_ tx p 61 = true) → K NM RRM 263 [(0, vr 1), (1, vi (w : Int)), (2, vi 0)] [] N) (c304 : isS_ tx p 60 = false → isS_ tx p 61 = false → K NM RRM 304 [(0, vr 1), (1, vi (w : Int)), (2, vi 0)] [] N) : k11 K w 0 N := by
  refine w_Mod_reads_11 hK _ _ N ⟨by decide, fun _ => ⟨_, m_isSign hW hp hT (by decide), ?_⟩, fun z => absurd rfl z⟩
  rintro r N1 ⟨rfl, rfl⟩
  rw [h43]
  refine ⟨by decide, fun z => absurd rfl z, fun _ => ⟨_, m_isSign hW hp hT (by decide), ?_⟩⟩
  rintro r N2 ⟨rfl, rfl⟩
  rw [h45]
  refine ⟨by decide, fun z => absurd rfl z, fun _ => ⟨_, m_isSign hW hp hT (by decide), ?_⟩⟩
  rintro r N3 ⟨rfl, rfl⟩
  rw [h42]
  refine ⟨by decide, fun _ => ⟨_, m_isSign hW hp hT (by decide), ?_⟩, fun z => absurd rfl z⟩
  rintro r N4 ⟨rfl, rfl⟩
  refine ⟨zo_rng _, fun z => c263 (Or.inl (zo_ne z)), fun z => ⟨_, m_isSign hW hp hT (by decide), ?_⟩⟩
  rintro r N5 ⟨rfl, rfl⟩
  exact ⟨zo_rng _, fun y => c304 (zo_0 z) (zo_0 y), fun y => c263 (Or.inr (zo_ne y))⟩
theorem hd_mul {tx : TX} {K : KT} {P : Int → Mm → Prop} (hK : EKr K P) (hW : WX tx) {w : Nat} {c : Int} {q : Prop} : HdM tx K w (opMul tx) (fun _ N => N 15 w = c ∧ Qb w q (N 14)) (fun N => N 15 w = c ∧ Qb w q (N 14)) := by
  intro p n N cm hp hn hT h21 hZ hop cont
  unfold opMul at hop
  by_cases e : isS_ tx p 42 = true
  · rw [if_pos e] at hop
    cases hop
    refine hd_206 hK hW hp hn hT h21 (Or.inr (Or.inr ⟨e, rfl⟩)) (fun N2 N4 a1 a2 b1 b2 => cont N2 N2 N4 0 a1 a2 (Or.inr rfl) b1 b2 ?_)
    show N4 15 w = c ∧ Qb w q (N4 14)
    rw [b2.1 15 (by omega) (fun z => z), a2.1 15 (by omega) (by omega), b2.1 14 (by omega) (fun z => z), a2.1 14 (by omega) (by omega)]
    exact hZ
  · rw [if_neg e] at hop; cases hop
theorem hd_add {tx : TX} {K : KT} {P : Int → Mm → Prop} (hK : EKr K P) (hW : WX tx) {w : Nat} {c : Int} {q : Prop} : HdM tx K w (opAdd tx) (fun p N => (N 15 w = c ∧ Qb w q (N 14)) ∧ opMul tx p = none) (fun N => N 15 w = c ∧ Qb w q (N 14)) := by
  intro p n N cm hp hn hT h21 hZ hop cont
  have key : ∀ m : Int, (isS_ tx p 43 = true ∧ m = 20) ∨ (isS_ tx p 45 = true ∧ m = 21) ∨ (isS_ tx p 42 = true ∧ m = 22) → m = cm.2 → k11 K w 0 N := by
    rintro m hm rfl
    refine hd_206 hK hW hp hn hT h21 hm (fun N2 N4 a1 a2 b1 b2 => cont N2 N2 N4 0 a1 a2 (Or.inr rfl) b1 b2 ?_)
    show N4 15 w = c ∧ Qb w q (N4 14)
    rw [b2.1 15 (by omega) (fun z => z), a2.1 15 (by omega) (by omega), b2.1 14 (by omega) (fun z => z), a2.1 14 (by omega) (by omega)]
    exact hZ.1
  unfold opAdd at hop
  by_cases e : isS_ tx p 43 = true
  · rw [if_pos e] at hop
    cases hop
    exact key 20 (Or.inl ⟨e, rfl⟩) rfl
  · rw [if_neg e] at hop
    by_cases e2 : isS_ tx p 45 = true
    · rw [if_pos e2] at hop
      cases hop
      exact key 21 (Or.inr (Or.inl ⟨e2, rfl⟩)) rfl
    · rw [if_neg e2] at hop; cases hop
theorem isS_f {tx : TX} {p : Nat} {c : Int} (h : ¬ isS_ tx p c = true) : isS_ tx p c = false := by
  cases e : isS_ tx p c
  · rfl
  · exact absurd e h
theorem isS_kf {tx : TX} {p : Nat} {c : Int} (h : tk_ tx p ≠ 4) : isS_ tx p c = false := decide_eq_false (fun z => h z.1)
theorem hd_com {tx : TX} {K : KT} {P : Int → Mm → Prop} (hK : EKr K P) (hW : WX tx) {w : Nat} (hw : w < 7) {q : Prop} : HdM tx K w (opCmp tx) (fun _ N => N 15 w = 0 ∧ Qb w q (N 14)) (fun N => N 15 w = 1 ∧ Qb w q (N 14)) := by
  intro p n N cm hp hn hT h21 hZ hop cont
  have fin : (isS_ tx p 60 = true ∨ isS_ tx p 61 = true) → K NM RRM 289 [(0, vr 1), (1, vi (w : Int))] [vi cm.2, vr 1] N := by
    intro _
    refine w_Mod_reads_289 hK _ _ N ⟨_, m_puts h21 hn, ?_⟩
    rintro N2 ⟨a1, a2⟩
    refine ⟨by omega, ?_⟩
    rintro N3 rfl
    rw [Int.toNat_natCast]
    have f3 : FrM (fun c => c = 15) (fun _ => False) N2 (upr N2 15 (up1 (N2 15) w 1)) := FrM.up rfl (by omega)
    refine ⟨_, m_nxt hW hp ((hT.st (a2.wk (fun c hc => Or.inl hc) (fun k hk => hk))).st (f3.wk (fun c hc => Or.inr (Or.inr hc)) (fun k z => z.elim))), ?_⟩
    rintro N4 ⟨b1, b2⟩
    refine cont N2 _ N4 1 a1 a2 (Or.inl rfl) b1 b2 ?_
    show N4 15 w = _ ∧ Qb w q (N4 14)
    rw [b2.1 15 (by omega) (fun z => z), upr_eq, if_pos rfl, up1_eq, if_pos rfl, b2.1 14 (by omega) (fun z => z), upr_eq, if_neg (by omega), a2.1 14 (by omega) (by omega)]
    exact ⟨rfl, hZ.2⟩
  have k263 : (isS_ tx p 60 = true ∧ cm.2 = 24) ∨ (isS_ tx p 61 = true ∧ cm.2 = 25) → K NM RRM 263 [(0, vr 1), (1, vi (w : Int)), (2, vi 0)] [] N := by
    intro hc
    refine w_Mod_reads_263 hK _ _ N ?_
    rw [Int.toNat_natCast, hZ.1]
    refine ⟨by omega, by decide, fun z => absurd rfl z, fun _ => ⟨_, m_isSign hW hp hT (by decide), ?_⟩⟩
    rintro r N1 ⟨rfl, rfl⟩
    rcases hc with ⟨hs, hc⟩ | ⟨hs, hc⟩
    · have := fin (Or.inl hs)
      rw [hc] at this
      rw [hs]; exact ⟨by decide, fun z => (by cases z), fun _ => this⟩
    · have := fin (Or.inr hs)
      rw [hc] at this
      rw [isS_v hs (by decide)]; exact ⟨by decide, fun _ => this, fun z => absurd rfl z⟩
  unfold opCmp at hop
  by_cases e : isS_ tx p 60 = true
  · rw [if_pos e] at hop
    cases hop
    exact hd_cmp hK hW hp hT (isS_v e (by decide)) (isS_v e (by decide)) (isS_v e (by decide)) (fun _ => k263 (Or.inl ⟨e, rfl⟩)) (fun z => by rw [e] at z; cases z)
  · rw [if_neg e] at hop
    by_cases e2 : isS_ tx p 61 = true
    · rw [if_pos e2] at hop
      cases hop
      exact hd_cmp hK hW hp hT (isS_v e2 (by decide)) (isS_v e2 (by decide)) (isS_v e2 (by decide)) (fun _ => k263 (Or.inr ⟨e2, rfl⟩)) (fun _ z => by rw [e2] at z; cases z)
    · rw [if_neg e2] at hop; cases hop
theorem hd_boo {tx : TX} {K : KT} {P : Int → Mm → Prop} (hK : EKr K P) (hW : WX tx) {w : Nat} (hw : w < 7) {q : Prop} {Z : Nat → Mm → Prop} (hZq : ∀ p N, Z p N → Qb w q (N 14)) : HdM tx K w (opBoo tx) Z (fun N => N 15 w = 0 ∧ Qb w q (N 14)) := by
  intro p n N cm hp hn hT h21 hZ hop cont
  have k342 : K NM RRM 342 [(0, vr 1), (1, vi (w : Int))] [vi cm.2, vr 1] N := by
    refine w_Mod_reads_342 hK _ _ N ⟨_, m_puts h21 hn, ?_⟩
    rintro N2 ⟨a1, a2⟩
    refine ⟨by omega, ?_⟩
    rintro N3 rfl
    rw [Int.toNat_natCast]
    have f3 : FrM (fun c => c = 15) (fun _ => False) N2 (upr N2 15 (up1 (N2 15) w 0)) := FrM.up rfl (by omega)
    refine ⟨_, m_nxt hW hp ((hT.st (a2.wk (fun c hc => Or.inl hc) (fun k hk => hk))).st (f3.wk (fun c hc => Or.inr (Or.inr hc)) (fun k z => z.elim))), ?_⟩
    rintro N4 ⟨b1, b2⟩
    refine cont N2 _ N4 0 a1 a2 (Or.inl rfl) b1 b2 ?_
    show N4 15 w = _ ∧ Qb w q (N4 14)
    rw [b2.1 15 (by omega) (fun z => z), upr_eq, if_pos rfl, up1_eq, if_pos rfl, b2.1 14 (by omega) (fun z => z), upr_eq, if_neg (by omega), a2.1 14 (by omega) (by omega)]
    exact ⟨rfl, hZq p N hZ⟩
  have hk : tk_ tx p = 2 ∧ ((wo_ tx p = 20 ∧ cm.2 = 26) ∨ (wo_ tx p = 21 ∧ cm.2 = 27)) := by
    unfold opBoo at hop
    by_cases e : wo_ tx p = 20
    · rw [if_pos e] at hop
      cases hop
      exact ⟨wo_k (by omega), Or.inl ⟨e, rfl⟩⟩
    · rw [if_neg e] at hop
      by_cases e2 : wo_ tx p = 21
      · rw [if_pos e2] at hop
        cases hop
        exact ⟨wo_k (by omega), Or.inr ⟨e2, rfl⟩⟩
      · rw [if_neg e2] at hop; cases hop
  have k4 : tk_ tx p ≠ 4 := by omega
  refine hd_cmp hK hW hp hT (isS_kf k4) (isS_kf k4) (isS_kf k4) (fun z => ?_) (fun _ _ => ?_)
  · rw [isS_kf k4, isS_kf k4] at z
    rcases z with z | z <;> cases z
  · have iw := m_isWord (o := 20) hp hT (by omega) (by omega)
    have iw2 := m_isWord (o := 21) hp hT (by omega) (by omega)
    refine w_Mod_reads_304 hK _ _ N ⟨_, iw, ?_⟩
    rintro r N1 ⟨rfl, rfl⟩
    rcases hk.2 with ⟨h20, hc⟩ | ⟨h21', hc⟩
    · rw [decide_eq_true h20]
      rw [hc] at k342
      refine ⟨by decide, fun _ => ⟨_, iw, ?_⟩, fun z => by cases z⟩
      rintro r N2 ⟨rfl, rfl⟩
      rw [decide_eq_true h20]
      exact ⟨by decide, fun z => (by cases z), fun _ => k342⟩
    · rw [decide_eq_false (show ¬ wo_ tx p = 20 by omega)]
      rw [hc] at k342
      refine ⟨by decide, fun z => absurd rfl z, fun _ => ⟨_, iw2, ?_⟩⟩
      rintro r N2 ⟨rfl, rfl⟩
      rw [decide_eq_true h21']
      refine ⟨by decide, fun z => (by cases z), fun _ => ⟨_, iw, ?_⟩⟩
      rintro r N3 ⟨rfl, rfl⟩
      rw [decide_eq_false (show ¬ wo_ tx p = 20 by omega)]
      exact ⟨by decide, fun _ => k342, fun z => absurd rfl z⟩
