theorem c_yRead {tx : TX} {n b : Nat} {nm : Nat → List Nat} {M : Mm} (hW : WX tx) (hT : TpC tx 0 M) (hb : At shC NN b (.inl 7)) (hN : NmC n nm b M) : S_Years_readFrom 32 2 b M (fun r M' => FrC inY M M' ∧ M' 2 1 = M 2 1 ∧ (∀ f, rdYs tx n nm 41 Y0 0 = .inl f → r = 0 ∧ M' 2 10 = (f.1 : Int) + 16 * (f.2 : Int)) ∧ (∀ Y, rdYs tx n nm 41 Y0 0 = .inr Y → r = 1 ∧ RYC Y M')) := by
  have hb4 := twn hb
  obtain ⟨R, hR⟩ : ∃ R, R = rdYs tx n nm 41 Y0 0 := ⟨_, rfl⟩
  rw [← hR]
  refine e_Years_readFrom 32 2 b M fun K hK => w_Years_readFrom_0 hK 32 atC_32 2 atC_2 b hb M ?_
  intro M1 g1
  have f1 : FrC inY M M1 := by rw [g1]; exact FrC.up (by omega)
  have key : ∀ (k i : Nat) (Y : YT) (p : Nat) (M2 : Mm), k + i = 41 → p ≤ tx.2 → TpC tx p M2 → RYC Y M2 → WY n Y → FrC inY M M2 → M2 2 1 = M 2 1 → R = rdYs tx n nm k Y p → K NN RRC 7 [(0, vr 32), (1, vr 2), (2, vr b), (3, vi (i : Int))] [] M2 := by
    intro k
    induction k with
    | zero =>
      intro i Y p M2 hk hp hT2 hY hw fr s2 he
      rw [rdYs] at he
      exact w_Years_readFrom_7 hK 32 atC_32 2 atC_2 b hb _ M2 ⟨by omega, fun _ => ⟨fr, s2, fun f hf => (by rw [he] at hf; cases hf), fun Y' h => by rw [he] at h; cases h; exact ⟨rfl, hY⟩⟩, fun z => by omega⟩
    | succ k ih =>
      intro i Y p M2 hk hp hT2 hY hw fr s2 he
      rw [rdYs] at he
      have htk := tk_le (tx := tx) (p := p)
      refine w_Years_readFrom_7 hK 32 atC_32 2 atC_2 b hb _ M2 ?_
      rw [hT2.2.2.2.2.1]
      refine ⟨by omega, fun z => by omega, fun _ => ⟨by omega, fun z => ?_, fun z => ⟨_, c_yLine hW hp hT2 hb (hN.fr (fr b (by omega)) (fr (b + 1) (by omega))) hw hY, ?_⟩⟩⟩
      · rw [if_pos (by omega)] at he
        exact ⟨fr, s2, fun f hf => (by rw [he] at hf; cases hf), fun Y' h => by rw [he] at h; cases h; exact ⟨rfl, hY⟩⟩
      · rw [if_neg (by omega)] at he
        rintro r M3 ⟨f3, s3, u1, u2⟩
        cases c : rdY tx n nm Y p with
        | inl f =>
          obtain ⟨rfl, e⟩ := u1 f c
          rw [bnd_l (clo_l c)] at he
          exact ⟨by decide, fun _ => ⟨fr.tr f3, by rw [s3, s2], fun f' hf => by rw [he] at hf; cases hf; exact ⟨rfl, e⟩, fun Y' h => (by rw [he] at h; cases h)⟩, fun y => absurd rfl y⟩
        | inr x =>
          obtain ⟨rfl, hT3, hY3⟩ := u2 x c
          have wx := rdY_w hw hp c
          have hc : clo tx (rdY tx n nm Y p) = if isS_ tx x.2 59 = true then .inr (x.1, te_ tx x.2) else .inl (1, tb_ tx x.2) := by unfold clo; rw [bnd_r c]
          refine ⟨by decide, fun y => by omega, fun _ => ⟨_, c_takeSign hW wx.2.2.1 hT3 (by decide), ?_⟩⟩
          rintro r M4 ⟨v1, v2⟩
          cases c4 : isS_ tx x.2 59
          · obtain ⟨rfl, y1, y2, y3⟩ := v2 c4
            rw [c4, if_neg Bool.false_ne_true] at hc
            rw [bnd_l hc] at he
            exact ⟨by decide, fun y => absurd rfl y, fun _ => ⟨(fr.tr f3).tr (y3.wk (fun c hc => Or.inl hc)), by rw [y2, s3, s2], fun f' hf => by rw [he] at hf; cases hf; exact ⟨rfl, y1⟩, fun Y' h => (by rw [he] at h; cases h)⟩⟩
          · obtain ⟨rfl, hT4, f4⟩ := v1 c4
            rw [c4, if_pos rfl] at hc
            rw [bnd_r hc] at he
            refine ⟨by decide, fun _ => ih (i + 1) x.1 (te_ tx x.2) M4 (by omega) (te_le wx.2.2.1).2 hT4 ?_ wx.1 ((fr.tr f3).tr (f4.1.wk (fun c hc => Or.inl hc))) (by rw [f4.2.1, s3, s2]) he, fun y => by omega⟩
            show RY x.1 (M4 32 3) (M4 33) (M4 34) (M4 35)
            rw [f4.1 32 (by omega), f4.1 33 (by omega), f4.1 34 (by omega), f4.1 35 (by omega)]
            exact hY3
  refine key 41 0 Y0 0 M1 rfl (by omega) (hT.fr (by rw [g1, upr_eq, if_neg (by omega)]) (by rw [g1, upr_eq, if_neg (by omega)])) ⟨?_, fun i hi => absurd hi (Nat.not_lt_zero _)⟩ ⟨by decide, fun i hi => absurd hi (Nat.not_lt_zero _)⟩ f1 (by rw [g1, upr_eq, if_neg (by omega)]) hR
  rw [g1, upr_eq, if_pos rfl, up1_eq, if_pos rfl]; rfl
/-- the model's frame of the years -/
def TyM (N N' : Mm) : Prop := FrM (fun c => 26 ≤ c ∧ c ≤ 29) (fun k => qT k ∨ k = 1 ∨ k = 3 ∨ k = 0) N N' ∧ (∀ k, k < 5 → N' 26 k = N 26 k) ∧ (∀ c, 27 ≤ c → c ≤ 29 → ∀ k, k < 200 → N' c k = N c k)
theorem TyM.tr {N N1 N2 : Mm} (h : TyM N N1) (h2 : TyM N1 N2) : TyM N N2 := ⟨h.1.tr h2.1, fun k hk => (h2.2.1 k hk).trans (h.2.1 k hk), fun c a b k hk => (h2.2.2 c a b k hk).trans (h.2.2 c a b k hk)⟩
theorem TyM.of {N N' : Mm} {q : Nat → Prop} (h : FrM (fun _ => False) q N N') (hq : ∀ k, q k → (qT k ∨ k = 1 ∨ k = 3 ∨ k = 0)) : TyM N N' := ⟨h.wk (fun c z => z.elim) hq, fun k _ => by rw [h.1 26 (by omega) (fun z => z)], fun c a b k _ => by rw [h.1 c (by omega) (fun z => z)]⟩
theorem TyM.up {N N' : Mm} {c k : Nat} {v : Int} (e : N' = upr N c (up1 (N c) k v)) (hc : 27 ≤ c ∧ c ≤ 29) (hk : 200 ≤ k) : TyM N N' := by
  refine ⟨FrM.up' e (by omega) (by omega), fun j hj => by rw [e, upr_eq, if_neg (by omega)], fun c' a b j hj => ?_⟩
  rw [e, upr_eq]
  by_cases q : c' = c
  · subst q; rw [if_pos rfl, up1_eq, if_neg (by omega)]
  · rw [if_neg q]
theorem TyM.u26 {N N' : Mm} {v : Int} (e : N' = upr N 26 (up1 (N 26) 5 v)) : TyM N N' := by
  refine ⟨FrM.up' e (by omega) (by omega), fun j hj => by rw [e, upr_eq, if_pos rfl, up1_eq, if_neg (by omega)], fun c' a b j hj => by rw [e, upr_eq, if_neg (by omega)]⟩
abbrev RYM (Y : YT) (N : Mm) : Prop := RY Y (N 26 5) (fun i => N 27 (200 + i)) (fun i => N 28 (200 + i)) (fun i => N 29 (200 + i))
def PyM (tx : TX) (N : Mm) (res : Sum FLT (YT × Nat)) (r : Int) (N' : Mm) : Prop := TyM N N' ∧ N' 1 1 = N 1 1 ∧ (∀ f, res = .inl f → r = 0 ∧ N' 1 9 = (f.1 : Int) + 16 * (f.2 : Int)) ∧ (∀ x, res = .inr x → r = 1 ∧ TpM tx x.2 N' ∧ RYM x.1 N')
theorem PyM_f {tx : TX} {N N' : Mm} {res : Sum FLT (YT × Nat)} {f : FLT} (hr : res = .inl f) (h : TyM N N') (h1 : N' 1 1 = N 1 1) (h2 : N' 1 9 = (f.1 : Int) + 16 * (f.2 : Int)) : PyM tx N res 0 N' := ⟨h, h1, fun f' e => by rw [hr] at e; cases e; exact ⟨rfl, h2⟩, fun x e => by rw [hr] at e; cases e⟩
/-- within a line -/
def YSt (N N5 : Mm) (L : Nat) (d : Int) : Prop := TyM N N5 ∧ N5 1 1 = N 1 1 ∧ N5 26 5 = (L : Int) ∧ N5 27 (200 + L) = d ∧ (∀ i, i < L → (N5 27 (200 + i) = N 27 (200 + i) ∧ N5 28 (200 + i) = N 28 (200 + i) ∧ N5 29 (200 + i) = N 29 (200 + i)))
theorem YSt.fr {N N5 N6 : Mm} {L : Nat} {d : Int} {q : Nat → Prop} (h : YSt N N5 L d) (f : FrM (fun _ => False) q N5 N6) (hq : ∀ k, q k → (4 ≤ k ∧ k ≤ 9) ∨ k = 36) : YSt N N6 L d := by
  obtain ⟨h1, h2, h3, h4, h5⟩ := h
  refine ⟨h1.tr (TyM.of f (fun k hk => by have := hq k hk; exact Or.inl (by rcases this with z | z; exact Or.inl z; exact Or.inr (Or.inr z)))), by rw [f.2 1 (fun z => by have := hq 1 z; omega)]; exact h2, by rw [f.1 26 (by omega) (fun z => z)]; exact h3, by rw [f.1 27 (by omega) (fun z => z)]; exact h4, ?_⟩
  rw [f.1 27 (by omega) (fun z => z), f.1 28 (by omega) (fun z => z), f.1 29 (by omega) (fun z => z)]; exact h5
theorem m_yLine {tx : TX} {p n : Nat} {nm : Nat → List Nat} {Y : YT} {N : Mm} (hW : WX tx) (hp : p ≤ tx.2) (hT : TpM tx p N) (hN : NmM n nm 0 N) (hw : WY n Y) (hY : RYM Y N) : S_Mod_readsLine N (PyM tx N (clo tx (rdY tx n nm Y p))) := by
  have t1 := te_le hp
  have hL := hY.1
  have hd := deO_in (wo_ tx p)
  have hw1 := hw.1
  refine e_Mod_readsLine N fun K hK => w_Mod_readsLine_0 hK N ?_
  obtain ⟨d, hdd⟩ : ∃ d, d = deO (wo_ tx p) := ⟨_, rfl⟩
  rw [← hdd] at hd
  have k57 : K NM RRM 57 [(0, vr 1)] [vi d] N := by
    refine w_Mod_readsLine_57 hK d N ?_
    rw [hL]
    refine ⟨by omega, fun z1 => ⟨by omega, fun z2 => ?_, fun z2 => ?_⟩, fun z1 => ?_⟩
    · have hres : rdY tx n nm Y p = bnd (yH tx n nm d (te_ tx p)) fun a => bnd (yN tx d a.2) fun c => .inr (addY Y d a.1 c.1, c.2) := by
        unfold rdY; rw [← hdd, if_neg (by omega), if_neg (by omega)]
      rw [hres] at hK
      have hl : Y.1 < 40 := by omega
      refine ⟨_, m_nxt hW hp hT, ?_⟩
      rintro N1 ⟨hT1, f1⟩
      have e1 : N1 26 5 = (Y.1 : Int) := by rw [f1.1 26 (by omega) (fun z => z), hL]
      rw [e1, show ((200 : Int) + (Y.1 : Int)).toNat = 200 + Y.1 by omega]
      refine ⟨by omega, fun N2 g2 => ?_⟩
      have f1' : TyM N N1 := TyM.of f1 (fun k hk => Or.inl (Or.inl (by omega)))
      have st2 : YSt N N2 Y.1 d := by
        refine ⟨f1'.tr (TyM.up g2 (by omega) (by omega)), by rw [g2, upr_eq, if_neg (by omega), f1.2 1 (by omega)], by rw [g2, upr_eq, if_neg (by omega)]; exact e1, by rw [g2, upr_eq, if_pos rfl, up1_eq, if_pos rfl], fun i hi => ?_⟩
        rw [g2, upr_eq, if_pos rfl, up1_eq, if_neg (by omega), upr_eq, if_neg (by omega), upr_eq, if_neg (by omega), f1.1 27 (by omega) (fun z => z), f1.1 28 (by omega) (fun z => z), f1.1 29 (by omega) (fun z => z)]
        exact ⟨rfl, rfl, rfl⟩
      have hT2 : TpM tx (te_ tx p) N2 := hT1.cell g2 (by omega)
      have k167 : ∀ (a : Nat × Nat) (c : Int × Nat) (N5 : Mm), yH tx n nm d (te_ tx p) = .inr a → yN tx d a.2 = .inr c → c.2 ≤ tx.2 → TpM tx c.2 N5 → YSt N N5 Y.1 d → (d ≤ 1 → N5 28 (200 + Y.1) = (a.1 : Int)) → (d = 0 ∨ d = 3 → N5 1 36 = c.1) → K NM RRM 167 [(0, vr 1), (2, vi ((200 : Int) + (Y.1 : Int)))] [] N5 := by
        intro a c N5 ha hc hq hT5 st e28 e36
        obtain ⟨s1, s2, s3, s4, s5⟩ := st
        refine w_Mod_readsLine_167 hK _ N5 ?_
        rw [show ((200 : Int) + (Y.1 : Int)).toNat = 200 + Y.1 by omega]
        refine ⟨by omega, fun N6 g6 N7 g7 => ?_⟩
        have e26 : N6 26 = N5 26 := by rw [g6, upr_eq, if_neg (by omega)]
        rw [e26, s3] at g7
        have hT7 : TpM tx c.2 N7 := (hT5.cell g6 (by omega)).cell g7 (by omega)
        have t7 : TyM N N7 := s1.tr ((TyM.up g6 (by omega) (by omega)).tr (TyM.u26 (v := (Y.1 : Int) + 1) (by rw [e26]; exact g7)))
        have hY7 : RYM (addY Y d a.1 c.1) N7 := by
          refine RY.add hY ?_ (fun i hi => ?_) ?_ ?_ ?_
          · rw [g7, upr_eq, if_pos rfl, up1_eq, if_pos rfl, hL]
          · show N7 27 (200 + i) = N 27 (200 + i) ∧ N7 28 (200 + i) = N 28 (200 + i) ∧ N7 29 (200 + i) = N 29 (200 + i)
            rw [g7, upr_eq, if_neg (by omega), upr_eq, if_neg (by omega), upr_eq, if_neg (by omega), g6, upr_eq, if_neg (by omega), upr_eq, if_neg (by omega), upr_eq, if_pos rfl, up1_eq, if_neg (by omega)]
            exact s5 i hi
          · show N7 27 (200 + Y.1) = d
            rw [g7, upr_eq, if_neg (by omega), g6, upr_eq, if_neg (by omega)]; exact s4
          · intro z
            show N7 28 (200 + Y.1) = (a.1 : Int)
            rw [g7, upr_eq, if_neg (by omega), g6, upr_eq, if_neg (by omega)]; exact e28 z
          · intro z
            show N7 29 (200 + Y.1) = c.1
            rw [g7, upr_eq, if_neg (by omega), g6, upr_eq, if_pos rfl, up1_eq, if_pos rfl]; exact e36 z
        have s7 : N7 1 1 = N 1 1 := by rw [g7, upr_eq, if_neg (by omega), g6, upr_eq, if_neg (by omega)]; exact s2
        have hrr : (bnd (yH tx n nm d (te_ tx p)) fun a => bnd (yN tx d a.2) fun c => (.inr (addY Y d a.1 c.1, c.2) : Sum FLT (YT × Nat))) = .inr (addY Y d a.1 c.1, c.2) := by rw [bnd_r ha, bnd_r hc]
        refine ⟨_, m_closes hW hq hT7, ?_⟩
        rintro r N8 ⟨f8, u1, u2⟩
        have hcl : clo tx (bnd (yH tx n nm d (te_ tx p)) fun a => bnd (yN tx d a.2) fun c => (.inr (addY Y d a.1 c.1, c.2) : Sum FLT (YT × Nat))) = if isS_ tx c.2 59 = true then .inr (addY Y d a.1 c.1, te_ tx c.2) else .inl (1, tb_ tx c.2) := by unfold clo; rw [bnd_r hrr]
        have t8 : TyM N N8 := t7.tr (TyM.of f8 (fun k hk => Or.inl (Or.inl hk)))
        have s8 : N8 1 1 = N 1 1 := by rw [f8.2 1 (by omega)]; exact s7
        cases c9 : isS_ tx c.2 59
        · obtain ⟨rfl, e⟩ := u2 c9
          rw [c9, if_neg Bool.false_ne_true] at hcl
          exact ⟨Or.inl rfl, PyM_f (f := (1, tb_ tx c.2)) hcl t8 s8 e⟩
        · obtain ⟨rfl, hT8⟩ := u1 c9
          rw [c9, if_pos rfl] at hcl
          refine ⟨Or.inr rfl, t8, s8, fun f hf => (by rw [hcl] at hf; cases hf), fun x hx => ?_⟩
          rw [hcl] at hx; cases hx
          refine ⟨rfl, hT8, ?_⟩
          show RY _ (N8 26 5) (fun i => N8 27 (200 + i)) (fun i => N8 28 (200 + i)) (fun i => N8 29 (200 + i))
          rw [f8.1 26 (by omega) (fun z => z), f8.1 27 (by omega) (fun z => z), f8.1 28 (by omega) (fun z => z), f8.1 29 (by omega) (fun z => z)]
          exact hY7
      have num : ∀ (a : Nat × Nat) (N5 : Mm) (lo hi : Int), rng lo → rng hi → yH tx n nm d (te_ tx p) = .inr a → yN tx d a.2 = tkN tx a.2 lo hi → a.2 ≤ tx.2 → TpM tx a.2 N5 → YSt N N5 Y.1 d → (d ≤ 1 → N5 28 (200 + Y.1) = (a.1 : Int)) → ∃ P7 : Int → Mm → Prop, S_Mod_needsNumber lo hi N5 P7 ∧ ∀ (r5 : Int) (N7 : Mm), P7 r5 N7 → rng r5 ∧ (r5 = 0 → PyM tx N (clo tx (bnd (yH tx n nm d (te_ tx p)) fun a => bnd (yN tx d a.2) fun c => .inr (addY Y d a.1 c.1, c.2))) 0 N7) ∧ (r5 ≠ 0 → ∃ c : Int × Nat, yN tx d a.2 = .inr c ∧ TpM tx c.2 N7 ∧ YSt N N7 Y.1 d ∧ (d ≤ 1 → N7 28 (200 + Y.1) = (a.1 : Int)) ∧ (d = 0 ∨ d = 3 → N7 1 36 = c.1)) := by
        intro a N5 lo hi hlo hhi ha hy hq hT5 st e28
        refine ⟨_, m_needsNumber hW hq hT5 hlo hhi, ?_⟩
        rintro r N7 ⟨f7, u1, u2⟩
        have st7 := st.fr f7 (fun k hk => hk)
        cases c : tkN tx a.2 lo hi with
        | inl f =>
          obtain ⟨rfl, e⟩ := u1 f c
          exact ⟨by decide, fun _ => PyM_f (f := f) (clo_l (by rw [bnd_r ha, bnd_l (hy.trans c)])) st7.1 st7.2.1 e, fun z => absurd rfl z⟩
        | inr x =>
          obtain ⟨rfl, hT7, e⟩ := u2 x c
          exact ⟨by decide, fun z => absurd z (by decide), fun _ => ⟨x, hy.trans c, hT7, st7, fun z => by rw [f7.1 28 (by omega) (fun z => z)]; exact e28 z, fun _ => e⟩⟩
      have k150 : ∀ (a : Nat × Nat) (N5 : Mm), yH tx n nm d (te_ tx p) = .inr a → d ≠ 0 → a.2 ≤ tx.2 → TpM tx a.2 N5 → YSt N N5 Y.1 d → (d ≤ 1 → N5 28 (200 + Y.1) = (a.1 : Int)) → K NM RRM 150 [(0, vr 1), (1, vi d), (2, vi ((200 : Int) + (Y.1 : Int)))] [] N5 := by
        intro a N5 ha h0 hq hT5 st e28
        refine w_Mod_readsLine_150 hK _ _ N5 ⟨by omega, fun z => ?_, fun z => ?_⟩
        · exact k167 a (0, a.2) N5 ha (by unfold yN; rw [if_neg h0, if_neg z]) hq hT5 st e28 (fun y => by omega)
        · have hy : yN tx d a.2 = tkN tx a.2 1 99 := by unfold yN; rw [if_neg h0, if_pos z]
          obtain ⟨P7, hP, hR⟩ := num a N5 1 99 (by decide) (by decide) ha hy hq hT5 st e28
          refine ⟨P7, hP, fun r N7 h => ?_⟩
          obtain ⟨a1, a2, a3⟩ := hR r N7 h
          refine ⟨a1, fun y => ?_, a2⟩
          obtain ⟨c, b1, b2, b3, b4, b5⟩ := a3 y
          exact k167 a c N7 ha b1 (yN_r hq b1).2.2.2 b2 b3 b4 b5
      rw [hres]
      refine ⟨by omega, fun z3 => ⟨by omega, fun z4 => ?_, fun z4 => by omega⟩, fun z3 => ?_⟩
      · exact k150 (0, te_ tx p) N2 (by unfold yH; rw [if_neg (by omega)]) z4 t1.2 hT2 st2 (fun y => by omega)
      · have hN2 : NmM n nm 0 N2 := by
          obtain ⟨q1, q2, q3⟩ := hN
          refine ⟨?_, q2, fun h hh => ?_⟩
          · rw [g2, upr_eq, if_neg (by omega), f1.1 3 (by omega) (fun z => z)]; exact q1
          · rw [g2, upr_eq, if_neg (by omega), f1.1 4 (by omega) (fun z => z)]; exact q3 h hh
        refine ⟨_, m_needsHouse (r := 0) t1.2 hT2 (by omega) hN2, ?_⟩
        rintro r N4 ⟨f4, u1, u2⟩
        have st4 := st2.fr f4 (fun k hk => by omega)
        cases c : tkH tx n nm (te_ tx p) with
        | inl f =>
          obtain ⟨rfl, e⟩ := u1 f c
          exact ⟨by decide, fun z => absurd rfl z, fun _ => PyM_f (f := f) (clo_l (bnd_l (by unfold yH; rw [if_pos (by omega), bnd_l c]))) st4.1 st4.2.1 e⟩
        | inr a =>
          obtain ⟨rfl, e36, hT4⟩ := u2 a c
          have hyH : yH tx n nm d (te_ tx p) = .inr (a, te_ tx (te_ tx p)) := by unfold yH; rw [if_pos (by omega), bnd_r c]
          refine ⟨by decide, fun _ => ⟨by omega, fun N5 g5 => ?_⟩, fun z => absurd z (by decide)⟩
          rw [e36] at g5
          have hT5 : TpM tx (te_ tx p) N5 := hT4.cell g5 (by omega)
          have st5 : YSt N N5 Y.1 d := by
            obtain ⟨s1, s2, s3, s4, s5⟩ := st4
            refine ⟨s1.tr (TyM.up g5 (by omega) (by omega)), by rw [g5, upr_eq, if_neg (by omega)]; exact s2, by rw [g5, upr_eq, if_neg (by omega)]; exact s3, by rw [g5, upr_eq, if_neg (by omega)]; exact s4, fun i hi => ?_⟩
            rw [g5, upr_eq, if_neg (by omega), upr_eq, if_pos rfl, up1_eq, if_neg (by omega), upr_eq, if_neg (by omega)]
            exact s5 i hi
          have e28 : N5 28 (200 + Y.1) = (a : Int) := by rw [g5, upr_eq, if_pos rfl, up1_eq, if_pos rfl]
          have t2 := te_le t1.2
          refine ⟨_, m_nxt hW t1.2 hT5, ?_⟩
          rintro N6 ⟨hT6, f6⟩
          have st6 := st5.fr f6 (fun k hk => by omega)
          have e28' : N6 28 (200 + Y.1) = (a : Int) := by rw [f6.1 28 (by omega) (fun z => z)]; exact e28
          refine ⟨by omega, fun z0 => k150 (a, te_ tx (te_ tx p)) N6 hyH z0 t2.2 hT6 st6 (fun _ => e28'), fun z0 => ?_⟩
          have hy : yN tx d (te_ tx (te_ tx p)) = tkN tx (te_ tx (te_ tx p)) 0 6 := by unfold yN; rw [if_pos z0]
          obtain ⟨P7, hP, hR⟩ := num (a, te_ tx (te_ tx p)) N6 0 6 (by decide) (by decide) hyH hy t2.2 hT6 st6 (fun _ => e28')
          refine ⟨P7, hP, fun r N7 h => ?_⟩
          obtain ⟨a1, a2, a3⟩ := hR r N7 h
          refine ⟨a1, a2, fun y => ?_⟩
          obtain ⟨c', b1, b2, b3, b4, b5⟩ := a3 y
          exact w_Mod_readsLine_150 hK _ _ N7 ⟨by omega, fun z => k167 (a, te_ tx (te_ tx p)) c' N7 hyH b1 (yN_r t2.2 b1).2.2.2 b2 b3 b4 b5, fun z => by omega⟩
    · refine ⟨_, m_fails (k := 5) hT, ?_⟩
      rintro r N2 ⟨rfl, a, b⟩
      exact ⟨Or.inl rfl, PyM_f (f := (5, tb_ tx p)) (clo_l (by unfold rdY; rw [← hdd, if_neg (by omega), if_pos (by omega)])) (TyM.of b (fun k hk => Or.inl (Or.inl (by omega)))) (b.2 1 (by omega)) a⟩
    · refine ⟨_, m_fails (k := 1) hT, ?_⟩
      rintro r N2 ⟨rfl, a, b⟩
      exact ⟨Or.inl rfl, PyM_f (f := (1, tb_ tx p)) (clo_l (by unfold rdY; rw [← hdd, if_pos (by omega)])) (TyM.of b (fun k hk => Or.inl (Or.inl (by omega)))) (b.2 1 (by omega)) a⟩
  unfold deO at hdd
  refine wd_st (o := 11) hp hT (by omega) (by omega) (fun n1 => ?_) (fun y => ?_)
  · rw [if_neg n1] at hdd
    refine wd_st (o := 12) hp hT (by omega) (by omega) (fun n2 => ?_) (fun y => ?_)
    · rw [if_neg n2] at hdd
      refine wd_st (o := 13) hp hT (by omega) (by omega) (fun n3 => ?_) (fun y => ?_)
      · rw [if_neg n3] at hdd
        refine wd_st (o := 14) hp hT (by omega) (by omega) (fun n4 => ?_) (fun y => ?_)
        · rw [if_neg n4] at hdd
          rw [hdd] at k57; exact k57
        · rw [if_pos y] at hdd
          rw [hdd] at k57; exact k57
      · rw [if_pos y] at hdd
        rw [hdd] at k57; exact k57
    · rw [if_pos y] at hdd
      rw [hdd] at k57; exact k57
  · rw [if_pos y] at hdd
    rw [hdd] at k57; exact k57
