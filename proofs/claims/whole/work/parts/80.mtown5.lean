theorem wd_st {tx : TX} {p o : Nat} {N : Mm} {A B : Mm → Prop} (hp : p ≤ tx.2) (hT : TpM tx p N) (ho : 1 ≤ o) (ho2 : o < 27) (hA : wo_ tx p ≠ o → A N) (hB : wo_ tx p = o → B N) : ∃ P1 : Int → Mm → Prop, S_Mod_isWord (w27.getD o 0) N P1 ∧ ∀ (r1 : Int) (M1 : Mm), P1 r1 M1 → rng r1 ∧ (r1 = 0 → A M1) ∧ (r1 ≠ 0 → B M1) := by
  refine ⟨_, m_isWord hp hT ho ho2, ?_⟩
  rintro r N1 ⟨rfl, rfl⟩
  exact ⟨zo_rng _, fun z => hA (of_decide_eq_false (zo_0 z)), fun z => hB (of_decide_eq_true (zo_ne z))⟩
theorem rdTown_clo (tx : TX) (k : Nat) (D : DT) (p : Nat) : rdTown tx (k + 1) D p = if tk_ tx p = 0 then .inr D else bnd (clo tx (rdL tx D p)) fun x => rdTown tx k x.1 x.2 := by
  rw [rdTown]
  split
  · rfl
  · unfold clo
    cases rdL tx D p with
    | inl f => rfl
    | inr x =>
      show (if isS_ tx x.2 59 = true then rdTown tx k x.1 (te_ tx x.2) else Sum.inl (1, tb_ tx x.2)) = bnd (if isS_ tx x.2 59 = true then Sum.inr (x.1, te_ tx x.2) else Sum.inl (1, tb_ tx x.2)) fun x => rdTown tx k x.1 x.2
      split <;> rfl
theorem clo_r {tx : TX} {β : Type} {res : Sum FLT (β × Nat)} {x : β × Nat} (h : clo tx res = .inr x) : ∃ y, res = .inr y ∧ x.1 = y.1 ∧ x.2 = te_ tx y.2 ∧ isS_ tx y.2 59 = true := by
  unfold clo at h
  obtain ⟨y, hy, h⟩ := bnd_inr h
  split at h
  · rename_i c
    cases h
    exact ⟨y, hy, rfl, rfl, c⟩
  · cases h
def TfA (N N' : Mm) : Prop := FrM (fun c => 3 ≤ c ∧ c ≤ 15) (fun k => qT k ∨ k = 1 ∨ k = 3) N N' ∧ (∀ c, 3 ≤ c → c ≤ 15 → ∀ k, k < loB c → N' c k = N c k)
theorem TfA.tr {N N1 N2 : Mm} (h : TfA N N1) (h2 : TfA N1 N2) : TfA N N2 := ⟨h.1.tr h2.1, fun c a b k hk => (h2.2 c a b k hk).trans (h.2 c a b k hk)⟩
theorem TfA.of {N N' : Mm} (h : TfM N N') : TfA N N' := ⟨h.1.wk (fun _ z => z) (fun _ z => Or.inl z), h.2⟩
/-- what reading a whole town leaves in the model -/
def PaM (tx : TX) (N : Mm) (res : Sum FLT DT) (r : Int) (N' : Mm) : Prop := (TfA N N' ∧ N' 1 1 = 0 ∧ N' 1 3 = (tx.2 : Int)) ∧ (∀ f, res = .inl f → r = 0 ∧ N' 1 9 = (f.1 : Int) + 16 * (f.2 : Int)) ∧ (∀ D, res = .inr D → r = 1 ∧ WD tx D ∧ ∃ ci, DM D ci N' ∧ ci ≤ 1000 + tx.2)
theorem m_readsAll {tx : TX} {N : Mm} (hW : WX tx) (ht : ∀ j, j < tx.2 → N 2 j = tx.1 j) (h1 : N 1 1 = (tx.2 : Int)) : S_Mod_readsAll N (PaM tx N (rdTown tx 1000 D0 0)) := by
  have hX := hW.1
  refine e_Mod_readsAll N fun K hK => w_Mod_readsAll_0 hK N ?_
  obtain ⟨R, hR⟩ : ∃ R, R = rdTown tx 1000 D0 0 := ⟨_, rfl⟩
  rw [← hR] at hK
  have key : ∀ (k : Nat) (D : DT) (p : Nat) (N1 : Mm) (ci : Nat), tx.2 - p < 2 * k → p ≤ tx.2 → TpM tx p N1 → DM D ci N1 → ci ≤ 1000 + p → WD tx D → TfA N N1 → N1 1 1 = 0 → R = rdTown tx k D p → K NM RRM 77 [(0, vr 1)] [] N1 := by
    intro k
    induction k with
    | zero => intro D p N1 ci h; omega
    | succ k ih =>
      intro D p N1 ci hk hp hT hD hci hw tf e1 he
      rw [rdTown_clo] at he
      have htk := tk_le (tx := tx) (p := p)
      have h6 := hT.2.2.2.2.1
      have h3 := hT.2.1
      have hm0 : mk_ (tk_ tx p) = 0 ↔ tk_ tx p = 0 := by
        unfold mk_
        split
        · omega
        · split
          · omega
          · split
            · omega
            · split <;> omega
      have hml := mk_le (k := tk_ tx p)
      refine w_Mod_readsAll_77 hK N1 ?_
      rw [h6]
      refine ⟨by omega, fun z => ?_, fun z => ?_⟩
      · rw [if_pos (hm0.mp z)] at he
        refine ⟨⟨tf, e1, h3⟩, fun f e => (by rw [he] at e; cases e), fun D1 e => ?_⟩
        rw [he] at e; cases e
        exact ⟨rfl, hw, ci, hD, by omega⟩
      · have hz : tk_ tx p ≠ 0 := fun y => z (hm0.mpr y)
        rw [if_neg hz] at he
        have tfm1 : ∀ N2, TfM N1 N2 → N2 1 1 = 0 ∧ N2 1 3 = (tx.2 : Int) := fun N2 t => ⟨by rw [t.1.2 1 (by show ¬ qT 1; omega)]; exact e1, by rw [t.1.2 3 (by show ¬ qT 3; omega)]; exact h3⟩
        have go : ∀ {S : (Int → Mm → Prop) → Prop}, S (PoM tx N1 (clo tx (rdL tx D p))) → ∃ P9 : Int → Mm → Prop, S P9 ∧ ∀ (r9 : Int) (M9 : Mm), P9 r9 M9 → (rng r9) ∧ (r9 ≠ 0 → K NM RRM 77 [(0, vr 1)] [] M9) ∧ (r9 = 0 → PaM tx N R 0 M9) := by
          intro S hS
          refine PoM_go (N0 := N) hS ?_ ?_
          · rintro x N2 hx hT2 ⟨ci2, hD2, hci2⟩ t2
            obtain ⟨y, hy, a1, a2, a3⟩ := clo_r hx
            have rw_ := rdL_w hw hp hy
            have hp2 := tk_pos rw_.2.2 (by have := isS_k a3; omega)
            rw [bnd_r hx] at he
            exact ih x.1 x.2 N2 ci2 (by omega) (by omega) hT2 hD2 hci2 (by rw [a1]; exact rw_.1) (tf.tr (TfA.of t2)) (tfm1 N2 t2).1 he
          · intro f N2 hf t2 e9
            rw [bnd_l hf] at he
            refine ⟨⟨tf.tr (TfA.of t2), tfm1 N2 t2⟩, fun f' e => ?_, fun D1 e => (by rw [he] at e; cases e)⟩
            rw [he] at e; cases e
            exact ⟨rfl, e9⟩
        refine wd_st (o := 1) hp hT (by omega) (by omega) (fun n1 => ?_) (fun y => go (by unfold rdL; rw [if_pos y]; exact m_readsHouse hW hp hT hD hw hci))
        refine wd_st (o := 5) hp hT (by omega) (by omega) (fun n5 => ?_) (fun y => go (by unfold rdL; rw [if_neg n1, if_pos y]; exact m_readsShuns hW hp hT hD hw hci))
        refine wd_st (o := 6) hp hT (by omega) (by omega) (fun n6 => ?_) (fun y => go (by unfold rdL; rw [if_neg n1, if_neg n5, if_pos y]; exact m_readsGap hW hp hT hD hci))
        refine wd_st (o := 8) hp hT (by omega) (by omega) (fun n8 => ?_) (fun y => go (by unfold rdL; rw [if_neg n1, if_neg n5, if_neg n6, if_neg (by omega), if_pos y]; exact m_readsPri hW hp hT hD hci))
        refine wd_st (o := 7) hp hT (by omega) (by omega) (fun n7 => ?_) (fun y => go (by unfold rdL; rw [if_neg n1, if_neg n5, if_neg n6, if_pos y]; exact m_readsRains hW hp hT hD hw hci))
        refine wd_st (o := 9) hp hT (by omega) (by omega) (fun n9 => ?_) (fun y => go (by unfold rdL; rw [if_neg n1, if_neg n5, if_neg n6, if_neg n7, if_neg n8, if_pos y]; exact m_readsLp hW hp hT hD hci))
        refine wd_st (o := 10) hp hT (by omega) (by omega) (fun n10 => ?_) (fun y => go (by unfold rdL; rw [if_neg n1, if_neg n5, if_neg n6, if_neg n7, if_neg n8, if_neg n9, if_pos y]; exact m_readsLq hW hp hT hD hci))
        refine ⟨_, m_fails (k := 1) hT, ?_⟩
        rintro r N2 ⟨rfl, a, b⟩
        have hl : clo tx (rdL tx D p) = .inl (1, tb_ tx p) := clo_l (by unfold rdL; rw [if_neg n1, if_neg n5, if_neg n6, if_neg n7, if_neg n8, if_neg n9, if_neg n10])
        rw [bnd_l hl] at he
        have t2 : TfM N1 N2 := TfM.fl b
        refine ⟨by decide, fun z => absurd rfl z, fun _ => ⟨⟨tf.tr (TfA.of t2), tfm1 N2 t2⟩, fun f' e => ?_, fun D1 e => (by rw [he] at e; cases e)⟩⟩
        rw [he] at e; cases e
        exact ⟨rfl, a⟩
  intro N1 g1 N2 g2 N3 g3 N4 g4
  have t4 : TfM N N4 := (TfM.up' g1 (by omega) (by decide)).tr ((TfM.up' g2 (by omega) (by decide)).tr ((TfM.up' g3 (by omega) (by decide)).tr (TfM.up' g4 (by omega) (by decide))))
  have c3 : N4 3 4 = 0 ∧ N4 3 5 = 5 ∧ N4 3 6 = 3 ∧ N4 3 7 = 0 := by
    rw [g4, upr_eq, if_pos rfl, g3, upr_eq, if_pos rfl, g2, upr_eq, if_pos rfl, g1, upr_eq, if_pos rfl]
    exact ⟨rfl, rfl, rfl, rfl⟩
  refine w_Mod_readsAll_32 hK _ N4 ⟨by decide, fun z => absurd z (by decide), fun _ => ⟨by decide, fun N5 g5 => ⟨by decide, fun N6 g6 => ?_⟩⟩⟩
  refine w_Mod_readsAll_32 hK _ N6 ⟨by decide, fun z => absurd z (by decide), fun _ => ⟨by decide, fun N7 g7 => ⟨by decide, fun N8 g8 => ?_⟩⟩⟩
  refine w_Mod_readsAll_32 hK _ N8 ⟨by decide, fun _ => ?_, fun z => absurd (by decide) z⟩
  have t8 : TfM N N8 := t4.tr ((TfM.up' g5 (by omega) (by decide)).tr ((TfM.up' g6 (by omega) (by decide)).tr ((TfM.up' g7 (by omega) (by decide)).tr (TfM.up' g8 (by omega) (by decide)))))
  have c11 : N8 11 2 = 1000 ∧ N8 11 3 = 1000 := by
    rw [g8, upr_eq, if_neg (by omega), g7, upr_eq, if_pos rfl, g6, upr_eq, if_neg (by omega), g5, upr_eq, if_pos rfl]
    exact ⟨rfl, rfl⟩
  have c12 : N8 12 2 = 1000 ∧ N8 12 3 = 1000 := by
    rw [g8, upr_eq, if_pos rfl, g7, upr_eq, if_neg (by omega), g6, upr_eq, if_pos rfl]
    exact ⟨rfl, rfl⟩
  have c3' : N8 3 = N4 3 := by rw [g8, upr_eq, if_neg (by omega), g7, upr_eq, if_neg (by omega), g6, upr_eq, if_neg (by omega), g5, upr_eq, if_neg (by omega)]
  intro N9 g9 N10 g10
  have t10 : TfM N N10 := t8.tr (TfM.tr (N1 := N9) (by rw [g9]; exact TfM.u1 (by show qT 23; omega)) (by rw [g10]; exact TfM.u1 (by show qT 21; omega)))
  have e23 : N10 1 23 = 0 ∧ N10 1 21 = 1000 := by
    rw [g10, upr_eq, if_pos rfl, g9, upr_eq, if_pos rfl]
    exact ⟨rfl, rfl⟩
  have ec : ∀ c, c ≠ 1 → N10 c = N8 c := fun c hc => by rw [g10, upr_eq, if_neg hc, g9, upr_eq, if_neg hc]
  have e11 : N10 1 1 = (tx.2 : Int) := by rw [t10.1.2 1 (by show ¬ qT 1; omega)]; exact h1
  have hB : S_Mod_begins N10 (fun N' => TpM tx 0 N' ∧ FrM (fun _ => False) (fun k => (4 ≤ k ∧ k ≤ 8) ∨ k = 1 ∨ k = 3) N10 N' ∧ N' 1 1 = 0) := by
    refine W_Mod_begins N10 ?_
    intro M1 d1 M2 d2 M3 d3
    have f3 : FrM (fun _ => False) (fun k => (4 ≤ k ∧ k ≤ 8) ∨ k = 1 ∨ k = 3) N10 M3 := by
      refine FrM.tr (N1 := M1) (by rw [d1]; exact FrM.u1 (by omega)) (FrM.tr (N1 := M2) (by rw [d2]; exact FrM.u1 (by omega)) (by rw [d3]; exact FrM.u1 (by omega)))
    have e3 : M3 1 3 = (tx.2 : Int) ∧ M3 1 4 = 0 ∧ M3 1 1 = 0 := by
      rw [d3, upr_eq, if_pos rfl, d2, upr_eq, if_pos rfl, d1, upr_eq, if_pos rfl]
      exact ⟨e11, rfl, rfl⟩
    refine ⟨_, m_nextToken (p := 0) hW (fun j hj => by rw [f3.1 2 (by omega) (fun z => z), t10.1.1 2 (by omega) (by omega)]; exact ht j hj) e3.1 e3.2.1 (by omega), ?_⟩
    rintro M4 ⟨a, b⟩
    exact ⟨a, f3.tr (b.wk (fun c z => z) (fun k hk => Or.inl hk)), by rw [b.2 1 (by omega)]; exact e3.2.2⟩
  refine ⟨_, hB, ?_⟩
  rintro N11 ⟨hT, fB, e1⟩
  have ec2 : ∀ c, c ≠ 1 → N11 c = N8 c := fun c hc => (fB.1 c hc (fun z => z)).trans (ec c hc)
  refine key 1000 D0 0 N11 1000 (by omega) (by omega) hT ?_ (by omega) (WD0 tx) ?_ e1 hR
  · refine ⟨⟨by rw [ec2 3 (by omega), c3']; exact c3.1, by rw [ec2 3 (by omega), c3']; exact c3.2.1, by rw [ec2 3 (by omega), c3']; exact c3.2.2.1, by rw [ec2 3 (by omega), c3']; exact c3.2.2.2, by rw [fB.2 23 (by omega)]; exact e23.1, by rw [fB.2 21 (by omega)]; exact e23.2, Nat.le_refl _⟩, fun h hh => absurd hh (Nat.not_lt_zero _), fun i hi => absurd hi (Nat.not_lt_zero _), ⟨fun _ => ?_, fun x hx => (by cases hx)⟩, ⟨fun _ => ?_, fun x hx => (by cases hx)⟩⟩
    · rw [ec2 11 (by omega), ec2 12 (by omega)]; exact ⟨c11.1, c12.1⟩
    · rw [ec2 11 (by omega), ec2 12 (by omega)]; exact ⟨c11.2, c12.2⟩
  · refine (TfA.of t10).tr ⟨fB.wk (fun c z => z.elim) (fun k hk => ?_), fun c a b k hk => by rw [fB.1 c (by omega) (fun z => z)]⟩
    rcases hk with hk | hk
    · exact Or.inl (Or.inl (by omega))
    · exact Or.inr hk
