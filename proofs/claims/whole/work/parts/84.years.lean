/-- the years while they are told: how many lines, deeds, houses, numbers -/
abbrev YT : Type := Nat × (Nat → Int) × (Nat → Nat) × (Nat → Int)
def Y0 : YT := (0, fun _ => 0, fun _ => 0, fun _ => 0)
def addY (Y : YT) (d : Int) (h : Nat) (v : Int) : YT := (Y.1 + 1, up1 Y.2.1 Y.1 d, up1 Y.2.2.1 Y.1 h, up1 Y.2.2.2 Y.1 v)
def deO (o : Nat) : Int := if o = 11 then 0 else if o = 12 then 1 else if o = 13 then 2 else if o = 14 then 3 else -1
def yH (tx : TX) (n : Nat) (nm : Nat → List Nat) (d : Int) (q : Nat) : Sum FLT (Nat × Nat) := if d ≤ 1 then bnd (tkH tx n nm q) fun a => .inr (a, te_ tx q) else .inr (0, q)
def yN (tx : TX) (d : Int) (q : Nat) : Sum FLT (Int × Nat) := if d = 0 then tkN tx q 0 6 else if d = 3 then tkN tx q 1 99 else .inr (0, q)
def rdY (tx : TX) (n : Nat) (nm : Nat → List Nat) (Y : YT) (p : Nat) : Sum FLT (YT × Nat) := if deO (wo_ tx p) = -1 then .inl (1, tb_ tx p) else if Y.1 = 40 then .inl (5, tb_ tx p) else bnd (yH tx n nm (deO (wo_ tx p)) (te_ tx p)) fun a => bnd (yN tx (deO (wo_ tx p)) a.2) fun c => .inr (addY Y (deO (wo_ tx p)) a.1 c.1, c.2)
def rdYs (tx : TX) (n : Nat) (nm : Nat → List Nat) : Nat → YT → Nat → Sum FLT YT
  | 0, Y, _ => .inr Y
  | k + 1, Y, p => if tk_ tx p = 0 then .inr Y else bnd (clo tx (rdY tx n nm Y p)) fun x => rdYs tx n nm k x.1 x.2
def WY (n : Nat) (Y : YT) : Prop := Y.1 ≤ 40 ∧ ∀ i, i < Y.1 → ((0 ≤ Y.2.1 i ∧ Y.2.1 i ≤ 3) ∧ (Y.2.1 i ≤ 1 → Y.2.2.1 i < n) ∧ (Y.2.1 i = 0 → 0 ≤ Y.2.2.2 i ∧ Y.2.2.2 i ≤ 6) ∧ (Y.2.1 i = 3 → 1 ≤ Y.2.2.2 i ∧ Y.2.2.2 i ≤ 99))
theorem deO_in (o : Nat) : -1 ≤ deO o ∧ deO o ≤ 3 := by
  unfold deO
  split
  · omega
  · split
    · omega
    · split
      · omega
      · split <;> omega
theorem deO_k {tx : TX} {p : Nat} (h : deO (wo_ tx p) ≠ -1) : tk_ tx p ≠ 0 := by
  have := wo_k (tx := tx) (p := p) (fun z => h (by rw [z]; rfl))
  omega
theorem yH_r {tx : TX} {n q : Nat} {nm : Nat → List Nat} {d : Int} {x : Nat × Nat} (hq : q ≤ tx.2) (h : yH tx n nm d q = .inr x) : (d ≤ 1 → x.1 < n) ∧ q ≤ x.2 ∧ x.2 ≤ tx.2 := by
  have t := te_le hq
  unfold yH at h
  split at h
  · obtain ⟨a, ha, h⟩ := bnd_inr h
    cases h
    exact ⟨fun _ => (tkH_r ha).1, t.1, t.2⟩
  · rename_i c
    cases h
    exact ⟨fun z => absurd z c, Nat.le_refl _, hq⟩
theorem yN_r {tx : TX} {q : Nat} {d : Int} {x : Int × Nat} (hq : q ≤ tx.2) (h : yN tx d q = .inr x) : (d = 0 → 0 ≤ x.1 ∧ x.1 ≤ 6) ∧ (d = 3 → 1 ≤ x.1 ∧ x.1 ≤ 99) ∧ q ≤ x.2 ∧ x.2 ≤ tx.2 := by
  unfold yN at h
  split at h
  · have := tkN_r hq h
    exact ⟨fun _ => by omega, fun z => by omega, by omega, by omega⟩
  · split at h
    · have := tkN_r hq h
      exact ⟨fun z => by omega, fun _ => by omega, by omega, by omega⟩
    · cases h
      exact ⟨fun z => by omega, fun z => by omega, Nat.le_refl _, hq⟩
theorem rdY_w {tx : TX} {n p : Nat} {nm : Nat → List Nat} {Y : YT} {x : YT × Nat} (hw : WY n Y) (hp : p ≤ tx.2) (h : rdY tx n nm Y p = .inr x) : WY n x.1 ∧ p < x.2 ∧ x.2 ≤ tx.2 ∧ x.1.1 = Y.1 + 1 := by
  unfold rdY at h
  split at h
  · cases h
  · rename_i c1
    split at h
    · cases h
    · rename_i c2
      obtain ⟨a, ha, h⟩ := bnd_inr h
      obtain ⟨c, hc, h⟩ := bnd_inr h
      have k1 := tk_pos hp (deO_k c1)
      have ra := yH_r k1.2 ha
      have rc := yN_r ra.2.2 hc
      have hd := deO_in (wo_ tx p)
      have w1 := hw.1
      cases h
      refine ⟨⟨by show Y.1 + 1 ≤ 40; omega, fun i hi => ?_⟩, by show p < c.2; omega, rc.2.2.2, rfl⟩
      have hi2 : i < Y.1 + 1 := hi
      show (0 ≤ up1 Y.2.1 Y.1 _ i ∧ up1 Y.2.1 Y.1 _ i ≤ 3) ∧ (up1 Y.2.1 Y.1 _ i ≤ 1 → up1 Y.2.2.1 Y.1 _ i < n) ∧ (up1 Y.2.1 Y.1 _ i = 0 → 0 ≤ up1 Y.2.2.2 Y.1 _ i ∧ up1 Y.2.2.2 Y.1 _ i ≤ 6) ∧ (up1 Y.2.1 Y.1 _ i = 3 → 1 ≤ up1 Y.2.2.2 Y.1 _ i ∧ up1 Y.2.2.2 Y.1 _ i ≤ 99)
      rw [up1_eq, up1_eq, up1_eq]
      by_cases e : i = Y.1
      · rw [if_pos e, if_pos e, if_pos e]
        exact ⟨by omega, ra.1, rc.1, rc.2.1⟩
      · rw [if_neg e, if_neg e, if_neg e]
        exact hw.2 i (by omega)
/-- the years as they lie somewhere -/
def RY (Y : YT) (L : Int) (D H V : Nat → Int) : Prop := L = (Y.1 : Int) ∧ ∀ i, i < Y.1 → (D i = Y.2.1 i ∧ (Y.2.1 i ≤ 1 → H i = (Y.2.2.1 i : Int)) ∧ (Y.2.1 i = 0 ∨ Y.2.1 i = 3 → V i = Y.2.2.2 i))
theorem RY.add {Y : YT} {L L' : Int} {D H V D' H' V' : Nat → Int} {d v : Int} {h : Nat} (r : RY Y L D H V) (e : L' = L + 1) (k : ∀ i, i < Y.1 → (D' i = D i ∧ H' i = H i ∧ V' i = V i)) (hd : D' Y.1 = d) (hh : d ≤ 1 → H' Y.1 = (h : Int)) (hv : d = 0 ∨ d = 3 → V' Y.1 = v) : RY (addY Y d h v) L' D' H' V' := by
  refine ⟨by rw [e, r.1]; show (Y.1 : Int) + 1 = ((Y.1 + 1 : Nat) : Int); omega, fun i hi => ?_⟩
  have hi2 : i < Y.1 + 1 := hi
  show D' i = up1 Y.2.1 Y.1 d i ∧ (up1 Y.2.1 Y.1 d i ≤ 1 → H' i = ((up1 Y.2.2.1 Y.1 h i : Nat) : Int)) ∧ (up1 Y.2.1 Y.1 d i = 0 ∨ up1 Y.2.1 Y.1 d i = 3 → V' i = up1 Y.2.2.2 Y.1 v i)
  rw [up1_eq, up1_eq, up1_eq]
  by_cases c : i = Y.1
  · rw [if_pos c, if_pos c, if_pos c, c]
    exact ⟨hd, hh, hv⟩
  · rw [if_neg c, if_neg c, if_neg c]
    obtain ⟨k1, k2, k3⟩ := k i (by omega)
    rw [k1, k2, k3]
    exact r.2 i (by omega)
abbrev RYC (Y : YT) (M : Mm) : Prop := RY Y (M 32 3) (M 33) (M 34) (M 35)
theorem c_deedOf {M : Mm} {o : Nat} (ho : o < 27) : S_Years_deedOf o M (fun r M' => M' = M ∧ r = deO o) := by
  refine W_Years_deedOf o ho M ⟨_, W_JEnum_ordinal _ ho M (P := fun r M' => r = (o : Int) ∧ M' = M) ⟨rfl, rfl⟩, ?_⟩
  rintro r M1 ⟨rfl, rfl⟩
  rw [Int.toNat_natCast]
  have tab : ∀ o, o < 27 → (wS.getD o 0 = 17 ↔ o = 11) ∧ (wS.getD o 0 = 18 ↔ o = 12) ∧ (wS.getD o 0 = 19 ↔ o = 13) ∧ (wS.getD o 0 = 20 ↔ o = 14) := by decide +kernel
  obtain ⟨t1, t2, t3, t4⟩ := tab o ho
  unfold deO
  refine ⟨by omega, fun z => ⟨rfl, ?_⟩, fun z => ⟨rfl, ?_⟩, fun z => ⟨rfl, ?_⟩, fun z => ⟨rfl, ?_⟩, fun z => ⟨rfl, ?_⟩⟩
  · rw [if_pos (t1.mp z)]
  · have := t2.mp z; rw [if_neg (by omega), if_pos this]
  · have := t3.mp z; rw [if_neg (by omega), if_neg (by omega), if_pos this]
  · have := t4.mp z; rw [if_neg (by omega), if_neg (by omega), if_neg (by omega), if_pos this]
  · rw [if_neg (fun y => z.1 (t1.mpr y)), if_neg (fun y => z.2.1 (t2.mpr y)), if_neg (fun y => z.2.2.1 (t3.mpr y)), if_neg (fun y => z.2.2.2 (t4.mpr y))]
theorem c_yHouse {tx : TX} {p n b L : Nat} {nm : Nat → List Nat} {M : Mm} (hW : WX tx) (hp : p ≤ tx.2) (hT : TpC tx p M) (hb : At shC NN b (.inl 7)) (hN : NmC n nm b M) (hL : M 32 3 = (L : Int)) (hl : L < 40) : S_Years_readHouse 32 2 b M (fun r M' => FrC (fun c => c = 2 ∨ c = 34) M M' ∧ M' 2 1 = M 2 1 ∧ (∀ f, tkH tx n nm p = .inl f → r = 0 ∧ M' 2 10 = (f.1 : Int) + 16 * (f.2 : Int)) ∧ (∀ a, tkH tx n nm p = .inr a → r = 1 ∧ TpC tx (te_ tx p) M' ∧ M' 34 = up1 (M 34) L (a : Int))) := by
  have hb4 := twn hb
  refine W_Years_readHouse 32 atC_32 2 atC_2 b hb M ⟨_, c_houseNamed hp hT hb hN, ?_⟩
  rintro r M1 ⟨f1, s1, u1, u2⟩
  rw [hL, Int.toNat_natCast]
  refine ⟨by omega, fun M2 g2 => ?_⟩
  have e32 : M2 32 3 = (L : Int) := by rw [g2, upr_eq, if_neg (by omega), f1 32 (by omega), hL]
  have e34 : M2 34 = up1 (M 34) L r := by rw [g2, upr_eq, if_pos rfl, f1 34 (by omega)]
  have f2 : FrC (fun c => c = 2 ∨ c = 34) M M2 := (f1.wk (fun c hc => Or.inl hc)).tr (by rw [g2]; exact FrC.up (Or.inr rfl))
  have s2 : M2 2 1 = M 2 1 := by rw [g2, upr_eq, if_neg (by omega)]; exact s1
  show (0 ≤ M2 32 3 ∧ M2 32 3 < 40) ∧ rng (M2 34 (M2 32 3).toNat) ∧ _
  rw [e32, Int.toNat_natCast]
  have hv : M2 34 L = r := by rw [e34, up1_eq, if_pos rfl]
  show (0 ≤ (L : Int) ∧ (L : Int) < 40) ∧ rng (M2 34 L) ∧ (M2 34 L ≠ -1 → _) ∧ (M2 34 L = -1 → _)
  rw [hv]
  cases c : tkH tx n nm p with
  | inl f =>
    obtain ⟨rfl, e⟩ := u1 f c
    refine ⟨by omega, by decide, fun z => absurd rfl z, fun _ => ⟨f2, s2, fun f' hf => ?_, fun a ha => (by cases ha)⟩⟩
    cases hf
    exact ⟨rfl, by rw [g2, upr_eq, if_neg (by omega)]; exact e⟩
  | inr a =>
    obtain ⟨rfl, rfl⟩ := u2 a c
    have ra := tkH_r c
    have h7 := hN.2.1
    refine ⟨by omega, by omega, fun _ => ?_, fun z => by omega⟩
    have hT2 : TpC tx p M2 := hT.fr (by rw [g2, upr_eq, if_neg (by omega)]) (by rw [g2, upr_eq, if_neg (by omega)])
    refine ⟨_, c_adv hW hp hT2, ?_⟩
    rintro M3 ⟨hT3, f3⟩
    refine ⟨f2.tr (f3.1.wk (fun c hc => Or.inl hc)), by rw [f3.2.1]; exact s2, fun f hf => (by cases hf), fun a' ha => ?_⟩
    cases ha
    exact ⟨rfl, hT3, by rw [f3.1 34 (by omega)]; exact e34⟩
theorem c_yNumber {tx : TX} {p L : Nat} {M : Mm} {lo hi : Int} (hW : WX tx) (hp : p ≤ tx.2) (hT : TpC tx p M) (hlo : rng lo) (hhi : rng hi) (hL : M 32 3 = (L : Int)) (hl : L < 40) : S_Years_readNumber 32 2 lo hi M (fun r M' => FrC (fun c => c = 2 ∨ c = 35) M M' ∧ M' 2 1 = M 2 1 ∧ (∀ f, tkN tx p lo hi = .inl f → r = 0 ∧ M' 2 10 = (f.1 : Int) + 16 * (f.2 : Int)) ∧ (∀ x, tkN tx p lo hi = .inr x → r = 1 ∧ TpC tx x.2 M' ∧ M' 35 = up1 (M 35) L x.1)) := by
  refine W_Years_readNumber 32 atC_32 2 atC_2 _ _ M ⟨_, c_takeNumber hW hp hT hlo hhi, ?_⟩
  rintro r M1 ⟨f1, s1, u1, u2⟩
  cases c : tkN tx p lo hi with
  | inl f =>
    obtain ⟨rfl, e⟩ := u1 f c
    exact ⟨by decide, fun z => absurd rfl z, fun _ => ⟨f1.wk (fun c hc => Or.inl hc), s1, fun f' hf => by cases hf; exact ⟨rfl, e⟩, fun x hx => (by cases hx)⟩⟩
  | inr x =>
    obtain ⟨rfl, hT1, e⟩ := u2 x c
    rw [f1 32 (by omega), hL, Int.toNat_natCast]
    refine ⟨by decide, fun _ => ⟨by omega, fun M2 g2 => ?_⟩, fun z => absurd z (by decide)⟩
    refine ⟨(f1.wk (fun c hc => Or.inl hc)).tr (by rw [g2]; exact FrC.up (Or.inr rfl)), by rw [g2, upr_eq, if_neg (by omega)]; exact s1, fun f hf => (by cases hf), fun y hy => ?_⟩
    cases hy
    exact ⟨rfl, hT1.fr (by rw [g2, upr_eq, if_neg (by omega)]) (by rw [g2, upr_eq, if_neg (by omega)]), by rw [g2, upr_eq, if_pos rfl, f1 35 (by omega), e]⟩
/-- what a line of the years leaves in the class -/
abbrev inY (c : Nat) : Prop := c = 2 ∨ (32 ≤ c ∧ c ≤ 35)
def PyC (tx : TX) (M : Mm) (res : Sum FLT (YT × Nat)) (r : Int) (M' : Mm) : Prop := FrC inY M M' ∧ M' 2 1 = M 2 1 ∧ (∀ f, res = .inl f → r = 0 ∧ M' 2 10 = (f.1 : Int) + 16 * (f.2 : Int)) ∧ (∀ x, res = .inr x → r = 1 ∧ TpC tx x.2 M' ∧ RYC x.1 M')
theorem PyC_f {tx : TX} {M M' : Mm} {res : Sum FLT (YT × Nat)} {f : FLT} (hr : res = .inl f) (h : FrC inY M M') (h1 : M' 2 1 = M 2 1) (h2 : M' 2 10 = (f.1 : Int) + 16 * (f.2 : Int)) : PyC tx M res 0 M' := ⟨h, h1, fun f' e => by rw [hr] at e; cases e; exact ⟨rfl, h2⟩, fun x e => by rw [hr] at e; cases e⟩
theorem c_yLine {tx : TX} {p n b : Nat} {nm : Nat → List Nat} {Y : YT} {M : Mm} (hW : WX tx) (hp : p ≤ tx.2) (hT : TpC tx p M) (hb : At shC NN b (.inl 7)) (hN : NmC n nm b M) (hw : WY n Y) (hY : RYC Y M) : S_Years_readLine 32 2 b M (PyC tx M (rdY tx n nm Y p)) := by
  have hb4 := twn hb
  have hlt := wo_lt tx p
  have t1 := te_le hp
  have hL := hY.1
  have hd := deO_in (wo_ tx p)
  have hw1 := hw.1
  refine e_Years_readLine 32 2 b M fun K hK => w_Years_readLine_0 hK 32 atC_32 2 atC_2 b hb M ⟨wo_ tx p, hT.2.2.2.2.2.1, hlt, _, c_deedOf hlt, ?_⟩
  rintro r M1 ⟨hM, rfl⟩
  obtain rfl := hM.symm
  obtain ⟨d, hdd⟩ : ∃ d, d = deO (wo_ tx p) := ⟨_, rfl⟩
  rw [← hdd] at hd ⊢
  rw [hL]
  refine ⟨by omega, fun z1 => ⟨by omega, fun z2 => ?_, fun z2 => ?_⟩, fun z1 => ?_⟩
  · have hres : rdY tx n nm Y p = bnd (yH tx n nm d (te_ tx p)) fun a => bnd (yN tx d a.2) fun c => .inr (addY Y d a.1 c.1, c.2) := by
      unfold rdY; rw [← hdd, if_neg z1, if_neg (by omega)]
    rw [hres] at hK
    have hl : Y.1 < 40 := by omega
    refine ⟨_, c_adv hW hp hT, ?_⟩
    rintro M2 ⟨hT2, f2⟩
    rw [f2.1 32 (by omega), hL, Int.toNat_natCast]
    refine ⟨by omega, fun M3 g3 => ?_⟩
    have f23 : FrC inY M2 M3 := by rw [g3]; exact FrC.up (by omega)
    have f3 : FrC inY M M3 := FrC.tr (p := inY) (f2.1.wk (fun c hc => Or.inl hc)) f23
    have e33 : M3 33 = up1 (M 33) Y.1 d := by rw [g3, upr_eq, if_pos rfl, f2.1 33 (by omega)]
    have e32 : M3 32 3 = (Y.1 : Int) := by rw [g3, upr_eq, if_neg (by omega), f2.1 32 (by omega), hL]
    have e34 : M3 34 = M 34 := by rw [g3, upr_eq, if_neg (by omega), f2.1 34 (by omega)]
    have e35 : M3 35 = M 35 := by rw [g3, upr_eq, if_neg (by omega), f2.1 35 (by omega)]
    have s3 : M3 2 1 = M 2 1 := by rw [g3, upr_eq, if_neg (by omega)]; exact f2.2.1
    have hT3 : TpC tx (te_ tx p) M3 := hT2.fr (by rw [g3, upr_eq, if_neg (by omega)]) (by rw [g3, upr_eq, if_neg (by omega)])
    -- the end
    have kend : ∀ (a : Nat × Nat) (c : Int × Nat) (M5 : Mm), yH tx n nm d (te_ tx p) = .inr a → yN tx d a.2 = .inr c → TpC tx c.2 M5 → FrC inY M M5 → M5 2 1 = M 2 1 → M5 32 3 = (Y.1 : Int) → M5 33 = up1 (M 33) Y.1 d → (∀ i, i < Y.1 → (M5 34 i = M 34 i ∧ M5 35 i = M 35 i)) → (d ≤ 1 → M5 34 Y.1 = (a.1 : Int)) → (d = 0 ∨ d = 3 → M5 35 Y.1 = c.1) → ∀ M6 : Mm, M6 = upr M5 32 (up1 (M5 32) 3 (M5 32 3 + 1)) → PyC tx M (bnd (yH tx n nm d (te_ tx p)) fun a => bnd (yN tx d a.2) fun c => .inr (addY Y d a.1 c.1, c.2)) 1 M6 := by
      intro a c M5 ha hc hT5 f5 s5 e1 e2 e3 e4 e5 M6 g6
      have e6 : ∀ q, q ≠ 32 → M6 q = M5 q := fun q hq => by rw [g6, upr_eq, if_neg hq]
      refine ⟨f5.tr (by rw [g6]; exact FrC.up (by omega)), by rw [e6 2 (by omega)]; exact s5, fun f hf => (by rw [bnd_r ha, bnd_r hc] at hf; cases hf), fun x hx => ?_⟩
      rw [bnd_r ha, bnd_r hc] at hx; cases hx
      refine ⟨rfl, hT5.fr (e6 2 (by omega)) (e6 3 (by omega)), ?_⟩
      refine hY.add (by rw [g6, upr_eq, if_pos rfl, up1_eq, if_pos rfl, e1, hL]) (fun i hi => ?_) ?_ ?_ ?_
      · rw [e6 33 (by omega), e6 34 (by omega), e6 35 (by omega), e2, up1_eq, if_neg (by omega)]
        exact ⟨rfl, (e3 i hi).1, (e3 i hi).2⟩
      · rw [e6 33 (by omega), e2, up1_eq, if_pos rfl]
      · rw [e6 34 (by omega)]; exact e4
      · rw [e6 35 (by omega)]; exact e5
    have k68 : ∀ (a : Nat × Nat) (M4 : Mm), yH tx n nm d (te_ tx p) = .inr a → a.2 ≤ tx.2 → TpC tx a.2 M4 → FrC inY M M4 → M4 2 1 = M 2 1 → M4 32 3 = (Y.1 : Int) → M4 33 = up1 (M 33) Y.1 d → (∀ i, i < Y.1 → (M4 34 i = M 34 i ∧ M4 35 i = M 35 i)) → (d ≤ 1 → M4 34 Y.1 = (a.1 : Int)) → K NN RRC 68 [(0, vr 32), (1, vr 2), (3, vi d)] [] M4 := by
      intro a M4 ha hq hT4 f4 s4 e1 e2 e3 e4
      have num : ∀ lo hi : Int, rng lo → rng hi → yN tx d a.2 = tkN tx a.2 lo hi → ∃ P2 : Int → Mm → Prop, S_Years_readNumber 32 2 lo hi M4 P2 ∧ ∀ (r1 : Int) (M5 : Mm), P2 r1 M5 → rng r1 ∧ (r1 ≠ 0 → ∃ c : Int × Nat, yN tx d a.2 = .inr c ∧ TpC tx c.2 M5 ∧ FrC inY M M5 ∧ M5 2 1 = M 2 1 ∧ M5 32 3 = (Y.1 : Int) ∧ M5 33 = up1 (M 33) Y.1 d ∧ (∀ i, i < Y.1 → (M5 34 i = M 34 i ∧ M5 35 i = M 35 i)) ∧ (d ≤ 1 → M5 34 Y.1 = (a.1 : Int)) ∧ (d = 0 ∨ d = 3 → M5 35 Y.1 = c.1)) ∧ (r1 = 0 → PyC tx M (bnd (yH tx n nm d (te_ tx p)) fun a => bnd (yN tx d a.2) fun c => .inr (addY Y d a.1 c.1, c.2)) 0 M5) := by
        intro lo hi hlo hhi hy
        refine ⟨_, c_yNumber hW hq hT4 hlo hhi e1 hl, ?_⟩
        rintro r M5 ⟨f5, s5, u1, u2⟩
        have f45 : FrC inY M M5 := f4.tr (f5.wk (fun c hc => by omega))
        cases c : tkN tx a.2 lo hi with
        | inl f =>
          obtain ⟨rfl, e⟩ := u1 f c
          exact ⟨by decide, fun z => absurd rfl z, fun _ => PyC_f (f := f) (by rw [bnd_r ha, bnd_l (hy.trans c)]) f45 (by rw [s5, s4]) e⟩
        | inr x =>
          obtain ⟨rfl, hT5, e⟩ := u2 x c
          refine ⟨by decide, fun _ => ⟨x, hy.trans c, hT5, f45, by rw [s5, s4], by rw [f5 32 (by omega)]; exact e1, by rw [f5 33 (by omega)]; exact e2, fun i hi => ?_, fun z => by rw [f5 34 (by omega)]; exact e4 z, fun _ => by rw [e, up1_eq, if_pos rfl]⟩, fun z => absurd z (by decide)⟩
          rw [f5 34 (by omega), e, up1_eq, if_neg (by omega)]; exact e3 i hi
      refine w_Years_readLine_68 hK 32 atC_32 2 atC_2 _ M4 ⟨by omega, fun z => ?_, fun z => ?_⟩
      · refine w_Years_readLine_85 hK 32 atC_32 2 atC_2 _ M4 ⟨by omega, fun z3 => ?_, fun z3 => ?_⟩
        · exact kend a (0, a.2) M4 ha (by unfold yN; rw [if_neg z, if_neg z3]) hT4 f4 s4 e1 e2 e3 e4 (fun y => by omega)
        · obtain ⟨P2, hP, hR⟩ := num 1 99 (by decide) (by decide) (by unfold yN; rw [if_neg z, if_pos z3])
          refine ⟨P2, hP, fun r M5 h => ?_⟩
          obtain ⟨a1, a2, a3⟩ := hR r M5 h
          refine ⟨a1, fun y => ?_, a3⟩
          obtain ⟨c, b1, b2, b3, b4, b5, b6, b7, b8, b9⟩ := a2 y
          exact kend a c M5 ha b1 b2 b3 b4 b5 b6 b7 b8 b9
      · obtain ⟨P2, hP, hR⟩ := num 0 6 (by decide) (by decide) (by unfold yN; rw [if_pos z])
        refine ⟨P2, hP, fun r M5 h => ?_⟩
        obtain ⟨a1, a2, a3⟩ := hR r M5 h
        refine ⟨a1, fun y => ?_, a3⟩
        obtain ⟨c, b1, b2, b3, b4, b5, b6, b7, b8, b9⟩ := a2 y
        refine w_Years_readLine_85 hK 32 atC_32 2 atC_2 _ M5 ⟨by omega, fun z3 => ?_, fun z3 => by omega⟩
        exact kend a c M5 ha b1 b2 b3 b4 b5 b6 b7 b8 b9
    have hN3 : NmC n nm b M3 := hN.fr (f3 b (by omega)) (f3 (b + 1) (by omega))
    have house : d ≤ 1 → ∃ P4 : Int → Mm → Prop, S_Years_readHouse 32 2 b M3 P4 ∧ ∀ (r3 : Int) (M4 : Mm), P4 r3 M4 → rng r3 ∧ (r3 ≠ 0 → K NN RRC 68 [(0, vr 32), (1, vr 2), (3, vi d)] [] M4) ∧ (r3 = 0 → PyC tx M (bnd (yH tx n nm d (te_ tx p)) fun a => bnd (yN tx d a.2) fun c => .inr (addY Y d a.1 c.1, c.2)) 0 M4) := by
      intro hd1
      refine ⟨_, c_yHouse hW t1.2 hT3 hb hN3 e32 hl, ?_⟩
      rintro r M4 ⟨f4, s4, u1, u2⟩
      have f34 : FrC inY M M4 := f3.tr (f4.wk (fun c hc => by omega))
      cases c : tkH tx n nm (te_ tx p) with
      | inl f =>
        obtain ⟨rfl, e⟩ := u1 f c
        exact ⟨by decide, fun z => absurd rfl z, fun _ => PyC_f (f := f) (by unfold yH; rw [if_pos hd1, bnd_l c]; rfl) f34 (by rw [s4, s3]) e⟩
      | inr a =>
        obtain ⟨rfl, hT4, e⟩ := u2 a c
        refine ⟨by decide, fun _ => k68 (a, te_ tx (te_ tx p)) M4 (by unfold yH; rw [if_pos hd1, bnd_r c]) (te_le t1.2).2 hT4 f34 (by rw [s4, s3]) (by rw [f4 32 (by omega)]; exact e32) (by rw [f4 33 (by omega)]; exact e33) (fun i hi => ?_) (fun _ => by rw [e, up1_eq, if_pos rfl]), fun z => absurd z (by decide)⟩
        rw [e, up1_eq, if_neg (by omega), f4 35 (by omega), e34, e35]; exact ⟨rfl, rfl⟩
    rw [hres]
    refine ⟨by omega, fun z0 => house (by omega), fun z0 => ⟨by omega, fun z1' => ?_, fun z1' => house (by omega)⟩⟩
    exact k68 (0, te_ tx p) M3 (by unfold yH; rw [if_neg (by omega)]) t1.2 hT3 f3 s3 e32 e33 (fun i hi => by rw [e34, e35]; exact ⟨rfl, rfl⟩) (fun y => by omega)
  · refine ⟨_, c_fail (k := 5) hT, ?_⟩
    rintro r M2 ⟨rfl, a, b', c⟩
    exact ⟨Or.inl rfl, PyC_f (f := (5, tb_ tx p)) (by unfold rdY; rw [← hdd, if_neg z1, if_pos (by omega)]) (c.wk (fun c hc => Or.inl hc)) b' a⟩
  · refine ⟨_, c_fail (k := 1) hT, ?_⟩
    rintro r M2 ⟨rfl, a, b', c⟩
    exact ⟨Or.inl rfl, PyC_f (f := (1, tb_ tx p)) (by unfold rdY; rw [← hdd, if_pos z1]) (c.wk (fun c hc => Or.inl hc)) b' a⟩
