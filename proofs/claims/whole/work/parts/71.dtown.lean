/-- a town while it is told: houses, names, kinds, thick, wet, ink, who shuns whom, gap, price (told?), rains, laws -/
abbrev DT : Type := Nat × (Nat → List Nat) × (Nat → Int) × (Nat → Int) × (Nat → Int) × (Nat → Int) × (Nat → Nat) × (Int × Bool) × (Int × Bool) × (Nat × (Nat → Int)) × Option (Nat × PRS) × Option (Nat × PRS)
def dn (D : DT) : Nat := D.1
def dnm (D : DT) : Nat → List Nat := D.2.1
def dk (D : DT) : Nat → Int := D.2.2.1
def dth (D : DT) : Nat → Int := D.2.2.2.1
def dwe (D : DT) : Nat → Int := D.2.2.2.2.1
def din (D : DT) : Nat → Int := D.2.2.2.2.2.1
def dsh (D : DT) : Nat → Nat := D.2.2.2.2.2.2.1
def dga (D : DT) : Int × Bool := D.2.2.2.2.2.2.2.1
def dpr (D : DT) : Int × Bool := D.2.2.2.2.2.2.2.2.1
def drn (D : DT) : Nat × (Nat → Int) := D.2.2.2.2.2.2.2.2.2.1
def dlp (D : DT) : Option (Nat × PRS) := D.2.2.2.2.2.2.2.2.2.2.1
def dlq (D : DT) : Option (Nat × PRS) := D.2.2.2.2.2.2.2.2.2.2.2
def D0 : DT := (0, fun _ => [], fun _ => 0, fun _ => 0, fun _ => 0, fun _ => 0, fun _ => 0, (5, false), (3, false), (0, fun _ => 0), none, none)
def addH (D : DT) (l : List Nat) (k t w i : Int) : DT := (dn D + 1, up1 (dnm D) (dn D) l, up1 (dk D) (dn D) k, up1 (dth D) (dn D) t, up1 (dwe D) (dn D) w, up1 (din D) (dn D) i, up1 (dsh D) (dn D) 0, dga D, dpr D, drn D, dlp D, dlq D)
def addS (D : DT) (a b : Nat) : DT := (dn D, dnm D, dk D, dth D, dwe D, din D, up1 (dsh D) a (dsh D a ||| 2 ^ b), dga D, dpr D, drn D, dlp D, dlq D)
def setG (D : DT) (v : Int) : DT := (dn D, dnm D, dk D, dth D, dwe D, din D, dsh D, (v, true), dpr D, drn D, dlp D, dlq D)
def setP (D : DT) (v : Int) : DT := (dn D, dnm D, dk D, dth D, dwe D, din D, dsh D, dga D, (v, true), drn D, dlp D, dlq D)
def setR (D : DT) (n : Nat) (f : Nat → Int) : DT := (dn D, dnm D, dk D, dth D, dwe D, din D, dsh D, dga D, dpr D, (n, f), dlp D, dlq D)
def setLp (D : DT) (x : Nat × PRS) : DT := (dn D, dnm D, dk D, dth D, dwe D, din D, dsh D, dga D, dpr D, drn D, some x, dlq D)
def setLq (D : DT) (x : Nat × PRS) : DT := (dn D, dnm D, dk D, dth D, dwe D, din D, dsh D, dga D, dpr D, drn D, dlp D, some x)
abbrev FLT : Type := Nat × Nat
def bnd {β γ : Type} (x : Sum FLT β) (f : β → Sum FLT γ) : Sum FLT γ := match x with
  | .inl a => .inl a
  | .inr b => f b
theorem bnd_l {β γ : Type} {x : Sum FLT β} {f : β → Sum FLT γ} {a : FLT} (h : x = .inl a) : bnd x f = .inl a := by rw [h]; rfl
theorem bnd_r {β γ : Type} {x : Sum FLT β} {f : β → Sum FLT γ} {b : β} (h : x = .inr b) : bnd x f = f b := by rw [h]; rfl
def isNm (tx : TX) (p : Nat) : Bool := decide (tk_ tx p = 2 ∧ (wo_ tx p = 0 ∨ 22 ≤ wo_ tx p))
def kdO (o : Nat) : Int := if o = 15 then 0 else if o = 16 then 1 else if o = 17 then 2 else if o = 18 then 3 else -1
/-- the number of the house so named, or how many there are -/
def nmO (n : Nat) (nm : Nat → List Nat) (l : List Nat) : Nat := fsb (fun h => decide (nm h = l)) n n
def tkN (tx : TX) (p : Nat) (lo hi : Int) : Sum FLT (Int × Nat) := if tk_ tx p ≠ 3 then .inl (1, tb_ tx p) else if tv_ tx p < lo ∨ hi < tv_ tx p then .inl (4, tb_ tx p) else .inr (tv_ tx p, te_ tx p)
def tkB (tx : TX) (p o : Nat) (lo hi : Int) : Sum FLT (Int × Nat) := if wo_ tx p ≠ o then .inl (1, tb_ tx p) else tkN tx (te_ tx p) lo hi
def tkH (tx : TX) (n : Nat) (nm : Nat → List Nat) (p : Nat) : Sum FLT Nat := if isNm tx p = false then .inl (1, tb_ tx p) else if nmO n nm (tl_ tx p) = n then .inl (2, tb_ tx p) else .inr (nmO n nm (tl_ tx p))
def rdHouse (tx : TX) (D : DT) (p : Nat) : Sum FLT (DT × Nat) :=
  if dn D = 7 then .inl (5, tb_ tx p) else
  if isNm tx (te_ tx p) = false then .inl (1, tb_ tx (te_ tx p)) else
  if nmO (dn D) (dnm D) (tl_ tx (te_ tx p)) ≠ dn D then .inl (3, tb_ tx (te_ tx p)) else
  if kdO (wo_ tx (te_ tx (te_ tx p))) = -1 then .inl (1, tb_ tx (te_ tx (te_ tx p))) else
  bnd (tkB tx (te_ tx (te_ tx (te_ tx p))) 2 1 20) fun a => bnd (tkB tx a.2 3 0 99) fun b => bnd (tkB tx b.2 4 0 9) fun c => .inr (addH D (tl_ tx (te_ tx p)) (kdO (wo_ tx (te_ tx (te_ tx p)))) a.1 b.1 c.1, c.2)
def rdShuns (tx : TX) (D : DT) (p : Nat) : Sum FLT (DT × Nat) :=
  bnd (tkH tx (dn D) (dnm D) (te_ tx p)) fun a => bnd (tkH tx (dn D) (dnm D) (te_ tx (te_ tx p))) fun b => if a = b ∨ (dsh D a).testBit b = true then .inl (3, tb_ tx (te_ tx (te_ tx p))) else .inr (addS D a b, te_ tx (te_ tx (te_ tx p)))
def rdGap (tx : TX) (D : DT) (p : Nat) : Sum FLT (DT × Nat) := if (dga D).2 = true then .inl (3, tb_ tx p) else bnd (tkN tx (te_ tx p) 1 20) fun a => .inr (setG D a.1, a.2)
def rdPri (tx : TX) (D : DT) (p : Nat) : Sum FLT (DT × Nat) := if (dpr D).2 = true then .inl (3, tb_ tx p) else bnd (tkN tx (te_ tx p) 0 99) fun a => .inr (setP D a.1, a.2)
/-- rains: k more may come, i are there -/
def rdRn (tx : TX) : Nat → Nat → (Nat → Int) → Nat → Sum FLT ((Nat × (Nat → Int)) × Nat)
  | 0, i, f, p => .inr ((i, f), p)
  | k + 1, i, f, p => if i ≠ 0 ∧ tk_ tx p ≠ 3 then .inr ((i, f), p) else if tk_ tx p ≠ 3 then .inl (1, tb_ tx p) else if 9 < tv_ tx p then .inl (4, tb_ tx p) else if i = 12 then .inl (5, tb_ tx p) else rdRn tx k (i + 1) (up1 f i (tv_ tx p)) (te_ tx p)
def rdRains (tx : TX) (D : DT) (p : Nat) : Sum FLT (DT × Nat) := if 0 < (drn D).1 then .inl (3, tb_ tx p) else bnd (rdRn tx 13 0 (drn D).2 (te_ tx p)) fun a => .inr (setR D a.1.1 a.1.2, a.2)
def rdLp (tx : TX) (D : DT) (p : Nat) : Sum FLT (DT × Nat) := if (dlp D).isSome = true then .inl (3, tb_ tx p) else bnd (qE tx (pPart tx false 5) (te_ tx p)) fun s => .inr (setLp D (te_ tx p, s), s.1)
def rdLq (tx : TX) (D : DT) (p : Nat) : Sum FLT (DT × Nat) := if (dlq D).isSome = true then .inl (3, tb_ tx p) else bnd (qE tx (pPart tx true 5) (te_ tx p)) fun s => .inr (setLq D (te_ tx p, s), s.1)
def rdL (tx : TX) (D : DT) (p : Nat) : Sum FLT (DT × Nat) := if wo_ tx p = 1 then rdHouse tx D p else if wo_ tx p = 5 then rdShuns tx D p else if wo_ tx p = 6 then rdGap tx D p else if wo_ tx p = 7 then rdRains tx D p else if wo_ tx p = 8 then rdPri tx D p else if wo_ tx p = 9 then rdLp tx D p else if wo_ tx p = 10 then rdLq tx D p else .inl (1, tb_ tx p)
def rdTown (tx : TX) : Nat → DT → Nat → Sum FLT DT
  | 0, D, _ => .inr D
  | k + 1, D, p => if tk_ tx p = 0 then .inr D else bnd (rdL tx D p) fun x => if isS_ tx x.2 59 = true then rdTown tx k x.1 (te_ tx x.2) else .inl (1, tb_ tx x.2)
/-- what holds of a town while it is told -/
def WD (tx : TX) (D : DT) : Prop := dn D ≤ 7 ∧ (∀ h, h < dn D → (okw (dnm D h) ∧ (0 ≤ dk D h ∧ dk D h ≤ 3) ∧ (1 ≤ dth D h ∧ dth D h ≤ 20) ∧ (0 ≤ dwe D h ∧ dwe D h ≤ 99) ∧ (0 ≤ din D h ∧ din D h ≤ 9) ∧ dsh D h < 128)) ∧ (1 ≤ (dga D).1 ∧ (dga D).1 ≤ 20) ∧ (0 ≤ (dpr D).1 ∧ (dpr D).1 ≤ 99) ∧ ((drn D).1 ≤ 12 ∧ ∀ i, i < (drn D).1 → (0 ≤ (drn D).2 i ∧ (drn D).2 i ≤ 9)) ∧ (∀ x, dlp D = some x → x.1 ≤ tx.2 ∧ qE tx (pPart tx false 5) x.1 = .inr x.2) ∧ (∀ x, dlq D = some x → x.1 ≤ tx.2 ∧ qE tx (pPart tx true 5) x.1 = .inr x.2)
theorem WD0 (tx : TX) : WD tx D0 := ⟨by decide, fun h hh => absurd hh (Nat.not_lt_zero _), by decide, by decide, ⟨by decide, fun i hi => absurd hi (Nat.not_lt_zero _)⟩, fun x h => (by cases h), fun x h => (by cases h)⟩
theorem nmO_ok {n : Nat} {nm : Nat → List Nat} {l : List Nat} : nmO n nm l ≤ n ∧ (nmO n nm l < n → nm (nmO n nm l) = l) := by
  by_cases ex : ∃ i, i < n ∧ (fun h => decide (nm h = l)) i = true
  · have ⟨a, b, c⟩ := fsb_ok ex
    exact ⟨Nat.le_of_lt a, fun _ => of_decide_eq_true b⟩
  · have : ∀ k, k ≤ n → fsb (fun h => decide (nm h = l)) n k = n := by
      intro k
      induction k with
      | zero => intro _; rfl
      | succ k ih =>
        intro hk
        rw [fsb, if_neg (fun z => ex ⟨n - (k + 1), by omega, z⟩)]
        exact ih (by omega)
    have h := this n (Nat.le_refl _)
    unfold nmO
    rw [h]
    exact ⟨Nat.le_refl _, fun z => by omega⟩
theorem tkN_r {tx : TX} {p : Nat} {lo hi : Int} {x : Int × Nat} (hp : p ≤ tx.2) (h : tkN tx p lo hi = .inr x) : lo ≤ x.1 ∧ x.1 ≤ hi ∧ p < x.2 ∧ x.2 ≤ tx.2 := by
  unfold tkN at h
  split at h
  · cases h
  · rename_i h3
    split at h
    · cases h
    · cases h
      have := tk_pos hp (by omega)
      exact ⟨by show lo ≤ tv_ tx p; omega, by show tv_ tx p ≤ hi; omega, this.1, this.2⟩
theorem tkB_r {tx : TX} {p o : Nat} {lo hi : Int} {x : Int × Nat} (hp : p ≤ tx.2) (h : tkB tx p o lo hi = .inr x) : lo ≤ x.1 ∧ x.1 ≤ hi ∧ p < x.2 ∧ x.2 ≤ tx.2 := by
  unfold tkB at h
  split at h
  · cases h
  · have hte := te_ok hp
    have := tkN_r hte.2.2.1 h
    omega
theorem tkH_r {tx : TX} {n p a : Nat} {nm : Nat → List Nat} (h : tkH tx n nm p = .inr a) : a < n ∧ nm a = tl_ tx p ∧ isNm tx p = true := by
  unfold tkH at h
  split at h
  · cases h
  · rename_i h1
    split at h
    · cases h
    · cases h
      have := nmO_ok (n := n) (nm := nm) (l := tl_ tx p)
      exact ⟨by omega, this.2 (by omega), by exact (by cases c : isNm tx p; exact absurd c h1; rfl)⟩
theorem isNm_k {tx : TX} {p : Nat} (h : isNm tx p = true) : tk_ tx p = 2 := (of_decide_eq_true h).1
theorem kdO_in (o : Nat) : -1 ≤ kdO o ∧ kdO o ≤ 3 := by
  unfold kdO
  split
  · omega
  · split
    · omega
    · split
      · omega
      · split <;> omega
theorem bnd_inr {β γ : Type} {x : Sum FLT β} {f : β → Sum FLT γ} {c : γ} (h : bnd x f = .inr c) : ∃ b, x = .inr b ∧ f b = .inr c := by
  cases x with
  | inl a => cases h
  | inr b => exact ⟨b, rfl, h⟩
theorem te_le {tx : TX} {p : Nat} (hp : p ≤ tx.2) : p ≤ te_ tx p ∧ te_ tx p ≤ tx.2 := by have := te_ok hp; omega
theorem rdHouse_w {tx : TX} {D : DT} {p : Nat} {x : DT × Nat} (hw : WD tx D) (hp : p ≤ tx.2) (h : rdHouse tx D p = .inr x) : WD tx x.1 ∧ p < x.2 ∧ x.2 ≤ tx.2 := by
  unfold rdHouse at h
  split at h
  · cases h
  · rename_i h7
    split at h
    · cases h
    · rename_i hnm
      split at h
      · cases h
      · split at h
        · cases h
        · rename_i hk
          obtain ⟨a, ha, h⟩ := bnd_inr h
          obtain ⟨b, hb, h⟩ := bnd_inr h
          obtain ⟨c, hc, h⟩ := bnd_inr h
          have t1 := te_le hp
          have t2 := te_le t1.2
          have t3 := te_le t2.2
          have r1 := tkB_r t3.2 ha
          have r2 := tkB_r r1.2.2.2 hb
          have r3 := tkB_r r2.2.2.2 hc
          have hnm2 : isNm tx (te_ tx p) = true := by cases c : isNm tx (te_ tx p); exact absurd c hnm; rfl
          have hok := tl_ok t1.2 (isNm_k hnm2)
          have hkd := kdO_in (wo_ tx (te_ tx (te_ tx p)))
          obtain ⟨w1, w2, w3, w4, w5, w6, w7⟩ := hw
          cases h
          refine ⟨⟨by show dn D + 1 ≤ 7; omega, fun q hq => ?_, w3, w4, w5, w6, w7⟩, by show p < c.2; omega, r3.2.2.2⟩
          have hq2 : q < dn D + 1 := hq
          show okw (up1 (dnm D) (dn D) _ q) ∧ (0 ≤ up1 (dk D) (dn D) _ q ∧ up1 (dk D) (dn D) _ q ≤ 3) ∧ (1 ≤ up1 (dth D) (dn D) _ q ∧ up1 (dth D) (dn D) _ q ≤ 20) ∧ (0 ≤ up1 (dwe D) (dn D) _ q ∧ up1 (dwe D) (dn D) _ q ≤ 99) ∧ (0 ≤ up1 (din D) (dn D) _ q ∧ up1 (din D) (dn D) _ q ≤ 9) ∧ up1 (dsh D) (dn D) 0 q < 128
          rw [up1_eq, up1_eq, up1_eq, up1_eq, up1_eq, up1_eq]
          by_cases e : q = dn D
          · rw [if_pos e, if_pos e, if_pos e, if_pos e, if_pos e, if_pos e]
            exact ⟨hok, by omega, by omega, by omega, by omega, by omega⟩
          · rw [if_neg e, if_neg e, if_neg e, if_neg e, if_neg e, if_neg e]
            exact w2 q (by omega)
theorem rdShuns_w {tx : TX} {D : DT} {p : Nat} {x : DT × Nat} (hw : WD tx D) (hp : p ≤ tx.2) (h : rdShuns tx D p = .inr x) : WD tx x.1 ∧ p < x.2 ∧ x.2 ≤ tx.2 := by
  unfold rdShuns at h
  obtain ⟨a, ha, h⟩ := bnd_inr h
  obtain ⟨b, hb, h⟩ := bnd_inr h
  have ra := tkH_r ha
  have rb := tkH_r hb
  split at h
  · cases h
  · have t1 := te_le hp
    have k1 := tk_pos t1.2 (by have := isNm_k ra.2.2; omega)
    have t3 := te_le k1.2
    obtain ⟨w1, w2, w3, w4, w5, w6, w7⟩ := hw
    cases h
    refine ⟨⟨w1, fun q hq => ?_, w3, w4, w5, w6, w7⟩, by show p < te_ tx (te_ tx (te_ tx p)); omega, t3.2⟩
    have g := w2 q hq
    refine ⟨g.1, g.2.1, g.2.2.1, g.2.2.2.1, g.2.2.2.2.1, ?_⟩
    show up1 (dsh D) a _ q < 128
    rw [up1_eq]
    split
    · have := pw6 (show b < 7 by omega)
      exact Nat.or_lt_two_pow (n := 7) (w2 a ra.1).2.2.2.2.2 (by omega)
    · exact g.2.2.2.2.2
theorem rdRn_w {tx : TX} : ∀ k i f p x, p ≤ tx.2 → i ≤ 12 → (∀ j, j < i → (0 ≤ f j ∧ f j ≤ 9)) → rdRn tx k i f p = .inr x → i + k = 13 → (x.1.1 ≤ 12 ∧ 0 < x.1.1 ∧ (∀ j, j < x.1.1 → (0 ≤ x.1.2 j ∧ x.1.2 j ≤ 9)) ∧ p ≤ x.2 ∧ x.2 ≤ tx.2 ∧ tk_ tx x.2 ≠ 3)
  | 0, i, f, p, x, hp, hi, hf, h, hk => by omega
  | k + 1, i, f, p, x, hp, hi, hf, h, hk => by
    rw [rdRn] at h
    split at h
    · rename_i c
      cases h
      exact ⟨hi, by show 0 < i; omega, hf, Nat.le_refl _, hp, c.2⟩
    · split at h
      · cases h
      · rename_i h3
        split at h
        · cases h
        · rename_i h9
          split at h
          · cases h
          · have h3' : tk_ tx p = 3 := by omega
            have tv := tv_in hp h3'
            have ht := tk_pos hp (by omega)
            have := rdRn_w k (i + 1) _ _ x ht.2 (by omega) (fun j hj => by
              rw [up1_eq]
              split
              · omega
              · exact hf j (by omega)) h (by omega)
            exact ⟨this.1, this.2.1, this.2.2.1, by omega, this.2.2.2.2.1, this.2.2.2.2.2⟩
theorem rdL_w {tx : TX} {D : DT} {p : Nat} {x : DT × Nat} (hw : WD tx D) (hp : p ≤ tx.2) (h : rdL tx D p = .inr x) : WD tx x.1 ∧ p < x.2 ∧ x.2 ≤ tx.2 := by
  unfold rdL at h
  split at h
  · exact rdHouse_w hw hp h
  · split at h
    · exact rdShuns_w hw hp h
    · have t1 := te_le hp
      obtain ⟨w1, w2, w3, w4, w5, w6, w7⟩ := hw
      split at h
      · unfold rdGap at h
        split at h
        · cases h
        · obtain ⟨a, ha, h⟩ := bnd_inr h
          have r := tkN_r t1.2 ha
          cases h
          exact ⟨⟨w1, w2, ⟨r.1, r.2.1⟩, w4, w5, w6, w7⟩, by show p < a.2; omega, r.2.2.2⟩
      · split at h
        · unfold rdRains at h
          split at h
          · cases h
          · obtain ⟨a, ha, h⟩ := bnd_inr h
            rename_i hw7 hn
            have r := rdRn_w 13 0 _ _ a t1.2 (by omega) (fun j hj => by omega) ha rfl
            have k1 := tk_pos hp (by have := wo_k (tx := tx) (p := p) (by omega); omega)
            cases h
            exact ⟨⟨w1, w2, w3, w4, ⟨r.1, r.2.2.1⟩, w6, w7⟩, by show p < a.2; omega, r.2.2.2.2.1⟩
        · split at h
          · unfold rdPri at h
            split at h
            · cases h
            · obtain ⟨a, ha, h⟩ := bnd_inr h
              have r := tkN_r t1.2 ha
              cases h
              exact ⟨⟨w1, w2, w3, ⟨r.1, r.2.1⟩, w5, w6, w7⟩, by show p < a.2; omega, r.2.2.2⟩
          · split at h
            · unfold rdLp at h
              split at h
              · cases h
              · obtain ⟨s, hs, h⟩ := bnd_inr h
                have g := (qE_g (pPart_g (pr := false) 5) _ t1.2).1 s hs
                cases h
                exact ⟨⟨w1, w2, w3, w4, w5, fun y hy => by cases hy; exact ⟨t1.2, hs⟩, w7⟩, by show p < s.1; have := g.1; omega, g.2.1⟩
            · split at h
              · unfold rdLq at h
                split at h
                · cases h
                · obtain ⟨s, hs, h⟩ := bnd_inr h
                  have g := (qE_g (pPart_g (pr := true) 5) _ t1.2).1 s hs
                  cases h
                  exact ⟨⟨w1, w2, w3, w4, w5, w6, fun y hy => by cases hy; exact ⟨t1.2, hs⟩⟩, by show p < s.1; have := g.1; omega, g.2.1⟩
              · cases h
