theorem TpC.fr {tx : TX} {p : Nat} {M M' : Mm} (h : TpC tx p M) (e2 : M' 2 = M 2) (e3 : M' 3 = M 3) : TpC tx p M' := by
  unfold TpC
  rw [e2, e3]; exact h
theorem c_isName {tx : TX} {p : Nat} {M : Mm} (hT : TpC tx p M) : S_Tape_isName 2 M (fun r M' => M' = M ∧ r = zo (isNm tx p)) := by
  obtain ⟨-, -, -, -, h5, h6, -⟩ := hT
  have htk := tk_le (tx := tx) (p := p)
  have hlt := wo_lt tx p
  have tab : ∀ o, o < 27 → (wK.getD o 0 = 0 ↔ (o = 0 ∨ 22 ≤ o)) := by decide +kernel
  refine W_Tape_isName 2 atC_2 M ?_
  rw [h5]
  unfold isNm
  refine ⟨by omega, fun z => ⟨rfl, ?_⟩, fun z => ⟨_, h6, hlt, fun y => ⟨rfl, ?_⟩, fun y => ⟨rfl, ?_⟩⟩⟩
  · rw [decide_eq_false (fun y => z (by have := y.1; omega))]; rfl
  · rw [decide_eq_false (fun x => y ((tab _ hlt).mpr x.2))]; rfl
  · rw [decide_eq_true ⟨by omega, (tab _ hlt).mp y⟩]; rfl
theorem c_takeNumber {tx : TX} {p : Nat} {M : Mm} {lo hi : Int} (hW : WX tx) (hp : p ≤ tx.2) (hT : TpC tx p M) (hlo : rng lo) (hhi : rng hi) : S_Tape_takeNumber 2 lo hi M (fun r M' => FrC (fun c => c = 2) M M' ∧ M' 2 1 = M 2 1 ∧ (∀ f, tkN tx p lo hi = .inl f → r = 0 ∧ M' 2 10 = (f.1 : Int) + 16 * (f.2 : Int)) ∧ (∀ x, tkN tx p lo hi = .inr x → r = 1 ∧ TpC tx x.2 M' ∧ M' 2 9 = x.1)) := by
  obtain ⟨-, -, -, -, h5, -, -, h8, -⟩ := id hT
  have htk := tk_le (tx := tx) (p := p)
  have bad : ∀ k : Nat, tkN tx p lo hi = .inl (k, tb_ tx p) → ∃ P1 : Int → Mm → Prop, S_Tape_fail 2 (k : Int) M P1 ∧ ∀ (r1 : Int) (M1 : Mm), P1 r1 M1 → (r1 = 0 ∨ r1 = 1) ∧ FrC (fun c => c = 2) M M1 ∧ M1 2 1 = M 2 1 ∧ (∀ f, tkN tx p lo hi = .inl f → r1 = 0 ∧ M1 2 10 = (f.1 : Int) + 16 * (f.2 : Int)) ∧ (∀ x, tkN tx p lo hi = .inr x → r1 = 1 ∧ TpC tx x.2 M1 ∧ M1 2 9 = x.1) := by
    intro k hk
    refine ⟨_, c_fail (k := (k : Int)) hT, ?_⟩
    rintro r M1 ⟨rfl, a, b, c⟩
    exact ⟨Or.inl rfl, c, b, fun f hf => by rw [hk] at hf; cases hf; exact ⟨rfl, a⟩, fun x hx => by rw [hk] at hx; cases hx⟩
  refine W_Tape_takeNumber 2 atC_2 _ _ M ?_
  rw [h5]
  refine ⟨by omega, fun z => ?_, fun z => bad 1 ?_⟩
  · have h3 : tk_ tx p = 3 := by omega
    have hv := tv_in hp h3
    rw [h8 h3]
    refine ⟨by omega, hlo, fun y => bad 4 ?_, fun y => ⟨by omega, hhi, fun x => ?_, fun x => bad 4 ?_⟩⟩
    · unfold tkN; rw [if_neg (by omega), if_pos (Or.inl y)]
    · rintro M1 rfl
      have hT1 : TpC tx p (upr M 2 (up1 (M 2) 9 (tv_ tx p))) := by
        obtain ⟨a1, a2, a3, a4, a5, a6, a7, a8, a9⟩ := hT
        refine ⟨fun j hj => by rw [upr_eq, if_neg (by omega)]; exact a1 j hj, ?_, ?_, ?_, ?_, ?_, fun w => ?_, fun w => ?_, fun w => ?_⟩ <;> rw [upr_eq, if_pos rfl, up1_eq, if_neg (by omega)]
        · exact a2
        · exact a3
        · exact a4
        · exact a5
        · exact a6
        · exact a7 w
        · exact a8 w
        · exact a9 w
      refine ⟨_, c_adv hW hp hT1, ?_⟩
      rintro M2 ⟨b1, b2⟩
      refine ⟨(FrC.up (p := fun c => c = 2) (c := 2) rfl).tr b2.1, ?_, fun f hf => ?_, fun q hq => ?_⟩
      · rw [b2.2.1, upr_eq, if_pos rfl, up1_eq, if_neg (by omega)]
      · unfold tkN at hf; rw [if_neg (by omega), if_neg (by omega)] at hf; cases hf
      · unfold tkN at hq; rw [if_neg (by omega), if_neg (by omega)] at hq; cases hq
        exact ⟨rfl, b1, by rw [b2.2.2.2.1, upr_eq, if_pos rfl, up1_eq, if_pos rfl]⟩
    · unfold tkN; rw [if_neg (by omega), if_pos (Or.inr (by omega))]
  · unfold tkN; rw [if_pos (by omega)]
theorem c_takeWord {tx : TX} {p o : Nat} {M : Mm} (hW : WX tx) (hp : p ≤ tx.2) (hT : TpC tx p M) (ho : o < 27) : S_Tape_takeWord 2 o M (fun r M' => FrC (fun c => c = 2) M M' ∧ M' 2 1 = M 2 1 ∧ (wo_ tx p ≠ o → r = 0 ∧ M' 2 10 = 1 + 16 * (tb_ tx p : Int)) ∧ (wo_ tx p = o → r = 1 ∧ TpC tx (te_ tx p) M')) := by
  have hlt := wo_lt tx p
  refine W_Tape_takeWord 2 atC_2 o ho M ⟨_, hT.2.2.2.2.2.1, hlt, fun z => ⟨_, c_adv hW hp hT, ?_⟩, fun z => ⟨_, c_fail (k := 1) hT, ?_⟩⟩
  · rintro M1 ⟨a, b⟩
    exact ⟨b.1, b.2.1, fun y => absurd z y, fun _ => ⟨rfl, a⟩⟩
  · rintro r M1 ⟨rfl, a, b, c⟩
    exact ⟨Or.inl rfl, c, b, fun _ => ⟨rfl, a⟩, fun y => absurd y z⟩
/-- names of a town of the class -/
def NmC (n : Nat) (nm : Nat → List Nat) (b : Nat) (M : Mm) : Prop := M b 9 = (n : Int) ∧ n ≤ 7 ∧ ∀ h, h < n → (okw (nm h) ∧ M (b + 1) h = enc 32 (nm h))
def hNo (n a : Nat) : Int := if a = n then -1 else (a : Int)
theorem c_numberOf {n b : Nat} {nm : Nat → List Nat} {M : Mm} {l : List Nat} (hb : At shC NN b (.inl 7)) (hN : NmC n nm b M) (hl : okw l) : S_Town_numberOf b (enc 32 l) M (fun r M' => M' = M ∧ r = hNo n (nmO n nm l)) := by
  obtain ⟨h9, h7, hnm⟩ := hN
  refine e_Town_numberOf b _ M fun K hK => w_Town_numberOf_0 hK b hb _ M ?_
  have key : ∀ i, i ≤ n → nmO n nm l = fsb (fun h => decide (nm h = l)) n (n - i) → K NN RRC 2 [(0, vr b), (1, vl (enc 32 l)), (3, vi (i : Int))] [] M := by
    refine up_ind ?_ ?_
    · intro e
      refine w_Town_numberOf_2 hK b hb _ _ M ?_
      rw [h9]
      refine ⟨by omega, by omega, fun _ => ⟨rfl, ?_⟩, fun z => absurd (Int.le_refl _) z⟩
      rw [e, Nat.sub_self, fsb]
      unfold hNo; rw [if_pos rfl]
    · intro i hi ih e
      rw [fsb_step hi] at e
      have hi2 := hnm i hi
      have hc : cmpL (enc 32 (nm i)) (enc 32 l) = 0 ↔ nm i = l := by
        rw [cmp0]
        exact ⟨fun z => enc_inj (by decide) hi2.1.2 hl.2 z, fun z => by rw [z]⟩
      refine w_Town_numberOf_2 hK b hb _ _ M ?_
      rw [h9, Int.toNat_natCast, hi2.2]
      refine ⟨by omega, by omega, fun z => by omega, fun _ => ⟨by omega, (enc_rL (Or.inr rfl) hi2.1).2, (enc_rL (Or.inr rfl) hl).2, fun z => ih ?_, fun z => ⟨rfl, ?_⟩⟩⟩
      · rw [e, if_neg (fun y => z (hc.mpr (of_decide_eq_true y)))]
      · rw [e, if_pos (decide_eq_true (hc.mp z))]
        unfold hNo; rw [if_neg (by omega)]
  exact key 0 (by omega) rfl
theorem NmC.fr {n b : Nat} {nm : Nat → List Nat} {M M' : Mm} (h : NmC n nm b M) (e0 : M' b = M b) (e1 : M' (b + 1) = M (b + 1)) : NmC n nm b M' := by
  unfold NmC
  rw [e0, e1]; exact h
theorem c_houseNamed {tx : TX} {p n b : Nat} {nm : Nat → List Nat} {M : Mm} (hp : p ≤ tx.2) (hT : TpC tx p M) (hb : At shC NN b (.inl 7)) (hN : NmC n nm b M) : S_Town_houseNamed b 2 M (fun r M' => FrC (fun c => c = 2) M M' ∧ M' 2 1 = M 2 1 ∧ (∀ f, tkH tx n nm p = .inl f → r = -1 ∧ M' 2 10 = (f.1 : Int) + 16 * (f.2 : Int)) ∧ (∀ a, tkH tx n nm p = .inr a → r = (a : Int) ∧ M' = M)) := by
  have hno := nmO_ok (n := n) (nm := nm) (l := tl_ tx p)
  have h7 := hN.2.1
  refine W_Town_houseNamed b hb 2 atC_2 M ⟨_, c_isName hT, ?_⟩
  rintro r M1 ⟨rfl, rfl⟩
  refine ⟨zo_rng _, fun z => ?_, fun z => ⟨_, c_fail (k := 1) hT, ?_⟩⟩
  · have hk := isNm_k (zo_ne z)
    rw [hT.2.2.2.2.2.2.1 hk]
    refine ⟨_, c_numberOf hb hN (tl_ok hp hk), ?_⟩
    rintro r M2 ⟨rfl, rfl⟩
    have hh : hNo n (nmO n nm (tl_ tx p)) = -1 ↔ nmO n nm (tl_ tx p) = n := by
      unfold hNo
      split <;> omega
    have hr : rng (hNo n (nmO n nm (tl_ tx p))) := by
      unfold hNo
      split <;> omega
    refine ⟨hr, fun y => ⟨FrC.rf, rfl, fun f hf => ?_, fun a ha => ?_⟩, fun y => ⟨_, c_fail (k := 2) hT, ?_⟩⟩
    · unfold tkH at hf
      rw [zo_ne z, if_neg (by decide), if_neg (fun x => y (hh.mpr x))] at hf; cases hf
    · unfold tkH at ha
      rw [zo_ne z, if_neg (by decide), if_neg (fun x => y (hh.mpr x))] at ha; cases ha
      refine ⟨?_, rfl⟩
      unfold hNo; rw [if_neg (fun x => y (hh.mpr x))]
    · rintro r M3 ⟨-, a, b, c⟩
      refine ⟨c, b, fun f hf => ?_, fun q hq => ?_⟩
      · unfold tkH at hf
        rw [zo_ne z, if_neg (by decide), if_pos (hh.mp y)] at hf; cases hf
        exact ⟨y, a⟩
      · unfold tkH at hq
        rw [zo_ne z, if_neg (by decide), if_pos (hh.mp y)] at hq; cases hq
  · rintro r M2 ⟨-, a, b, c⟩
    refine ⟨c, b, fun f hf => ?_, fun q hq => ?_⟩
    · unfold tkH at hf
      rw [zo_0 z, if_pos rfl] at hf; cases hf
      exact ⟨rfl, a⟩
    · unfold tkH at hq
      rw [zo_0 z, if_pos rfl] at hq; cases hq
def DCl (M : Mm) (b : Nat) (o : Option (Nat × PRS)) : Prop := (o = none → M b 3 = 0) ∧ ∀ x, o = some x → (M b 3 = (x.2.2.1.length : Int) ∧ ∀ i, i < x.2.2.1.length → M (b + 1) i = x.2.2.1.getD i 0)
def onc (D : DT) : Nat := (if (dga D).2 = true then 1 else 0) + (if 0 < (drn D).1 then 2 else 0) + (if (dpr D).2 = true then 4 else 0) + (if (dlp D).isSome = true then 8 else 0) + (if (dlq D).isSome = true then 16 else 0)
/-- the draft of the class -/
def DC (D : DT) (b : Nat) (M : Mm) : Prop :=
  (M b 9 = (dn D : Int) ∧ M b 10 = (dga D).1 ∧ M b 11 = (dpr D).1 ∧ M b 12 = (if (drn D).1 = 0 then 1 else ((drn D).1 : Int)) ∧ M b 13 = (onc D : Int)) ∧
  (∀ h, h < dn D → (M (b + 1) h = enc 32 (dnm D h) ∧ M (b + 2) h = dk D h ∧ M (b + 3) h = dth D h ∧ M (b + 4) h = dwe D h ∧ M (b + 5) h = din D h ∧ M (b + 6) h = (dsh D h : Int))) ∧
  (((drn D).1 = 0 → M (b + 7) 0 = 1) ∧ ∀ i, i < (drn D).1 → M (b + 7) i = (drn D).2 i) ∧ DCl M (b + 8) (dlp D) ∧ DCl M (b + 11) (dlq D) ∧ M (b + 8) 0 = 0 ∧ M (b + 11) 0 = 1
theorem DCl.fr {M M' : Mm} {b : Nat} {o : Option (Nat × PRS)} (h : DCl M b o) (e0 : M' b = M b) (e1 : M' (b + 1) = M (b + 1)) : DCl M' b o := by
  unfold DCl
  rw [e0, e1]; exact h
theorem DC.fr {D : DT} {b : Nat} {M M' : Mm} (h : DC D b M) (e : ∀ i, i < 14 → M' (b + i) = M (b + i)) : DC D b M' := by
  have e0 := e 0 (by omega)
  rw [Nat.add_zero] at e0
  obtain ⟨h1, h2, h3, h4, h5, h6, h7⟩ := h
  refine ⟨by rw [e0]; exact h1, fun q hq => ?_, ?_, h4.fr (e 8 (by omega)) (e 9 (by omega)), h5.fr (e 11 (by omega)) (e 12 (by omega)), by rw [e 8 (by omega)]; exact h6, by rw [e 11 (by omega)]; exact h7⟩
  · rw [e 1 (by omega), e 2 (by omega), e 3 (by omega), e 4 (by omega), e 5 (by omega), e 6 (by omega)]; exact h2 q hq
  · rw [e 7 (by omega)]; exact h3
abbrev inT (b c : Nat) : Prop := c = 2 ∨ (b ≤ c ∧ c ≤ b + 13)
abbrev inU (b c : Nat) : Prop := c = 2 ∨ (b ≤ c ∧ c ≤ b + 7)
abbrev kpT (b : Nat) (M M' : Mm) : Prop := M' (b + 8) 0 = M (b + 8) 0 ∧ M' (b + 11) 0 = M (b + 11) 0
theorem kpT_U {b : Nat} {M M' : Mm} (h : FrC (inU b) M M') (hb : b = 4 ∨ b = 18) : kpT b M M' := ⟨by rw [h (b + 8) (by omega)], by rw [h (b + 11) (by omega)]⟩
/-- what a reader of the class leaves -/
def PoD (tx : TX) (b : Nat) (M : Mm) (res : Sum FLT (DT × Nat)) (r : Int) (M' : Mm) : Prop := FrC (inT b) M M' ∧ (M' 2 1 = M 2 1 ∧ kpT b M M') ∧ (∀ f, res = .inl f → r = 0 ∧ M' 2 10 = (f.1 : Int) + 16 * (f.2 : Int)) ∧ (∀ x, res = .inr x → r = 1 ∧ TpC tx x.2 M' ∧ DC x.1 b M')
theorem PoD_f' {tx : TX} {b : Nat} {M M' : Mm} {res : Sum FLT (DT × Nat)} {f : FLT} (hr : res = .inl f) (h : FrC (inT b) M M') (h1 : M' 2 1 = M 2 1) (hk : kpT b M M') (h2 : M' 2 10 = (f.1 : Int) + 16 * (f.2 : Int)) : PoD tx b M res 0 M' := ⟨h, ⟨h1, hk⟩, fun f' e => by rw [hr] at e; cases e; exact ⟨rfl, h2⟩, fun x e => by rw [hr] at e; cases e⟩
theorem PoD_r' {tx : TX} {b : Nat} {M M' : Mm} {res : Sum FLT (DT × Nat)} {x : DT × Nat} (hr : res = .inr x) (h : FrC (inT b) M M') (h1 : M' 2 1 = M 2 1) (hk : kpT b M M') (h2 : TpC tx x.2 M') (h3 : DC x.1 b M') : PoD tx b M res 1 M' := ⟨h, ⟨h1, hk⟩, fun f' e => (by rw [hr] at e; cases e), fun x e => by rw [hr] at e; cases e; exact ⟨rfl, h2, h3⟩⟩
theorem PoD_f {tx : TX} {b : Nat} {M M' : Mm} {res : Sum FLT (DT × Nat)} {f : FLT} (hr : res = .inl f) (h : FrC (inU b) M M') (h1 : M' 2 1 = M 2 1) (h2 : M' 2 10 = (f.1 : Int) + 16 * (f.2 : Int)) (hb : b = 4 ∨ b = 18 := by assumption) : PoD tx b M res 0 M' := PoD_f' hr (h.wk (fun c hc => by omega)) h1 (kpT_U h hb) h2
theorem PoD_r {tx : TX} {b : Nat} {M M' : Mm} {res : Sum FLT (DT × Nat)} {x : DT × Nat} (hr : res = .inr x) (h : FrC (inU b) M M') (h1 : M' 2 1 = M 2 1) (h2 : TpC tx x.2 M') (h3 : DC x.1 b M') (hb : b = 4 ∨ b = 18 := by assumption) : PoD tx b M res 1 M' := PoD_r' hr (h.wk (fun c hc => by omega)) h1 (kpT_U h hb) h2 h3
theorem onc_tab : ∀ a b c d e : Bool, ∀ n : Nat, n = (if a = true then 1 else 0) + (if b = true then 2 else 0) + (if c = true then 4 else 0) + (if d = true then 8 else 0) + (if e = true then 16 else 0) → (andI (n : Int) 1 = 0 ↔ a = false) ∧ (andI (n : Int) 2 = 0 ↔ b = false) ∧ (andI (n : Int) 4 = 0 ↔ c = false) ∧ (andI (n : Int) 8 = 0 ↔ d = false) ∧ (andI (n : Int) 16 = 0 ↔ e = false) ∧ (a = false → orI (n : Int) 1 = (n : Int) + 1) ∧ (b = false → orI (n : Int) 2 = (n : Int) + 2) ∧ (c = false → orI (n : Int) 4 = (n : Int) + 4) ∧ (d = false → orI (n : Int) 8 = (n : Int) + 8) ∧ (e = false → orI (n : Int) 16 = (n : Int) + 16) := by
  intro a b c d e n hn
  subst hn
  revert a b c d e
  decide +kernel
theorem onc_f (D : DT) : (andI (onc D : Int) 1 = 0 ↔ (dga D).2 = false) ∧ (andI (onc D : Int) 2 = 0 ↔ ¬ 0 < (drn D).1) ∧ (andI (onc D : Int) 4 = 0 ↔ (dpr D).2 = false) ∧ (andI (onc D : Int) 8 = 0 ↔ (dlp D).isSome = false) ∧ (andI (onc D : Int) 16 = 0 ↔ (dlq D).isSome = false) ∧ ((dga D).2 = false → orI (onc D : Int) 1 = (onc D : Int) + 1) ∧ (¬ 0 < (drn D).1 → orI (onc D : Int) 2 = (onc D : Int) + 2) ∧ ((dpr D).2 = false → orI (onc D : Int) 4 = (onc D : Int) + 4) ∧ ((dlp D).isSome = false → orI (onc D : Int) 8 = (onc D : Int) + 8) ∧ ((dlq D).isSome = false → orI (onc D : Int) 16 = (onc D : Int) + 16) := by
  have t := onc_tab (dga D).2 (decide (0 < (drn D).1)) (dpr D).2 (dlp D).isSome (dlq D).isSome (onc D) (by unfold onc; simp only [decide_eq_true_eq])
  have hb : decide (0 < (drn D).1) = false ↔ ¬ 0 < (drn D).1 := by simp
  rw [hb] at t
  exact t
theorem c_takeOnce {tx : TX} {p b : Nat} {M : Mm} {k n : Int} {told : Prop} (hW : WX tx) (hp : p ≤ tx.2) (hT : TpC tx p M) (hb : At shC NN b (.inl 7)) (h13 : M b 13 = n) (ht : andI n k = 0 ↔ ¬ told) (ho : ¬ told → orI n k = n + k) : S_Town_takeOnce b 2 k M (fun r M' => M' 2 1 = M 2 1 ∧ (told → r = 0 ∧ FrC (fun c => c = 2) M M' ∧ M' 2 10 = 3 + 16 * (tb_ tx p : Int)) ∧ (¬ told → r = 1 ∧ TpC tx (te_ tx p) M' ∧ M' b = up1 (M b) 13 (n + k) ∧ FrC (fun c => c = 2 ∨ c = b) M M')) := by
  have hb4 := town_at hb
  refine W_Town_takeOnce b hb 2 atC_2 _ M ?_
  rw [h13]
  refine ⟨fun z => ?_, fun z => ⟨_, c_fail (k := 3) hT, ?_⟩⟩
  · have hn := ht.mp z
    rintro M1 rfl
    have hT1 : TpC tx p (upr M b (up1 (M b) 13 (orI n k))) := hT.fr (by rw [upr_eq, if_neg (by omega)]) (by rw [upr_eq, if_neg (by omega)])
    refine ⟨_, c_adv hW hp hT1, ?_⟩
    rintro M2 ⟨a, b2⟩
    refine ⟨by rw [b2.2.1, upr_eq, if_neg (by omega)], fun y => absurd y hn, fun _ => ⟨rfl, a, ?_, (FrC.up (Or.inr rfl)).tr (b2.1.wk (fun c hc => Or.inl hc))⟩⟩
    rw [b2.1 b (by omega), upr_eq, if_pos rfl, ho hn]
  · rintro r M1 ⟨rfl, a, b1, c⟩
    have hn : told := Classical.byContradiction (fun y => z (ht.mpr y))
    exact ⟨Or.inl rfl, b1, fun _ => ⟨rfl, c, a⟩, fun y => absurd hn y⟩
