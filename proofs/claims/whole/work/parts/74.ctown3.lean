theorem c_readShuns {tx : TX} {p b : Nat} {D : DT} {M : Mm} (hW : WX tx) (hp : p ≤ tx.2) (hT : TpC tx p M) (hb : At shC NN b (.inl 7)) (hD : DC D b M) (hw : WD tx D) : S_Town_readShuns b 2 M (PoD tx b M (rdShuns tx D p)) := by
  have hb4 := twn hb
  have h7 := hw.1
  have t1 := te_le hp
  have t2 := te_le t1.2
  refine W_Town_readShuns b hb 2 atC_2 M ⟨_, c_adv hW hp hT, ?_⟩
  rintro M1 ⟨hT1, f1⟩
  have hD1 : DC D b M1 := hD.fr (fun i hi => f1.1 _ (by omega))
  refine ⟨_, c_houseNamed t1.2 hT1 hb (hD1.nm hw), ?_⟩
  rintro r M2 ⟨f2, s2, u1, u2⟩
  cases ca : tkH tx (dn D) (dnm D) (te_ tx p) with
  | inl f =>
    obtain ⟨rfl, e⟩ := u1 f ca
    refine ⟨by decide, fun z => absurd rfl z, fun _ => PoD_f (f := f) ?_ ((f1.1.tr f2).wk (fun c hc => Or.inl hc)) (by rw [s2, f1.2.1]) e⟩
    unfold rdShuns; rw [bnd_l ca]
  | inr a =>
    obtain ⟨rfl, rfl⟩ := u2 a ca
    have ra := tkH_r ca
    refine ⟨by omega, fun _ => ⟨_, c_adv hW t1.2 hT1, ?_⟩, fun z => by omega⟩
    rintro M3 ⟨hT3, f3⟩
    have hD3 : DC D b M3 := hD1.fr (fun i hi => f3.1 _ (by omega))
    refine ⟨_, c_houseNamed t2.2 hT3 hb (hD3.nm hw), ?_⟩
    rintro r M4 ⟨f4, s4, v1, v2⟩
    cases cb : tkH tx (dn D) (dnm D) (te_ tx (te_ tx p)) with
    | inl f =>
      obtain ⟨rfl, e⟩ := v1 f cb
      refine ⟨by decide, fun z => absurd rfl z, fun _ => PoD_f (f := f) ?_ (((f1.1.tr f3.1).tr f4).wk (fun c hc => Or.inl hc)) (by rw [s4, f3.2.1, f1.2.1]) e⟩
      unfold rdShuns; rw [bnd_r ca, bnd_l cb]
    | inr a2 =>
      obtain ⟨rfl, rfl⟩ := v2 a2 cb
      have rb := tkH_r cb
      have hsh := (hw.2.1 a ra.1).2.2.2.2.2
      have e6 : M4 (b + 6) a = (dsh D a : Int) := (hD3.2.1 a ra.1).2.2.2.2.2
      have fr4 : FrC (inU b) M M4 := (f1.1.tr f3.1).wk (fun c hc => Or.inl hc)
      have s4' : M4 2 1 = M 2 1 := by rw [f3.2.1, f1.2.1]
      have bad : (a = a2 ∨ (dsh D a).testBit a2 = true) → ∃ P5 : Int → Mm → Prop, S_Tape_fail 2 3 M4 P5 ∧ ∀ (r5 : Int) (M5 : Mm), P5 r5 M5 → (r5 = 0 ∨ r5 = 1) ∧ PoD tx b M (rdShuns tx D p) r5 M5 := by
        intro hbad
        refine ⟨_, c_fail (k := 3) hT3, ?_⟩
        rintro r M5 ⟨rfl, x1, x2, x3⟩
        refine ⟨Or.inl rfl, PoD_f (f := (3, tb_ tx (te_ tx (te_ tx p)))) ?_ (fr4.tr (x3.wk (fun c hc => Or.inl hc))) (by rw [x2, s4']) x1⟩
        unfold rdShuns; rw [bnd_r ca, bnd_r cb, if_pos hbad]
      have hds : S_Town_doesShun b (a : Int) (a2 : Int) M4 (fun r M' => M' = M4 ∧ r = zo ((dsh D a).testBit a2)) := by
        refine W_Town_doesShun b hb _ _ M4 ?_
        rw [Int.toNat_natCast, e6, bit1 (by omega) (by omega)]
        refine ⟨by omega, fun q => ⟨rfl, ?_⟩, fun q => ⟨rfl, ?_⟩⟩ <;> cases h9 : (dsh D a).testBit a2 <;> simp [h9] at q ⊢
      refine ⟨by omega, fun _ => ⟨by omega, by omega, fun z => bad (Or.inl (by omega)), fun z => ⟨_, hds, ?_⟩⟩, fun z => by omega⟩
      rintro r M5 ⟨rfl, rfl⟩
      refine ⟨zo_rng _, fun y => ⟨by omega, by omega, ?_⟩, fun y => bad (Or.inr (zo_ne y))⟩
      intro M6 g6
      have hp6 := pw6 (show a2 < 7 by omega)
      rw [Int.toNat_natCast, e6, shl1 (by omega), orI_nat (by omega) (by omega)] at g6
      have f6 : FrC (fun c => c = b + 6) M5 M6 := by rw [g6]; exact FrC.up rfl
      have hT6 : TpC tx (te_ tx (te_ tx p)) M6 := hT3.fr (f6 2 (by omega)) (f6 3 (by omega))
      refine ⟨_, c_adv hW t2.2 hT6, ?_⟩
      rintro M7 ⟨hT7, f7⟩
      refine PoD_r (x := (addS D a a2, te_ tx (te_ tx (te_ tx p)))) ?_ ((fr4.tr (f6.wk (fun c hc => by omega))).tr (f7.1.wk (fun c hc => Or.inl hc))) (by rw [f7.2.1, f6 2 (by omega), s4']) hT7 ?_
      · unfold rdShuns; rw [bnd_r ca, bnd_r cb, if_neg (fun q => by
          rcases q with q | q
          · exact z (by omega)
          · rw [zo_0 y] at q; cases q)]
      · have c6 : M7 (b + 6) = up1 (M5 (b + 6)) a ((dsh D a ||| 2 ^ a2 : Nat) : Int) := by rw [f7.1 _ (by omega), g6, upr_eq, if_pos rfl]
        have co : ∀ i, i < 14 → i ≠ 6 → M7 (b + i) = M5 (b + i) := fun i h1 h2 => by rw [f7.1 _ (by omega), f6 _ (by omega)]
        have c0 := co 0 (by omega) (by omega)
        rw [Nat.add_zero] at c0
        obtain ⟨d1, d2, d3, d4, d5, d6, d7⟩ := hD3
        refine ⟨by rw [c0]; exact d1, fun q hq => ?_, by rw [co 7 (by omega) (by omega)]; exact d3, d4.fr (co 8 (by omega) (by omega)) (co 9 (by omega) (by omega)), d5.fr (co 11 (by omega) (by omega)) (co 12 (by omega) (by omega)), by rw [co 8 (by omega) (by omega)]; exact d6, by rw [co 11 (by omega) (by omega)]; exact d7⟩
        have g := d2 q hq
        rw [co 1 (by omega) (by omega), co 2 (by omega) (by omega), co 3 (by omega) (by omega), co 4 (by omega) (by omega), co 5 (by omega) (by omega), c6]
        refine ⟨g.1, g.2.1, g.2.2.1, g.2.2.2.1, g.2.2.2.2.1, ?_⟩
        show up1 _ _ _ q = ((up1 (dsh D) a (dsh D a ||| 2 ^ a2) q : Nat) : Int)
        rw [up1_eq, up1_eq]
        by_cases e : q = a
        · rw [if_pos e, if_pos e]
        · rw [if_neg e, if_neg e]; exact g.2.2.2.2.2
/-- a number told once: gap, price -/
theorem c_one {tx : TX} {p b k : Nat} {D D' : Int → DT} {M : Mm} {lo hi bit : Int} {told : Prop} {S : Nat → Nat → Mm → (Int → Mm → Prop) → Prop} {res : Sum FLT (DT × Nat)} {n : Int} (hW : WX tx) (hp : p ≤ tx.2) (hT : TpC tx p M) (hb : At shC NN b (.inl 7)) (hlo : rng lo) (hhi : rng hi) (hk : k = 10 ∨ k = 11)
    (h13 : M b 13 = n) (ht : andI n bit = 0 ↔ ¬ told) (ho : ¬ told → orI n bit = n + bit)
    (hS : ∀ (M4 : Mm) (P : Int → Mm → Prop), (∃ P1 : Int → Mm → Prop, S_Tape_takeNumber 2 lo hi M4 P1 ∧ ∀ (r1 : Int) (M1 : Mm), P1 r1 M1 → (rng r1) ∧ (r1 ≠ 0 → (∀ M2 : Mm, M2 = (upr M1 b (up1 (M1 b) k (M1 2 9))) → P 1 M2)) ∧ (r1 = 0 → (P 0 M1))) → S b 2 M4 P)
    (hr1 : told → res = .inl (3, tb_ tx p)) (hr2 : ¬ told → res = bnd (tkN tx (te_ tx p) lo hi) fun a => .inr (D' a.1, a.2))
    (hD' : ¬ told → ∀ v M', lo ≤ v ∧ v ≤ hi → M' b = up1 (up1 (M b) 13 (n + bit)) k v → (∀ i, 1 ≤ i → i < 14 → M' (b + i) = M (b + i)) → DC (D' v) b M') :
    ∃ P4 : Int → Mm → Prop, S_Town_takeOnce b 2 bit M P4 ∧ ∀ (r4 : Int) (M4 : Mm), P4 r4 M4 → (rng r4) ∧ (r4 = 0 → (PoD tx b M res 0 M4)) ∧ (r4 ≠ 0 → (∃ P5 : Int → Mm → Prop, S b 2 M4 P5 ∧ ∀ (r5 : Int) (M5 : Mm), P5 r5 M5 → (rng r5) ∧ (r5 = 0 → (PoD tx b M res 0 M5)) ∧ (r5 ≠ 0 → (PoD tx b M res 1 M5)))) := by
  have hb4 := twn hb
  have t1 := te_le hp
  refine ⟨_, c_takeOnce (told := told) hW hp hT hb h13 ht ho, ?_⟩
  rintro r M1 ⟨s1, u1, u2⟩
  by_cases htold : told
  · obtain ⟨rfl, f1, e⟩ := u1 htold
    exact ⟨by decide, fun _ => PoD_f (f := (3, tb_ tx p)) (hr1 htold) (f1.wk (fun c hc => Or.inl hc)) s1 e, fun z => absurd rfl z⟩
  · obtain ⟨rfl, hT1, e1, f1⟩ := u2 htold
    refine ⟨by decide, fun z => by omega, fun _ => ⟨fun r M' => (r = 0 ∨ r = 1) ∧ PoD tx b M res r M', hS M1 _ ⟨_, c_takeNumber hW t1.2 hT1 hlo hhi, ?_⟩, ?_⟩⟩
    · rintro r M2 ⟨f2, s2, v1, v2⟩
      cases c : tkN tx (te_ tx p) lo hi with
      | inl f =>
        obtain ⟨rfl, e⟩ := v1 f c
        exact ⟨by decide, fun z => absurd rfl z, fun _ => ⟨Or.inl rfl, PoD_f (f := f) (by rw [hr2 htold, bnd_l c]) ((f1.wk (fun c hc => by omega)).tr (f2.wk (fun c hc => Or.inl hc))) (by rw [s2, s1]) e⟩⟩
      | inr x =>
        obtain ⟨rfl, hT2, e9⟩ := v2 x c
        have rx := tkN_r t1.2 c
        refine ⟨by decide, fun _ => ?_, fun z => by omega⟩
        intro M3 g3
        have f3 : FrC (fun c => c = b) M2 M3 := by rw [g3]; exact FrC.up rfl
        refine ⟨Or.inr rfl, PoD_r (x := (D' x.1, x.2)) (by rw [hr2 htold, bnd_r c]) (((f1.wk (fun c hc => by omega)).tr (f2.wk (fun c hc => Or.inl hc))).tr (f3.wk (fun c hc => by omega))) (by rw [f3 2 (by omega), s2, s1]) (hT2.fr (f3 2 (by omega)) (f3 3 (by omega))) ?_⟩
        refine hD' htold x.1 M3 ⟨rx.1, rx.2.1⟩ ?_ (fun i h1 h2 => by rw [f3 _ (by omega), f2 _ (by omega), f1 _ (by omega)])
        rw [g3, upr_eq, if_pos rfl, e9, f2 b (by omega), e1]
    · rintro r M2 ⟨hr, hP⟩
      refine ⟨by omega, fun z => ?_, fun z => ?_⟩
      · rw [z] at hP; exact hP
      · rw [show r = 1 by omega] at hP; exact hP
theorem DC_set {D D' : DT} {b : Nat} {M M' : Mm} (h : DC D b M) (e1 : dn D' = dn D) (e2 : dnm D' = dnm D) (e3 : dk D' = dk D) (e4 : dth D' = dth D) (e5 : dwe D' = dwe D) (e6 : din D' = din D) (e7 : dsh D' = dsh D) (e8 : drn D' = drn D) (e9 : dlp D' = dlp D) (e10 : dlq D' = dlq D) (g9 : M' b 9 = M b 9) (g10 : M' b 10 = (dga D').1) (g11 : M' b 11 = (dpr D').1) (g12 : M' b 12 = M b 12) (g13 : M' b 13 = (onc D' : Int)) (co : ∀ i, 1 ≤ i → i < 14 → M' (b + i) = M (b + i)) : DC D' b M' := by
  obtain ⟨d1, d2, d3, d4, d5, d6, d7⟩ := h
  refine ⟨⟨by rw [g9, e1]; exact d1.1, g10, g11, by rw [g12, e8]; exact d1.2.2.2.1, g13⟩, fun q hq => ?_, by rw [co 7 (by omega) (by omega), e8]; exact d3, by rw [e9]; exact d4.fr (co 8 (by omega) (by omega)) (co 9 (by omega) (by omega)), by rw [e10]; exact d5.fr (co 11 (by omega) (by omega)) (co 12 (by omega) (by omega)), by rw [co 8 (by omega) (by omega)]; exact d6, by rw [co 11 (by omega) (by omega)]; exact d7⟩
  rw [e1] at hq
  rw [co 1 (by omega) (by omega), co 2 (by omega) (by omega), co 3 (by omega) (by omega), co 4 (by omega) (by omega), co 5 (by omega) (by omega), co 6 (by omega) (by omega), e2, e3, e4, e5, e6, e7]
  exact d2 q hq
theorem c_readRains {tx : TX} {p b : Nat} {D : DT} {M M1 : Mm} {n : Int} (hW : WX tx) (hp : p ≤ tx.2) (hT : TpC tx p M1) (hb : At shC NN b (.inl 7)) (hD : DC D b M) (hn : ¬ 0 < (drn D).1) (h13 : M1 b = up1 (M b) 13 n) (hn13 : n = (onc D : Int) + 2) (f1 : FrC (fun c => c = 2 ∨ c = b) M M1) (s1 : M1 2 1 = M 2 1) : S_Town_readRains b 2 M1 (PoD tx b M (bnd (rdRn tx 13 0 (drn D).2 p) fun a => .inr (setR D a.1.1 a.1.2, a.2))) := by
  have hb4 := twn hb
  obtain ⟨R, hR⟩ : ∃ R, R = rdRn tx 13 0 (drn D).2 p := ⟨_, rfl⟩
  rw [← hR]
  refine e_Town_readRains b 2 M1 fun K hK => w_Town_readRains_0 hK b hb 2 atC_2 M1 ?_
  intro M2 g2
  have key : ∀ (k i : Nat) (f : Nat → Int) (q : Nat) (M3 : Mm), k + i = 13 → q ≤ tx.2 → TpC tx q M3 → M3 b = up1 (up1 (M b) 13 n) 12 (i : Int) → (∀ j, j < i → M3 (b + 7) j = f j) → (∀ j, 1 ≤ j → j < 14 → j ≠ 7 → M3 (b + j) = M (b + j)) → FrC (inU b) M M3 → M3 2 1 = M 2 1 → R = rdRn tx k i f q → K NN RRC 7 [(0, vr b), (1, vr 2), (2, vi (i : Int))] [] M3 := by
    intro k
    induction k with
    | zero =>
      intro i f q M3 hk hq hT3 hb3 h7 co fr s3 he
      -- not reached: at 12 a thirteenth fails
      rw [rdRn] at he
      have hw := rdRn_w 13 0 (drn D).2 p ((i, f), q) hp (by omega) (fun j hj => by omega) (hR ▸ he) rfl
      have : i ≤ 12 := hw.1
      omega
    | succ k ih =>
      intro i f q M3 hk hq hT3 hb3 h7 co fr s3 he
      rw [rdRn] at he
      have htk := tk_le (tx := tx) (p := q)
      have e5 := hT3.2.2.2.2.1
      have e12 : M3 b 12 = (i : Int) := by rw [hb3, up1_eq, if_pos rfl]
      have fin : i ≠ 0 → tk_ tx q ≠ 3 → PoD tx b M (bnd R fun a => .inr (setR D a.1.1 a.1.2, a.2)) 1 M3 := by
        intro hi h3
        rw [if_pos ⟨hi, h3⟩] at he
        refine PoD_r (x := (setR D i f, q)) (by rw [bnd_r he]) fr s3 hT3 ?_
        obtain ⟨d1, d2, d3, d4, d5, d6, d7⟩ := hD
        refine ⟨⟨?_, ?_, ?_, ?_, ?_⟩, fun h hh => ?_, ⟨fun z => absurd z hi, h7⟩, d4.fr (co 8 (by omega) (by omega) (by omega)) (co 9 (by omega) (by omega) (by omega)), d5.fr (co 11 (by omega) (by omega) (by omega)) (co 12 (by omega) (by omega) (by omega)), by rw [co 8 (by omega) (by omega) (by omega)]; exact d6, by rw [co 11 (by omega) (by omega) (by omega)]; exact d7⟩
        · rw [hb3, up1_eq, if_neg (by omega), up1_eq, if_neg (by omega)]; exact d1.1
        · rw [hb3, up1_eq, if_neg (by omega), up1_eq, if_neg (by omega)]; exact d1.2.1
        · rw [hb3, up1_eq, if_neg (by omega), up1_eq, if_neg (by omega)]; exact d1.2.2.1
        · rw [hb3, up1_eq, if_pos rfl]
          show (i : Int) = if i = 0 then 1 else (i : Int)
          rw [if_neg hi]
        · rw [hb3, up1_eq, if_neg (by omega), up1_eq, if_pos rfl, hn13]
          unfold onc
          show _ = (((if (dga D).2 = true then 1 else 0) + (if 0 < i then 2 else 0) + (if (dpr D).2 = true then 4 else 0) + (if (dlp D).isSome = true then 8 else 0) + (if (dlq D).isSome = true then 16 else 0) : Nat) : Int)
          rw [if_neg hn, if_pos (show 0 < i by omega)]
          omega
        · rw [co 1 (by omega) (by omega) (by omega), co 2 (by omega) (by omega) (by omega), co 3 (by omega) (by omega) (by omega), co 4 (by omega) (by omega) (by omega), co 5 (by omega) (by omega) (by omega), co 6 (by omega) (by omega) (by omega)]
          exact d2 h hh
      have k49 : (i = 0 ∨ tk_ tx q = 3) → ¬ (i = 12 ∧ tk_ tx q = 3 ∧ tv_ tx q ≤ 9) → K NN RRC 49 [(0, vr b), (1, vr 2), (2, vi (i : Int))] [] M3 := by
        intro hc hn5
        rw [if_neg (by omega)] at he
        refine w_Town_readRains_49 hK b hb 2 atC_2 _ M3 ⟨_, c_takeNumber (lo := 0) (hi := 9) hW hq hT3 (by decide) (by decide), ?_⟩
        rintro r M4 ⟨f4, s4, v1, v2⟩
        by_cases h3 : tk_ tx q = 3
        · have htv := tv_in hq h3
          rw [if_neg (fun z => z h3)] at he
          by_cases h9 : 9 < tv_ tx q
          · have ht : tkN tx q 0 9 = .inl (4, tb_ tx q) := by unfold tkN; rw [if_neg (fun z => z h3), if_pos (Or.inr h9)]
            rw [if_pos h9] at he
            obtain ⟨rfl, e⟩ := v1 _ ht
            exact ⟨by decide, fun z => absurd rfl z, fun _ => PoD_f (f := (4, tb_ tx q)) (by rw [bnd_l he]) (fr.tr (f4.wk (fun c hc => Or.inl hc))) (by rw [s4, s3]) e⟩
          · have ht : tkN tx q 0 9 = .inr (tv_ tx q, te_ tx q) := by unfold tkN; rw [if_neg (fun z => z h3), if_neg (by omega)]
            rw [if_neg h9, if_neg (by omega)] at he
            obtain ⟨rfl, hT4, e9⟩ := v2 _ ht
            have kp := tk_pos hq (by omega)
            have e124 : M4 b 12 = (i : Int) := by rw [f4 b (by omega)]; exact e12
            refine ⟨by decide, fun _ => ?_, fun z => by omega⟩
            rw [e124, Int.toNat_natCast, e9]
            refine ⟨by omega, ?_⟩
            intro M5 g5 M6 g6
            have f5 : FrC (fun c => c = b + 7) M4 M5 := by rw [g5]; exact FrC.up rfl
            have f6 : FrC (fun c => c = b) M5 M6 := by rw [g6]; exact FrC.up rfl
            refine ih (i + 1) (up1 f i (tv_ tx q)) (te_ tx q) M6 (by omega) kp.2 (hT4.fr (by rw [f6 2 (by omega), f5 2 (by omega)]) (by rw [f6 3 (by omega), f5 3 (by omega)])) ?_ (fun j hj => ?_) (fun j h1 h2 h3' => ?_) (((fr.tr (f4.wk (fun c hc => Or.inl hc))).tr (f5.wk (fun c hc => by omega))).tr (f6.wk (fun c hc => by omega))) (by rw [f6 2 (by omega), f5 2 (by omega), s4, s3]) he
            · have e125 : M5 b 12 = (i : Int) := by rw [f5 b (by omega)]; exact e124
              rw [g6, upr_eq, if_pos rfl, e125, f5 b (by omega), f4 b (by omega), hb3]
              funext y
              simp only [up1_eq]
              by_cases ey : y = 12
              · rw [if_pos ey, if_pos ey]; rfl
              · rw [if_neg ey, if_neg ey, if_neg ey]
            · rw [f6 _ (by omega), g5, upr_eq, if_pos rfl, up1_eq, up1_eq]
              by_cases ej : j = i
              · rw [if_pos ej, if_pos ej]
              · rw [if_neg ej, if_neg ej, f4 _ (by omega)]; exact h7 j (by omega)
            · rw [f6 _ (by omega), f5 _ (by omega), f4 _ (by omega)]; exact co j h1 h2 h3'
        · have ht : tkN tx q 0 9 = .inl (1, tb_ tx q) := by unfold tkN; rw [if_pos h3]
          rw [if_pos h3] at he
          obtain ⟨rfl, e⟩ := v1 _ ht
          exact ⟨by decide, fun z => absurd rfl z, fun _ => PoD_f (f := (1, tb_ tx q)) (by rw [bnd_l he]) (fr.tr (f4.wk (fun c hc => Or.inl hc))) (by rw [s4, s3]) e⟩
      have k25 : (i = 0 ∨ tk_ tx q = 3) → K NN RRC 25 [(0, vr b), (1, vr 2), (2, vi (i : Int))] [] M3 := by
        intro hc
        refine w_Town_readRains_25 hK b hb 2 atC_2 _ M3 ?_
        rw [e12]
        refine ⟨by omega, fun z => k49 hc (fun y => by omega), fun z => ?_⟩
        have h3 : tk_ tx q = 3 := by omega
        have htv := tv_in hq h3
        rw [hT3.2.2.2.2.2.2.2.1 h3]
        refine ⟨by omega, fun y => k49 hc (fun x => by omega), fun y => ⟨_, c_fail (k := 5) hT3, ?_⟩⟩
        rintro r M4 ⟨rfl, a, b', c⟩
        rw [if_neg (by omega), if_neg (fun z => z h3), if_neg y, if_pos (by omega)] at he
        exact ⟨Or.inl rfl, PoD_f (f := (5, tb_ tx q)) (by rw [bnd_l he]) (fr.tr (c.wk (fun c hc => Or.inl hc))) (by rw [b', s3]) a⟩
      refine w_Town_readRains_7 hK b hb 2 atC_2 _ M3 ?_
      rw [e5]
      exact ⟨by omega, fun z => by omega, fun _ => ⟨by omega, fun z => k25 (Or.inl (by omega)), fun z => ⟨by omega, fun y => fin (by omega) (by omega), fun y => k25 (Or.inr (by omega))⟩⟩⟩
  have f2 : FrC (fun c => c = b) M1 M2 := by rw [g2]; exact FrC.up rfl
  refine key 13 0 (drn D).2 p M2 rfl hp (hT.fr (f2 2 (by omega)) (f2 3 (by omega))) (by rw [g2, upr_eq, if_pos rfl, h13]; rfl) (fun j hj => by omega) (fun j h1 h2 _ => by rw [f2 _ (by omega), f1 _ (by omega)]) ((f1.wk (fun c hc => by omega)).tr (f2.wk (fun c hc => by omega))) (by rw [f2 2 (by omega), s1]) hR
