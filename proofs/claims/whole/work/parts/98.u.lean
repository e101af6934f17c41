theorem ra_obj {C : String} (U : State) (c1 c2 : ClassId) (h1 : va_RA U c1 (.object C)) (h2 : va_RA U c2 (.object C)) : c1 = c2 := by
  obtain ⟨-, -, -, -, -, a⟩ := h1
  obtain ⟨-, -, -, -, -, b⟩ := h2
  exact Option.some.inj (a.symm.trans b)
theorem pay_zq {ad : Nat → Nat} {R : Rr} {M : Mm} {c t : Nat} (ht : t = 4 ∨ t = 5) (hR : R c = zr) : pay ad R M c t = .inr (.inr (.inr (.inr (fun _ => none)))) := by
  rcases ht with rfl | rfl <;> (unfold pay; simp [hR, ro])
/-- a new row of references -/
theorem q_newq {sh : Sh} {RT : Rr} {MT : Mm} {b n : Nat} {R0 : Rr} {M0 : Mm} {F : Nat → Nat} {G : Nat → Int} {R : Rr} {M : Mm} {y : MethodName} {cc : ByteArray} {nL : Nat} {ret : Option FieldType} {d n0 n1 : Nat} {Q : Option AV → Rr → Mm → Prop} {K : Nat → Rr → Nat → List (Nat × AV) → List AV → Mm → Prop} {pc : Nat} {L : List (Nat × AV)} {S : List AV} (h : EKO sh y cc nL ret d n0 n1 Q K) (hD : MDp sh RT MT b n R0 M0 F G R M) {t N idx : Nat} {C : String} (n' : Nat) (hn' : n' = n + 1) (ht : (t = 4 ∧ C = RX5) ∨ (t = 5 ∧ C = RX6)) (hcl : Cond.classLink y.cls idx C ∈ TB) (hsh : sh n' = .inr (t, N)) (hT : MT n' = z0) (hN : N < 60000000) (hn1 : n' ≤ n1) (hL : avs n (L.map (fun q => q.2))) (hS9 : avs n S) (hd : decode cc pc = .ok (.anewarray idx, 3)) (kk : ∀ R' M', MDp sh RT MT b n' R0 M0 F G R' M' → (∀ c, c ≤ n → R' c = R c ∧ M' c = M c) → R' n' = zr → K n' R' (pc + 3) L (vr n' :: S) M') : K n R pc L (vi (N : Int) :: S) M := by
  subst hn'
  have kk2 := kk _ _ (hD.arr (fun ci z => by rw [hsh] at z; cases z) hT) (fun c hc => ⟨(upr_ne (by omega)).symm, (upr_ne (by omega)).symm⟩) upr_at
  have hB := hD.2.2.2.1
  obtain ⟨p, l, e, s, m, args, below, meth, c, ad0, sad, D, A, ar, xc, xs, gc, gs, Z, ⟨hx, hb, hr, hml, hown, hts, hlk, hnm, hK, hSS, hA, ⟨hgc, hgs, hZ⟩, rfl⟩, hKS⟩ := h
  intro hn ad H locs ls had hP hD9 hS hl
  have ecs : cum sh (n + 1) = cum sh n + N := by
    show cum sh n + csz sh (n + 1) = _
    unfold csz
    rw [hsh]
  have em := cum_mono (sh := sh) hn
  have em1 := cum_mono (sh := sh) hn1
  have hNi : (Int32.ofInt (N : Int)).toNatClampNeg = N := by
    show (Int32.ofInt (N : Int)).toInt.toNat = N
    rw [oI ⟨by omega, by omega⟩]; rfl
  have hAO : va_AO C s := by
    rcases ht with ⟨-, rfl⟩ | ⟨-, rfl⟩
    · exact hKS.2.1
    · exact hKS.2.2
  have htl : (tysL ar)[t]? = some (ar t, .object C) := by
    rcases ht with ⟨rfl, rfl⟩ | ⟨rfl, rfl⟩ <;> rfl
  refine va_newq (N' := N) hx hb hown (hts _ hcl) hAO hK hP hD9 hS hA ?_ hNi (by omega) (by show _ ≤ n1 - n0 + xc; omega) (by show _ ≤ cum sh n1 - cum sh n0 + xs; omega) hd ?_
  · intro q9
    have := (i32_lt (x := (N : Int)) (z := 0) ⟨by omega, by omega⟩ (by decide)).mp q9
    omega
  intro q cA H1 hK1 hP1 hD1 hS1
  have hl6 : (tysL ar).length = 6 := rfl
  have hcA : cA = ar t := by
    refine ra_obj s cA (ar t) ?_ (hK.2 t _ htl).2
    exact (hK1.2 6 (cA, .object C) (by rw [List.getElem?_append_right (by rw [hl6]; exact Nat.le_refl _), hl6]; rfl)).2
  subst hcA
  have e9 : ((q, .inl (ar t, (N, .inr (.inr (.inr (.inr (fun _ => none))))))) : Nat × va_E) = (q, ce sh ar (up1 ad (n + 1) q) sad (upr R (n + 1) zr) (upr M (n + 1) z0) (n + 1)) := by
    rw [ce_arr hsh, pay_zq (by rcases ht with ⟨h, -⟩ | ⟨h, -⟩; exact Or.inl h; exact Or.inr h) upr_at]
  rw [e9, wld_push hB] at hP1 hD1
  have hag : ∀ c, c ≤ n → up1 ad (n + 1) q c = ad c := fun c hc9 => up1_ne (by omega)
  have k2 := kk2 (by omega) (up1 ad (n + 1) q) H1 locs ls ⟨fun c hc9 => (hag c (by omega)).trans (had.1 c hc9), fun e9 => by omega⟩ hP1 hD1 hS1 (by rw [avs_mapL hag L hL]; exact hl)
  rw [List.map_cons, avs_map hag S hS9, show cv (up1 ad (n + 1) q) sad (vr (n + 1)) = .ref q by show Value.ref (up1 ad (n + 1) q (n + 1)) = _; rw [up1_at], ecs, show n + 1 - n0 + gc = n - n0 + gc + 1 by omega, show cum sh n + N - cum sh n0 + gs = cum sh n - cum sh n0 + gs + N by omega] at k2
  exact k2
/-- a reference put into a row of references -/
theorem MDp.putA {sh : Sh} {RT : Rr} {MT : Mm} {b n : Nat} {R0 : Rr} {M0 : Mm} {F : Nat → Nat} {G : Nat → Int} {R : Rr} {M : Mm} (h : MDp sh RT MT b n R0 M0 F G R M) {a k r : Nat} (ha : b < a) (hsh : ∀ ci, sh a ≠ .inl ci) (hr : r ≤ n) : MDp sh RT MT b n R0 M0 F G (upr R a (up1 (R a) k r)) M := by
  obtain ⟨h1, h2, h3, h4, h5, h6⟩ := h
  refine ⟨fun c hc => ?_, ?_, fun c c1 c2 => ?_, h4.putR hr, h5, h6⟩
  · rw [← upr_ne (by omega)]; exact h1 c hc
  · rw [← upr_ne (by omega)]; exact h2
  · obtain ⟨a1, a2⟩ := h3 c c1 c2
    refine ⟨fun ci z j hj => ?_, a2⟩
    by_cases e : c = a
    · subst e; exact absurd z (hsh ci)
    · rw [← upr_ne e]; exact a1 ci z j hj
