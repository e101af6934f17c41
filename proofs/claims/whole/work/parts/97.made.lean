/-- a cell as it is made -/
def gdc (sh : Sh) (RT : Rr) (MT : Mm) (c : Nat) (R : Rr) (M : Mm) : Prop := (∀ ci, sh c = .inl ci → ∀ k, (kd ci)[k]? = some 2 → R c k = RT c k) ∧ M c = MT c
/-- the cells from b to n1 made, nothing else touched -/
def MD (sh : Sh) (RT : Rr) (MT : Mm) (b n1 : Nat) (R : Rr) (M : Mm) (R' : Rr) (M' : Mm) : Prop := (∀ c, c < b → R' c = R c ∧ M' c = M c) ∧ (∀ c, b ≤ c → c ≤ n1 → gdc sh RT MT c R' M') ∧ RB sh n1 R' M'
/-- the object b while it is made: its fields F, G; the cells behind it up to n are made -/
def MDp (sh : Sh) (RT : Rr) (MT : Mm) (b n : Nat) (R0 : Rr) (M0 : Mm) (F : Nat → Nat) (G : Nat → Int) (R : Rr) (M : Mm) : Prop := (∀ c, c < b → R c = R0 c ∧ M c = M0 c) ∧ (R b = F ∧ M b = G) ∧ (∀ c, b < c → c ≤ n → gdc sh RT MT c R M) ∧ RB sh n R M ∧ 1 ≤ b ∧ b ≤ n
abbrev QN (P : Rr → Mm → Prop) : Option AV → Rr → Mm → Prop := fun r R' M' => r = none ∧ P R' M'
section MDS
variable {sh : Sh} {RT : Rr} {MT : Mm} {b n : Nat} {R0 : Rr} {M0 : Mm} {F : Nat → Nat} {G : Nat → Int} {R : Rr} {M : Mm}
theorem MDp.start (h1 : 1 ≤ b) (hR : R b = zr) (hM : M b = z0) (hB : RB sh b R M) : MDp sh RT MT b b R M zr z0 R M := ⟨fun _ _ => ⟨rfl, rfl⟩, ⟨hR, hM⟩, fun c a d => by omega, hB, h1, Nat.le_refl _⟩
theorem MDp.arr (h : MDp sh RT MT b n R0 M0 F G R M) (hsh : ∀ ci, sh (n + 1) ≠ .inl ci) (hT : MT (n + 1) = z0) : MDp sh RT MT b (n + 1) R0 M0 F G (upr R (n + 1) zr) (upr M (n + 1) z0) := by
  obtain ⟨h1, h2, h3, h4, h5, h6⟩ := h
  refine ⟨fun c hc => ?_, ?_, fun c a d => ?_, h4.new, h5, by omega⟩
  · rw [← upr_ne (by omega), ← upr_ne (by omega)]; exact h1 c hc
  · rw [← upr_ne (by omega), ← upr_ne (by omega)]; exact h2
  · by_cases e : c = n + 1
    · subst e
      exact ⟨fun ci z => absurd z (hsh ci), by rw [upr_at, hT]⟩
    · obtain ⟨a1, a2⟩ := h3 c a (by omega)
      exact ⟨fun ci z k hk => by rw [← upr_ne e]; exact a1 ci z k hk, by rw [← upr_ne e]; exact a2⟩
theorem MDp.put (h : MDp sh RT MT b n R0 M0 F G R M) {k r : Nat} (hr : r ≤ n) : MDp sh RT MT b n R0 M0 (up1 F k r) G (upr R b (up1 (R b) k r)) M := by
  obtain ⟨h1, h2, h3, h4, h5, h6⟩ := h
  refine ⟨fun c hc => ?_, ⟨by rw [upr_at, h2.1], h2.2⟩, fun c a d => ?_, h4.putR hr, h5, h6⟩
  · rw [← upr_ne (by omega)]; exact h1 c hc
  · obtain ⟨a1, a2⟩ := h3 c a d
    exact ⟨fun ci z j hj => by rw [← upr_ne (by omega)]; exact a1 ci z j hj, a2⟩
theorem MDp.putI (h : MDp sh RT MT b n R0 M0 F G R M) {k : Nat} {v : Int} (hv : v.toNat ≤ n ∨ ∀ ci, sh b = .inl ci → (kd ci).getD k 0 ≠ 3) : MDp sh RT MT b n R0 M0 F (up1 G k v) R (upr M b (up1 (M b) k v)) := by
  obtain ⟨h1, h2, h3, h4, h5, h6⟩ := h
  refine ⟨fun c hc => ?_, ⟨h2.1, by rw [upr_at, h2.2]⟩, fun c a d => ?_, h4.putI hv, h5, h6⟩
  · rw [← upr_ne (by omega)]; exact h1 c hc
  · obtain ⟨a1, a2⟩ := h3 c a d
    exact ⟨a1, by rw [← upr_ne (by omega)]; exact a2⟩
theorem MDp.sub (h : MDp sh RT MT b n R0 M0 F G R M) {n' : Nat} {MT' : Mm} {R' : Rr} {M' : Mm} (hn : n + 1 ≤ n') (hT : ∀ c, n < c → c ≤ n' → MT' c = MT c) (g : MD sh RT MT' (n + 1) n' (upr R (n + 1) zr) (upr M (n + 1) z0) R' M') : MDp sh RT MT b n' R0 M0 F G R' M' ∧ ∀ c, c ≤ n → R' c = R c ∧ M' c = M c := by
  obtain ⟨h1, h2, h3, h4, h5, h6⟩ := h
  obtain ⟨g1, g2, g3⟩ := g
  have key : ∀ c, c ≤ n → R' c = R c ∧ M' c = M c := fun c hc => by
    obtain ⟨a, d⟩ := g1 c (by omega)
    rw [a, d, ← upr_ne (by omega), ← upr_ne (by omega)]
    exact ⟨rfl, rfl⟩
  refine ⟨⟨fun c hc => ?_, ?_, fun c a d => ?_, g3, h5, by omega⟩, key⟩
  · rw [(key c (by omega)).1, (key c (by omega)).2]; exact h1 c hc
  · rw [(key b h6).1, (key b h6).2]; exact h2
  · by_cases e : c ≤ n
    · obtain ⟨a1, a2⟩ := h3 c a e
      exact ⟨fun ci z j hj => by rw [(key c e).1]; exact a1 ci z j hj, by rw [(key c e).2]; exact a2⟩
    · obtain ⟨a1, a2⟩ := g2 c (by omega) d
      exact ⟨a1, a2.trans (hT c (by omega) d)⟩
theorem MDp.done (h : MDp sh RT MT b n R0 M0 F G R M) (hF : ∀ ci, sh b = .inl ci → ∀ k, (kd ci)[k]? = some 2 → F k = RT b k) (hG : G = MT b) : MD sh RT MT b n R0 M0 R M := by
  obtain ⟨h1, h2, h3, h4, h5, h6⟩ := h
  refine ⟨h1, fun c a d => ?_, h4⟩
  by_cases e : c = b
  · subst e
    exact ⟨fun ci z k hk => by rw [h2.1]; exact hF ci z k hk, by rw [h2.2]; exact hG⟩
  · exact h3 c (by omega) d
end MDS
section QROWS
variable {sh : Sh} {RT : Rr} {MT : Mm} {b n : Nat} {R0 : Rr} {M0 : Mm} {F : Nat → Nat} {G : Nat → Int} {R : Rr} {M : Mm} {y : MethodName} {cc : ByteArray} {nL : Nat} {ret : Option FieldType} {d n0 n1 : Nat} {Q : Option AV → Rr → Mm → Prop} {K : Nat → Rr → Nat → List (Nat × AV) → List AV → Mm → Prop} {pc : Nat} {L : List (Nat × AV)} {S : List AV}
theorem ra_int (U : State) (c1 c2 : ClassId) (h1 : va_RA U c1 .int) (h2 : va_RA U c2 .int) : c1 = c2 := Option.some.inj (Eq.trans (Eq.symm h1) h2)
theorem ra_long (U : State) (c1 c2 : ClassId) (h1 : va_RA U c1 .long) (h2 : va_RA U c2 .long) : c1 = c2 := Option.some.inj (Eq.trans (Eq.symm h1) h2)
theorem ra_byte (U : State) (c1 c2 : ClassId) (h1 : va_RA U c1 .byte) (h2 : va_RA U c2 .byte) : c1 = c2 := Option.some.inj (Eq.trans (Eq.symm h1) h2)
theorem ra_bool (U : State) (c1 c2 : ClassId) (h1 : va_RA U c1 .boolean) (h2 : va_RA U c2 .boolean) : c1 = c2 := Option.some.inj (Eq.trans (Eq.symm h1) h2)
theorem pay_z {ad : Nat → Nat} {R : Rr} {M : Mm} {c t : Nat} (ht : t = 0 ∨ t = 2 ∨ t = 3) (hM : M c = z0) : pay ad R M c t = .inl (fun _ => Int32.ofInt 0) := by
  rcases ht with rfl | rfl | rfl <;> (unfold pay; simp only [hM])
theorem pay_z1 {ad : Nat → Nat} {R : Rr} {M : Mm} {c : Nat} (hM : M c = z0) : pay ad R M c 1 = .inr (.inl (fun _ => Int64.ofInt 0)) := by
  unfold pay; simp only [hM]
theorem q_newI (h : EK sh y cc nL ret d n0 n1 Q K) (hD : MDp sh RT MT b n R0 M0 F G R M) {N : Nat} (n' : Nat) (hn' : n' = n + 1) (harr : Cond.arrayClass .int ∈ TB) (hsh : sh n' = .inr (0, N)) (hT : MT n' = z0) (hN : N < 60000000) (hn1 : n' ≤ n1) (hL : avs n (L.map (fun q => q.2))) (hS9 : avs n S) (hd : decode cc pc = .ok (.newarray .int, 2)) (kk : ∀ R' M', MDp sh RT MT b n' R0 M0 F G R' M' → (∀ c, c ≤ n → R' c = R c ∧ M' c = M c) → K n' R' (pc + 2) L (vr n' :: S) M') : K n R pc L (vi (N : Int) :: S) M := by
  subst hn'
  exact r_newa (at9 := .int) (ty := .int) (t := 0) h hD.2.2.2.1 rfl harr (fun _ => rfl) (fun _ _ _ _ _ h2 => pay_z (Or.inl rfl) h2) (fun _ => rfl) ra_int hsh hN (by decide) hn1 hL hS9 hd (fun _ => kk _ _ (hD.arr (fun ci z => by rw [hsh] at z; cases z) hT) (fun c hc => ⟨(upr_ne (by omega)).symm, (upr_ne (by omega)).symm⟩))
theorem q_newL (h : EK sh y cc nL ret d n0 n1 Q K) (hD : MDp sh RT MT b n R0 M0 F G R M) {N : Nat} (n' : Nat) (hn' : n' = n + 1) (harr : Cond.arrayClass .long ∈ TB) (hsh : sh n' = .inr (1, N)) (hT : MT n' = z0) (hN : N < 60000000) (hn1 : n' ≤ n1) (hL : avs n (L.map (fun q => q.2))) (hS9 : avs n S) (hd : decode cc pc = .ok (.newarray .long, 2)) (kk : ∀ R' M', MDp sh RT MT b n' R0 M0 F G R' M' → (∀ c, c ≤ n → R' c = R c ∧ M' c = M c) → K n' R' (pc + 2) L (vr n' :: S) M') : K n R pc L (vi (N : Int) :: S) M := by
  subst hn'
  exact r_newa (at9 := .long) (ty := .long) (t := 1) h hD.2.2.2.1 rfl harr (fun _ => rfl) (fun _ _ _ _ _ h2 => pay_z1 h2) (fun _ => rfl) ra_long hsh hN (by decide) hn1 hL hS9 hd (fun _ => kk _ _ (hD.arr (fun ci z => by rw [hsh] at z; cases z) hT) (fun c hc => ⟨(upr_ne (by omega)).symm, (upr_ne (by omega)).symm⟩))
theorem q_newB (h : EK sh y cc nL ret d n0 n1 Q K) (hD : MDp sh RT MT b n R0 M0 F G R M) {N : Nat} (n' : Nat) (hn' : n' = n + 1) (harr : Cond.arrayClass .byte ∈ TB) (hsh : sh n' = .inr (2, N)) (hT : MT n' = z0) (hN : N < 60000000) (hn1 : n' ≤ n1) (hL : avs n (L.map (fun q => q.2))) (hS9 : avs n S) (hd : decode cc pc = .ok (.newarray .byte, 2)) (kk : ∀ R' M', MDp sh RT MT b n' R0 M0 F G R' M' → (∀ c, c ≤ n → R' c = R c ∧ M' c = M c) → K n' R' (pc + 2) L (vr n' :: S) M') : K n R pc L (vi (N : Int) :: S) M := by
  subst hn'
  exact r_newa (at9 := .byte) (ty := .byte) (t := 2) h hD.2.2.2.1 rfl harr (fun _ => rfl) (fun _ _ _ _ _ h2 => pay_z (Or.inr (Or.inl rfl)) h2) (fun _ => rfl) ra_byte hsh hN (by decide) hn1 hL hS9 hd (fun _ => kk _ _ (hD.arr (fun ci z => by rw [hsh] at z; cases z) hT) (fun c hc => ⟨(upr_ne (by omega)).symm, (upr_ne (by omega)).symm⟩))
theorem q_newZ (h : EK sh y cc nL ret d n0 n1 Q K) (hD : MDp sh RT MT b n R0 M0 F G R M) {N : Nat} (n' : Nat) (hn' : n' = n + 1) (harr : Cond.arrayClass .boolean ∈ TB) (hsh : sh n' = .inr (3, N)) (hT : MT n' = z0) (hN : N < 60000000) (hn1 : n' ≤ n1) (hL : avs n (L.map (fun q => q.2))) (hS9 : avs n S) (hd : decode cc pc = .ok (.newarray .boolean, 2)) (kk : ∀ R' M', MDp sh RT MT b n' R0 M0 F G R' M' → (∀ c, c ≤ n → R' c = R c ∧ M' c = M c) → K n' R' (pc + 2) L (vr n' :: S) M') : K n R pc L (vi (N : Int) :: S) M := by
  subst hn'
  exact r_newa (at9 := .boolean) (ty := .boolean) (t := 3) h hD.2.2.2.1 rfl harr (fun _ => rfl) (fun _ _ _ _ _ h2 => pay_z (Or.inr (Or.inr rfl)) h2) (fun _ => rfl) ra_bool hsh hN (by decide) hn1 hL hS9 hd (fun _ => kk _ _ (hD.arr (fun ci z => by rw [hsh] at z; cases z) hT) (fun c hc => ⟨(upr_ne (by omega)).symm, (upr_ne (by omega)).symm⟩))
theorem q_putR (h : EK sh y cc nL ret d n0 n1 Q K) (hD : MDp sh RT MT b n R0 M0 F G R M) {idx ci k r : Nat} {st : FieldType} (hrt : isRt st) (hr0 : 0 < r) (hrn : r ≤ n) (hf : FL y.cls idx ci k 2) (hb9 : At sh n b (.inl ci)) (hfin : ((ctN ci).2.1 k).2.2.2 = true) (hin9 : y.name = "<init>") (hdc : ((ctN ci).2.1 k).1 = y.cls) (hty : (ctN ci).2.2.2 k = st) (hd : decode cc pc = .ok (.putfield idx, 3)) (kk : ∀ R', MDp sh RT MT b n R0 M0 (up1 F k r) G R' M → (∀ c, c ≠ b → R' c = R c) → K n R' (pc + 3) L S M) : K n R pc L (vr r :: vr b :: S) M :=
  r_putRF h hrt hr0 hf hb9 hfin hin9 hdc hty hd (kk _ (hD.put hrn) (fun c hc => (upr_ne hc).symm))
theorem q_init {y' : MethodName} {cc' : ByteArray} {nL' idx na d' : Nat} {as : List AV} {MT' : Mm} (h : EK sh y cc nL ret d n0 n1 Q K) (hD : MDp sh RT MT b n R0 M0 F G R M) (n' : Nat) (hm : MSg sh y' cc' nL' none d' (n + 1) n' (upr R (n + 1) zr) (vr (n + 1) :: as) (upr M (n + 1) z0) (QN (MD sh RT MT' (n + 1) n' (upr R (n + 1) zr) (upr M (n + 1) z0)))) (ml : MLI y.cls idx y' cc' nL' na) (hd9 : d' + 1 ≤ d) (hnn : n + 1 ≤ n') (hn1 : n' ≤ n1) (hlen : as.length = na) (hT : ∀ c, n < c → c ≤ n' → MT' c = MT c) {S0 : List AV} (hst : S0 = as.reverse ++ vr (n + 1) :: S) (hL : avs (n + 1) (L.map (fun q => q.2))) (hS9 : avs (n + 1) S) (hs9 : (S.map (fun v => if isl v then 2 else 1)).sum ≤ 8) (hd : decode cc pc = .ok (.invokespecial idx, 3))
    (kk : ∀ R' M', MDp sh RT MT b n' R0 M0 F G R' M' → (∀ c, c ≤ n → R' c = R c ∧ M' c = M c) → K n' R' (pc + 3) L S M') : K (n + 1) (upr R (n + 1) zr) pc L S0 (upr M (n + 1) z0) := by
  refine r_init h ml hm hd9 hnn hn1 hlen hst hL hS9 hs9 hd (fun r R' M' q => q.1) (fun R' M' q => ?_)
  obtain ⟨a1, a2⟩ := hD.sub hnn hT q.2
  exact kk R' M' a1 a2
end QROWS
