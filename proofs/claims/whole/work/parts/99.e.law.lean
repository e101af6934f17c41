/-! the law's own walk: a family of walks, by how many exceptions were thrown away -/
def LW (b Ls : Nat) (xs : Nat → Int32) (Kf : Nat → Nat → Rr → Nat → List (Nat × AV) → List AV → Mm → Prop) : Prop :=
  ∃ (p : Program) (l : Launch) (e : Env) (s : State) (m : MethodId) (args : Array Value) (below : List Frame) (meth : Method) (c : Code) (ad0 sad : Nat → Nat) (D : va_G) (A : Nat → Prop) (ar : Nat → ClassId) (Z : State → Prop),
    (∀ g, g ≤ 600 → EKc shW yL_law code 7 ret 100 0 246 (fun _ _ _ => False) p l e s m args below meth c ad0 sad D A ar 600 3600 g (6 * g) Z (Kf g)) ∧ KS s ∧ XS A s s.heap ∧ l.stackTraces = false ∧ sad 33 = b ∧ va_X b Ls xs s s.heap ∧ b < s.heap.size ∧ ¬ A b
abbrev LL (k : Nat) : List (Nat × AV) := [(0, ve 33), (1, vr 1), (2, vr 201), (3, vr 246), (4, vi ((7 * k : Nat) : Int))]
/-- behind a call: the next one -/
def JN (Kf : Nat → Nat → Rr → Nat → List (Nat × AV) → List AV → Mm → Prop) (k : Nat) : Prop := ∀ (g : Nat) (M N : Mm) (o : Nat → Int) (t : TT) (tb : Nat), g ≤ k + 1 → Sim t tb (k + 1) M N → Kf g 246 RRL 1208 (LL k) [] (ML M N o)
section LWS
variable {b Ls : Nat} {xs : Nat → Int32} {Kf : Nat → Nat → Rr → Nat → List (Nat × AV) → List AV → Mm → Prop} {g n pc : Nat} {R : Rr} {L : List (Nat × AV)} {S : List AV} {M : Mm}
theorem LW.eko (h : LW b Ls xs Kf) (hg : g ≤ 600) : EKO shW yL_law code 7 ret 100 0 246 (fun _ _ _ => False) (Kf g) := by
  obtain ⟨p, l, e, s, m, args, below, meth, c, ad0, sad, D, A, ar, Z, hE, hKS, -⟩ := h
  exact ⟨p, l, e, s, m, args, below, meth, c, ad0, sad, D, A, ar, 600, 3600, g, 6 * g, Z, hE g hg, hKS⟩
theorem LW.ek (h : LW b Ls xs Kf) (hg : g ≤ 600) : EK shW yL_law code 7 ret 100 0 246 (fun _ _ _ => False) (Kf g) := (h.eko hg).ek
/-- the script at a place -/
theorem r_sld (h : LW b Ls xs Kf) (hg : g ≤ 600) {i : Int} (j : Nat) (hj : i = (j : Int)) (hlt : j < Ls) (hLs : Ls < 2147483648) (hd : decode code pc = .ok (.iaload, 1)) (kk : Kf g n R (pc + 1) L (vi (xs j).toInt :: S) M) : Kf g n R pc L (vi i :: ve 33 :: S) M := by
  obtain ⟨p, l, e, s, m, args, below, meth, c, ad0, sad, D, A, ar, Z, hE, hKS, hXS, hnt, hsd, hX, hbl, hbA⟩ := h
  obtain ⟨hx, hb, hr, hml, hown, hts, hlk, hnm, hK, hSS, hA, hZ, hKf⟩ := hE g hg
  rw [hKf] at kk ⊢
  intro hn ad H locs ls had hP hD hS hl
  have k2 := kk hn ad H locs ls had hP hD hS hl
  have e0 : (vi i :: ve 33 :: S).map (cv ad sad) = .int (Int32.ofInt i) :: .ref b :: S.map (cv ad sad) := by
    rw [← hsd]; rfl
  have e1 : (Int32.ofInt i).toNatClampNeg = j := by
    rw [ix_at (n := Ls) (by omega) hLs, hj]; rfl
  have e2 : (vi (xs j).toInt :: S).map (cv ad sad) = .int (xs (Int32.ofInt i).toNatClampNeg) :: S.map (cv ad sad) := by
    rw [e1]
    show Value.int (Int32.ofInt (xs j).toInt) :: _ = _
    rw [Int32.ofInt_toInt]
  rw [e2] at k2
  rw [e0]
  exact va_sld hx hb hX hbl hbA hS (ix_in (by omega) hLs) hd k2
theorem r_slen (h : LW b Ls xs Kf) (hg : g ≤ 600) (hd : decode code pc = .ok (.arraylength, 1)) (kk : Kf g n R (pc + 1) L (vi (Ls : Int) :: S) M) : Kf g n R pc L (ve 33 :: S) M := by
  obtain ⟨p, l, e, s, m, args, below, meth, c, ad0, sad, D, A, ar, Z, hE, hKS, hXS, hnt, hsd, hX, hbl, hbA⟩ := h
  obtain ⟨hx, hb, hr, hml, hown, hts, hlk, hnm, hK, hSS, hA, hZ, hKf⟩ := hE g hg
  rw [hKf] at kk ⊢
  intro hn ad H locs ls had hP hD hS hl
  have k2 := kk hn ad H locs ls had hP hD hS hl
  have e0 : (ve 33 :: S).map (cv ad sad) = .ref b :: S.map (cv ad sad) := by
    rw [← hsd]; rfl
  rw [e0]
  exact va_slen hx hb hX hbl hbA hS hd k2
end LWS
theorem and31 (a : Int) : andI a 31 = a % 32 := by
  have h : ((Int32.ofInt a &&& Int32.ofInt 31).toBitVec).toNat = (a % 32).toNat := by
    rw [Int32.toBitVec_and, BitVec.toNat_and]
    show (BitVec.ofInt 32 a).toNat &&& (BitVec.ofInt 32 31).toNat = _
    rw [BitVec.toNat_ofInt, show (BitVec.ofInt 32 31).toNat = 2 ^ 5 - 1 from rfl, Nat.and_two_pow_sub_one_eq_mod]
    omega
  have := i32_nat h (by omega)
  unfold andI
  rw [this]; omega
/-- the law's two methods that catch: a call of the class that may throw, in the law's world; K0 ahead of it, K1 behind it -/
def EKY (y : MethodName) (cc : ByteArray) (d : Nat) (Q : Option AV → Rr → Mm → Prop) (K0 K1 : Nat → Rr → Nat → List (Nat × AV) → List AV → Mm → Prop) : Prop :=
  ∃ (p : Program) (l : Launch) (e : Env) (s : State) (m : MethodId) (args : Array Value) (below : List Frame) (meth : Method) (c : Code) (ad0 sad : Nat → Nat) (D : va_G) (A : Nat → Prop) (ar : Nat → ClassId) (Z : State → Prop),
    EKc shW y cc 6 (some .int) d 246 246 Q p l e s m args below meth c ad0 sad D A ar 1 6 0 0 Z K0 ∧ EKc shW y cc 6 (some .int) d 246 246 Q p l e s m args below meth c ad0 sad D A ar 1 6 1 6 Z K1 ∧ l.stackTraces = false ∧ XS A s s.heap ∧ c.exceptionTable.toList = tableOf [(0, 12, 15, 13)]
theorem EKY.ek0 {y : MethodName} {cc : ByteArray} {d : Nat} {Q : Option AV → Rr → Mm → Prop} {K0 K1 : Nat → Rr → Nat → List (Nat × AV) → List AV → Mm → Prop} (h : EKY y cc d Q K0 K1) : EK shW y cc 6 (some .int) d 246 246 Q K0 := by
  obtain ⟨p, l, e, s, m, args, below, meth, c, ad0, sad, D, A, ar, Z, h0, -⟩ := h
  exact ⟨p, l, e, s, m, args, below, meth, c, ad0, sad, D, A, ar, 1, 6, 0, 0, Z, h0⟩
theorem EKY.ek1 {y : MethodName} {cc : ByteArray} {d : Nat} {Q : Option AV → Rr → Mm → Prop} {K0 K1 : Nat → Rr → Nat → List (Nat × AV) → List AV → Mm → Prop} (h : EKY y cc d Q K0 K1) : EK shW y cc 6 (some .int) d 246 246 Q K1 := by
  obtain ⟨p, l, e, s, m, args, below, meth, c, ad0, sad, D, A, ar, Z, -, h1, -⟩ := h
  exact ⟨p, l, e, s, m, args, below, meth, c, ad0, sad, D, A, ar, 1, 6, 1, 6, Z, h1⟩
/-- their contract -/
def MSy (y : MethodName) (cc : ByteArray) (d : Nat) (as : List AV) (M : Mm) (Q : Option AV → Rr → Mm → Prop) : Prop :=
  ∀ (l : Launch) (ad sad : Nat → Nat) (D : va_G) (ar : Nat → ClassId) (sz : Nat), l.stackTraces = false → vx_Met l y (Cond.codeWith y cc 6 (some .int) [(0, 12, 15, 13)] :: TB) (rmx shW d 246 246 1 6)
    (PcX shW ar ad sad D sz 246 RRL M as) (Qc shW ar ad sad D (va_A (wld shW ar ad sad 246 RRL M) sz) 246 246 Q) (fun _ _ _ => False) (246 - 246 + 1) (cum shW 246 - cum shW 246 + 6) (va_A (wld shW ar ad sad 246 RRL M) sz)
theorem MSy_of {y : MethodName} {cc : ByteArray} {d : Nat} {as : List AV} {M : Mm} {Q : Option AV → Rr → Mm → Prop} (hy : plainName y.cls = true) (hl : avlen as ≤ 6) (h : ∀ K0 K1, EKY y cc d Q K0 K1 → K0 246 RRL 0 (avargs 0 as) [] M) : MSy y cc d as M Q := by
  intro l ad sad D ar sz hlt
  refine vx_ofWH (cc := cc) (maxL := 6) (ret := some .int) (hh := [(0, 12, 15, 13)]) hy rfl ?_
  intro p e s m args below meth c s₁ B hml hv
  obtain ⟨rfl, hsz, hP, hK, hD0, hSS, hXS⟩ := hv
  subst hsz
  have hts := atoms_spec (ws := Cond.codeWith y cc 6 (some .int) [(0, 12, 15, 13)] :: TB) B.pre
  have hown : s.vm.findClass y.cls = some m.cls := findClass_of_methodNamed B.named
  have hD := hD0.self (sz := s.heap.size)
  have hS : va_S (va_A (wld shW ar ad sad 246 RRL M) s.heap.size) s.heap s.heap [] := va_S.rf
  have hle := lv_entry (as.map (cv ad sad)) (n := 6) (by rw [avlen_sl]; exact hl)
  rw [avargs_map] at hle
  rw [lg_entry_eq]
  have htab : c.exceptionTable.toList = tableOf [(0, 12, 15, 13)] := vx_table (x := y) B (hts _ List.mem_cons_self)
  have hEK : ∀ gc gs, gc ≤ 1 → gs ≤ 6 → EKc shW y cc 6 (some .int) d 246 246 Q p l e s m _ below meth c ad sad D (va_A (wld shW ar ad sad 246 RRL M) s.heap.size) ar 1 6 gc gs _ _ := fun gc gs g1 g2 => ⟨B.exec, B.bytes, B.returns, hml, hown, fun w hw => hts w (List.mem_cons_of_mem _ hw), B.notSynchronized, (name_of_methodNamed B.named B.method).1, hK, hSS, fun q hq => Or.inr hq, ⟨g1, g2, fun t ht => by
    obtain ⟨o, b1, b2, b3, b4⟩ := ht
    exact (⟨o, b1, b2, Or.inl ⟨b3, b4⟩⟩ : vx_MQ below (Qc shW ar ad sad D (va_A (wld shW ar ad sad 246 RRL M) s.heap.size) 246 246 Q) (fun _ _ _ => False) _ s (246 - 246 + 1) (cum shW 246 - cum shW 246 + 6) (va_A (wld shW ar ad sad 246 RRL M) s.heap.size) t)⟩, rfl⟩
  have key := h _ _ ⟨p, l, e, s, m, _, below, meth, c, ad, sad, D, va_A (wld shW ar ad sad 246 RRL M) s.heap.size, ar, _, hEK 0 0 (by omega) (by omega), hEK 1 6 (by omega) (by omega), hlt, hXS, htab⟩
  have k2 := key (Nat.le_refl _) ad s.heap [] _ ⟨fun _ _ => rfl, fun _ => rfl⟩ hP hD hS hle
  rw [Nat.sub_self, Nat.sub_self] at k2
  rw [Nat.sub_self, Nat.sub_self]
  exact k2
