def andI (x z : Int) : Int := (Int32.ofInt x &&& Int32.ofInt z).toInt
def orI (x z : Int) : Int := (Int32.ofInt x ||| Int32.ofInt z).toInt
def xorI (x z : Int) : Int := (Int32.ofInt x ^^^ Int32.ofInt z).toInt
def shlI (x z : Int) : Int := (Int32.ofInt x <<< (Int32.ofInt z &&& 31)).toInt
def shrI (x z : Int) : Int := (Int32.ofInt x >>> (Int32.ofInt z &&& 31)).toInt
def ushrI (x z : Int) : Int := ((Int32.ofInt x).toUInt32 >>> ((Int32.ofInt z).toUInt32 &&& Int32.toUInt32 31)).toInt32.toInt
def divI (x z : Int) : Int := (Int32.ofInt x / Int32.ofInt z).toInt
def remI (x z : Int) : Int := (Int32.ofInt x - Int32.ofInt x / Int32.ofInt z * Int32.ofInt z).toInt
def mulW (x z : Int) : Int := (Int32.ofInt x * Int32.ofInt z).toInt
def addW (x z : Int) : Int := (Int32.ofInt x + Int32.ofInt z).toInt
def subW (x z : Int) : Int := (Int32.ofInt x - Int32.ofInt z).toInt
def andL (x z : Int) : Int := (Int64.ofInt x &&& Int64.ofInt z).toInt
def orL (x z : Int) : Int := (Int64.ofInt x ||| Int64.ofInt z).toInt
def divL (x z : Int) : Int := (Int64.ofInt x / Int64.ofInt z).toInt
def remL (x z : Int) : Int := (Int64.ofInt x - Int64.ofInt x / Int64.ofInt z * Int64.ofInt z).toInt
def shlL (x z : Int) : Int := (Int64.ofInt x <<< ((Int32.ofInt z).toInt64 &&& 63)).toInt
def ushrL (x z : Int) : Int := ((Int64.ofInt x).toUInt64 >>> ((Int32.ofInt z).toInt64.toUInt64 &&& Int64.toUInt64 63)).toInt64.toInt
def cmpL (x z : Int) : Int := if x < z then -1 else if x = z then 0 else 1
def isl : AV → Bool
  | .inr (.inl _) => true
  | _ => false
def lput (i : Nat) (v : AV) (L : List (Nat × AV)) : List (Nat × AV) := (i, v) :: L.filter (fun q => !(q.1 == i) && !(q.1 + 1 == i && isl q.2))
def lputL (i : Nat) (v : AV) (L : List (Nat × AV)) : List (Nat × AV) := (i, v) :: L.filter (fun q => !(q.1 == i) && (!(q.1 == i + 1) && !(q.1 + 1 == i && isl q.2)))
theorem isl_cat (ad sad : Nat → Nat) (v : AV) : ((cv ad sad v).category == 2) = isl v := by rcases v with x | x | r | k <;> rfl
theorem lput_map (ad sad : Nat → Nat) (i : Nat) (v : AV) (L : List (Nat × AV)) : (i, cv ad sad v) :: (L.map (fun q => (q.1, cv ad sad q.2))).filter (fun q => !(q.1 == i) && !(q.1 + 1 == i && q.2.category == 2)) = (lput i v L).map (fun q => (q.1, cv ad sad q.2)) := by
  unfold lput
  rw [List.filter_map, List.map_cons]
  congr 3
  funext q
  simp only [Function.comp, isl_cat]
theorem lputL_map (ad sad : Nat → Nat) (i : Nat) (v : AV) (L : List (Nat × AV)) : (i, cv ad sad v) :: (L.map (fun q => (q.1, cv ad sad q.2))).filter (fun q => !(q.1 == i) && (!(q.1 == i + 1) && !(q.1 + 1 == i && q.2.category == 2))) = (lputL i v L).map (fun q => (q.1, cv ad sad q.2)) := by
  unfold lputL
  rw [List.filter_map, List.map_cons]
  congr 3
  funext q
  simp only [Function.comp, isl_cat]
theorem l_at {ad sad : Nat → Nat} {L : List (Nat × AV)} {k i : Nat} {v : AV} (h : L[k]? = some (i, v)) : (L.map (fun q => (q.1, cv ad sad q.2)))[k]? = some (i, cv ad sad v) := by rw [List.getElem?_map, h]; rfl
theorem l2i_of (x : Int) : (Int64.ofInt x).toInt32 = Int32.ofInt x := by
  apply Int32.toInt_inj.mp
  rw [Int64.toInt_toInt32, Int64.toInt_ofInt, Int32.toInt_ofInt]
  exact Int.bmod_bmod_of_dvd (by decide)
theorem i2b_of {x : Int} (h : -128 ≤ x ∧ x ≤ 127) : (Int32.ofInt x).toInt8.toInt32 = Int32.ofInt x := by
  apply Int32.toInt_inj.mp
  rw [Int8.toInt_toInt32, Int32.toInt_toInt8, oI ⟨by omega, by omega⟩]
  exact Int.bmod_eq_of_le (by omega) (by omega)
theorem i2c_of {x : Int} (h : 0 ≤ x ∧ x ≤ 65535) : ((Int32.ofInt x).toUInt32 % 65536).toInt32 = Int32.ofInt x := by
  obtain ⟨k, rfl⟩ := Int.eq_ofNat_of_zero_le h.1
  have h2 : k < 65536 := by omega
  show ((nI k).toUInt32 % 65536).toInt32 = nI k
  rw [pk_char, pk_tn (by omega), Nat.mod_eq_of_lt h2]
theorem lcmp_of {x z : Int} (hx : rngL x) (hz : rngL z) : Int32.ofInt (cmpL x z) = lg_cmp (Int64.ofInt x) (Int64.ofInt z) := by
  unfold cmpL lg_cmp
  simp only [gt_iff_lt, i64_eq hx hz, i64_lt hz hx]
  by_cases h1 : x < z
  · rw [if_pos h1, if_neg (by omega), if_neg (by omega)]; rfl
  · by_cases h2 : x = z
    · rw [if_neg h1, if_pos h2, if_neg (by omega), if_pos h2]; rfl
    · rw [if_neg h1, if_neg h2, if_pos (by omega)]; rfl
section ROWS
variable {sh : Sh} {y : MethodName} {cc : ByteArray} {nL : Nat} {ret : Option FieldType} {d n0 n1 : Nat} {Q : Option AV → Rr → Mm → Prop} {K : Nat → Rr → Nat → List (Nat × AV) → List AV → Mm → Prop} {n : Nat} {R : Rr} {pc : Nat} {L L' : List (Nat × AV)} {S : List AV} {M : Mm}
theorem r_iconst (h : EK sh y cc nL ret d n0 n1 Q K) {v : Int} (hd : decode cc pc = .ok (.iconst v, 1)) (kk : K n R (pc + 1) L (vi v :: S) M) : K n R pc L S M := by
  obtain ⟨p, l, e, s, m, args, below, meth, c, ad0, sad, D, A, ar, xc, xs, gc, gs, Z, hx, hb, hr, hml, hown, hts, hlk, hnm, hK, hSS, hA, ⟨hgc, hgs, hZ⟩, rfl⟩ := h
  intro hn ad H locs ls had hP hD hS hl
  refine lv_iconst hx hb hd rfl ?_
  have k2 := kk hn ad H locs ls had hP hD hS hl
  exact k2
theorem r_bipush (h : EK sh y cc nL ret d n0 n1 Q K) {v : Int} (hv : (Int8.ofInt v).toInt32 = Int32.ofInt v) (hd : decode cc pc = .ok (.bipush v, 2)) (kk : K n R (pc + 2) L (vi v :: S) M) : K n R pc L S M := by
  obtain ⟨p, l, e, s, m, args, below, meth, c, ad0, sad, D, A, ar, xc, xs, gc, gs, Z, hx, hb, hr, hml, hown, hts, hlk, hnm, hK, hSS, hA, ⟨hgc, hgs, hZ⟩, rfl⟩ := h
  intro hn ad H locs ls had hP hD hS hl
  refine lv_bipush hx hb hd (v := Int32.ofInt v) hv ?_
  have k2 := kk hn ad H locs ls had hP hD hS hl
  exact k2
theorem r_sipush (h : EK sh y cc nL ret d n0 n1 Q K) {v : Int} (hv : (Int16.ofInt v).toInt32 = Int32.ofInt v) (hd : decode cc pc = .ok (.sipush v, 3)) (kk : K n R (pc + 3) L (vi v :: S) M) : K n R pc L S M := by
  obtain ⟨p, l, e, s, m, args, below, meth, c, ad0, sad, D, A, ar, xc, xs, gc, gs, Z, hx, hb, hr, hml, hown, hts, hlk, hnm, hK, hSS, hA, ⟨hgc, hgs, hZ⟩, rfl⟩ := h
  intro hn ad H locs ls had hP hD hS hl
  refine lv_sipush hx hb hd (v := Int32.ofInt v) hv ?_
  have k2 := kk hn ad H locs ls had hP hD hS hl
  exact k2
theorem r_lconst (h : EK sh y cc nL ret d n0 n1 Q K) {v : Fin 2} {w : Int} (hv : Int64.ofNat (v : Nat) = Int64.ofInt w) (hd : decode cc pc = .ok (.lconst v, 1)) (kk : K n R (pc + 1) L (vl w :: S) M) : K n R pc L S M := by
  obtain ⟨p, l, e, s, m, args, below, meth, c, ad0, sad, D, A, ar, xc, xs, gc, gs, Z, hx, hb, hr, hml, hown, hts, hlk, hnm, hK, hSS, hA, ⟨hgc, hgs, hZ⟩, rfl⟩ := h
  intro hn ad H locs ls had hP hD hS hl
  refine lv_lconst hx hb hd (v := Int64.ofInt w) hv ?_
  have k2 := kk hn ad H locs ls had hP hD hS hl
  exact k2
theorem r_ldc (h : EK sh y cc nL ret d n0 n1 Q K) {idx : Nat} {v : Int} (hc : Cond.constant y.cls idx (Int32.ofInt v) ∈ TB) (hd : decode cc pc = .ok (.ldc idx, 2)) (kk : K n R (pc + 2) L (vi v :: S) M) : K n R pc L S M := by
  obtain ⟨p, l, e, s, m, args, below, meth, c, ad0, sad, D, A, ar, xc, xs, gc, gs, Z, hx, hb, hr, hml, hown, hts, hlk, hnm, hK, hSS, hA, ⟨hgc, hgs, hZ⟩, rfl⟩ := h
  intro hn ad H locs ls had hP hD hS hl
  refine lv_ldc hx hb hown (hts _ hc) hd ?_
  have k2 := kk hn ad H locs ls had hP hD hS hl
  exact k2
theorem r_ldcw (h : EK sh y cc nL ret d n0 n1 Q K) {idx : Nat} {v : Int} (hc : Cond.constant y.cls idx (Int32.ofInt v) ∈ TB) (hd : decode cc pc = .ok (.ldc_w idx, 3)) (kk : K n R (pc + 3) L (vi v :: S) M) : K n R pc L S M := by
  obtain ⟨p, l, e, s, m, args, below, meth, c, ad0, sad, D, A, ar, xc, xs, gc, gs, Z, hx, hb, hr, hml, hown, hts, hlk, hnm, hK, hSS, hA, ⟨hgc, hgs, hZ⟩, rfl⟩ := h
  intro hn ad H locs ls had hP hD hS hl
  refine lv_ldcw hx hb hown (hts _ hc) hd ?_
  have k2 := kk hn ad H locs ls had hP hD hS hl
  exact k2
theorem r_ldc2 (h : EK sh y cc nL ret d n0 n1 Q K) {idx : Nat} {v : Int} (hc : Cond.constantLong y.cls idx (Int64.ofInt v) ∈ TB) (hd : decode cc pc = .ok (.ldc2_w idx, 3)) (kk : K n R (pc + 3) L (vl v :: S) M) : K n R pc L S M := by
  obtain ⟨p, l, e, s, m, args, below, meth, c, ad0, sad, D, A, ar, xc, xs, gc, gs, Z, hx, hb, hr, hml, hown, hts, hlk, hnm, hK, hSS, hA, ⟨hgc, hgs, hZ⟩, rfl⟩ := h
  intro hn ad H locs ls had hP hD hS hl
  refine W.ldc2 hx hb hown (hts _ hc) rfl hd ?_
  have k2 := kk hn ad H locs ls had hP hD hS hl
  exact k2
theorem r_ldcS (h : EK sh y cc nL ret d n0 n1 Q K) {idx k : Nat} {tx : String} (hs : (y.cls, idx, tx, k) ∈ sF) (hd : decode cc pc = .ok (.ldc idx, 2)) (kk : K n R (pc + 2) L (ve k :: S) M) : K n R pc L S M := by
  obtain ⟨p, l, e, s, m, args, below, meth, c, ad0, sad, D, A, ar, xc, xs, gc, gs, Z, hx, hb, hr, hml, hown, hts, hlk, hnm, hK, hSS, hA, ⟨hgc, hgs, hZ⟩, rfl⟩ := h
  intro hn ad H locs ls had hP hD hS hl
  refine va_ldcS hx hb hown (hSS.2.2.2.2 _ hs) hd ?_
  have k2 := kk hn ad H locs ls had hP hD hS hl
  exact k2
theorem r_iload (h : EK sh y cc nL ret d n0 n1 Q K) {i : Nat} {x : Int} (k : Nat) (hk : L[k]? = some (i, vi x)) (hd : decode cc pc = .ok (.iload i, 2)) (kk : K n R (pc + 2) L (vi x :: S) M) : K n R pc L S M := by
  obtain ⟨p, l, e, s, m, args, below, meth, c, ad0, sad, D, A, ar, xc, xs, gc, gs, Z, hx, hb, hr, hml, hown, hts, hlk, hnm, hK, hSS, hA, ⟨hgc, hgs, hZ⟩, rfl⟩ := h
  intro hn ad H locs ls had hP hD hS hl
  refine lv_iload hx hb hd (lv_at hl k (l_at hk)) ?_
  have k2 := kk hn ad H locs ls had hP hD hS hl
  exact k2
theorem r_iloadn (h : EK sh y cc nL ret d n0 n1 Q K) {q : Fin 4} {x : Int} (k : Nat) (hk : L[k]? = some ((q : Nat), vi x)) (hd : decode cc pc = .ok (.iload_n q, 1)) (kk : K n R (pc + 1) L (vi x :: S) M) : K n R pc L S M := by
  obtain ⟨p, l, e, s, m, args, below, meth, c, ad0, sad, D, A, ar, xc, xs, gc, gs, Z, hx, hb, hr, hml, hown, hts, hlk, hnm, hK, hSS, hA, ⟨hgc, hgs, hZ⟩, rfl⟩ := h
  intro hn ad H locs ls had hP hD hS hl
  refine lv_iload_n hx hb hd rfl (lv_at hl k (l_at hk)) ?_
  have k2 := kk hn ad H locs ls had hP hD hS hl
  exact k2
theorem r_lload (h : EK sh y cc nL ret d n0 n1 Q K) {i : Nat} {x : Int} (k : Nat) (hk : L[k]? = some (i, vl x)) (hd : decode cc pc = .ok (.lload i, 2)) (kk : K n R (pc + 2) L (vl x :: S) M) : K n R pc L S M := by
  obtain ⟨p, l, e, s, m, args, below, meth, c, ad0, sad, D, A, ar, xc, xs, gc, gs, Z, hx, hb, hr, hml, hown, hts, hlk, hnm, hK, hSS, hA, ⟨hgc, hgs, hZ⟩, rfl⟩ := h
  intro hn ad H locs ls had hP hD hS hl
  refine lv_lload hx hb hd (lv_at hl k (l_at hk)) ?_
  have k2 := kk hn ad H locs ls had hP hD hS hl
  exact k2
theorem r_lloadn (h : EK sh y cc nL ret d n0 n1 Q K) {q : Fin 4} {x : Int} (k : Nat) (hk : L[k]? = some ((q : Nat), vl x)) (hd : decode cc pc = .ok (.lload_n q, 1)) (kk : K n R (pc + 1) L (vl x :: S) M) : K n R pc L S M := by
  obtain ⟨p, l, e, s, m, args, below, meth, c, ad0, sad, D, A, ar, xc, xs, gc, gs, Z, hx, hb, hr, hml, hown, hts, hlk, hnm, hK, hSS, hA, ⟨hgc, hgs, hZ⟩, rfl⟩ := h
  intro hn ad H locs ls had hP hD hS hl
  refine lv_lload_n hx hb hd rfl (lv_at hl k (l_at hk)) ?_
  have k2 := kk hn ad H locs ls had hP hD hS hl
  exact k2
theorem r_aload (h : EK sh y cc nL ret d n0 n1 Q K) {i : Nat} {x : Nat} (k : Nat) (hk : L[k]? = some (i, vr x)) (hd : decode cc pc = .ok (.aload i, 2)) (kk : K n R (pc + 2) L (vr x :: S) M) : K n R pc L S M := by
  obtain ⟨p, l, e, s, m, args, below, meth, c, ad0, sad, D, A, ar, xc, xs, gc, gs, Z, hx, hb, hr, hml, hown, hts, hlk, hnm, hK, hSS, hA, ⟨hgc, hgs, hZ⟩, rfl⟩ := h
  intro hn ad H locs ls had hP hD hS hl
  refine lv_aload hx hb hd (lv_at hl k (l_at hk)) ?_
  have k2 := kk hn ad H locs ls had hP hD hS hl
  exact k2
theorem r_aloadn (h : EK sh y cc nL ret d n0 n1 Q K) {q : Fin 4} {x : Nat} (k : Nat) (hk : L[k]? = some ((q : Nat), vr x)) (hd : decode cc pc = .ok (.aload_n q, 1)) (kk : K n R (pc + 1) L (vr x :: S) M) : K n R pc L S M := by
  obtain ⟨p, l, e, s, m, args, below, meth, c, ad0, sad, D, A, ar, xc, xs, gc, gs, Z, hx, hb, hr, hml, hown, hts, hlk, hnm, hK, hSS, hA, ⟨hgc, hgs, hZ⟩, rfl⟩ := h
  intro hn ad H locs ls had hP hD hS hl
  refine lv_aload_n hx hb hd rfl (lv_at hl k (l_at hk)) ?_
  have k2 := kk hn ad H locs ls had hP hD hS hl
  exact k2
theorem r_aloadEn (h : EK sh y cc nL ret d n0 n1 Q K) {q : Fin 4} {x : Nat} (k : Nat) (hk : L[k]? = some ((q : Nat), ve x)) (hd : decode cc pc = .ok (.aload_n q, 1)) (kk : K n R (pc + 1) L (ve x :: S) M) : K n R pc L S M := by
  obtain ⟨p, l, e, s, m, args, below, meth, c, ad0, sad, D, A, ar, xc, xs, gc, gs, Z, hx, hb, hr, hml, hown, hts, hlk, hnm, hK, hSS, hA, ⟨hgc, hgs, hZ⟩, rfl⟩ := h
  intro hn ad H locs ls had hP hD hS hl
  refine lv_aload_n hx hb hd rfl (lv_at hl k (l_at hk)) ?_
  have k2 := kk hn ad H locs ls had hP hD hS hl
  exact k2
theorem r_aloadE (h : EK sh y cc nL ret d n0 n1 Q K) {i : Nat} {x : Nat} (k : Nat) (hk : L[k]? = some (i, ve x)) (hd : decode cc pc = .ok (.aload i, 2)) (kk : K n R (pc + 2) L (ve x :: S) M) : K n R pc L S M := by
  obtain ⟨p, l, e, s, m, args, below, meth, c, ad0, sad, D, A, ar, xc, xs, gc, gs, Z, hx, hb, hr, hml, hown, hts, hlk, hnm, hK, hSS, hA, ⟨hgc, hgs, hZ⟩, rfl⟩ := h
  intro hn ad H locs ls had hP hD hS hl
  refine lv_aload hx hb hd (lv_at hl k (l_at hk)) ?_
  have k2 := kk hn ad H locs ls had hP hD hS hl
  exact k2
theorem r_istore (h : EK sh y cc nL ret d n0 n1 Q K) {i : Nat} {x : Int} (hi : i < nL) (hL : lput i (vi x) L = L') (hd : decode cc pc = .ok (.istore i, 2)) (kk : K n R (pc + 2) L' S M) : K n R pc L (vi x :: S) M := by
  obtain ⟨p, l, e, s, m, args, below, meth, c, ad0, sad, D, A, ar, xc, xs, gc, gs, Z, hx, hb, hr, hml, hown, hts, hlk, hnm, hK, hSS, hA, ⟨hgc, hgs, hZ⟩, rfl⟩ := h
  intro hn ad H locs ls had hP hD hS hl
  exact lv_istore hx hb hd hl hi (lput_map ad sad i (vi x) L) (fun ls hl => kk hn ad H locs ls had hP hD hS (by rw [← hL]; exact hl))
theorem r_istoren (h : EK sh y cc nL ret d n0 n1 Q K) {q : Fin 4} {x : Int} (hi : (q : Nat) < nL) (hL : lput (q : Nat) (vi x) L = L') (hd : decode cc pc = .ok (.istore_n q, 1)) (kk : K n R (pc + 1) L' S M) : K n R pc L (vi x :: S) M := by
  obtain ⟨p, l, e, s, m, args, below, meth, c, ad0, sad, D, A, ar, xc, xs, gc, gs, Z, hx, hb, hr, hml, hown, hts, hlk, hnm, hK, hSS, hA, ⟨hgc, hgs, hZ⟩, rfl⟩ := h
  intro hn ad H locs ls had hP hD hS hl
  exact lv_istore_n hx hb hd rfl hl hi (lput_map ad sad q (vi x) L) (fun ls hl => kk hn ad H locs ls had hP hD hS (by rw [← hL]; exact hl))
theorem r_astore (h : EK sh y cc nL ret d n0 n1 Q K) {i : Nat} {x : Nat} (hi : i < nL) (hL : lput i (vr x) L = L') (hd : decode cc pc = .ok (.astore i, 2)) (kk : K n R (pc + 2) L' S M) : K n R pc L (vr x :: S) M := by
  obtain ⟨p, l, e, s, m, args, below, meth, c, ad0, sad, D, A, ar, xc, xs, gc, gs, Z, hx, hb, hr, hml, hown, hts, hlk, hnm, hK, hSS, hA, ⟨hgc, hgs, hZ⟩, rfl⟩ := h
  intro hn ad H locs ls had hP hD hS hl
  exact lv_astore hx hb hd hl hi (lput_map ad sad i (vr x) L) (fun ls hl => kk hn ad H locs ls had hP hD hS (by rw [← hL]; exact hl))
theorem r_astoren (h : EK sh y cc nL ret d n0 n1 Q K) {q : Fin 4} {x : Nat} (hi : (q : Nat) < nL) (hL : lput (q : Nat) (vr x) L = L') (hd : decode cc pc = .ok (.astore_n q, 1)) (kk : K n R (pc + 1) L' S M) : K n R pc L (vr x :: S) M := by
  obtain ⟨p, l, e, s, m, args, below, meth, c, ad0, sad, D, A, ar, xc, xs, gc, gs, Z, hx, hb, hr, hml, hown, hts, hlk, hnm, hK, hSS, hA, ⟨hgc, hgs, hZ⟩, rfl⟩ := h
  intro hn ad H locs ls had hP hD hS hl
  exact lv_astore_n hx hb hd rfl hl hi (lput_map ad sad q (vr x) L) (fun ls hl => kk hn ad H locs ls had hP hD hS (by rw [← hL]; exact hl))
theorem r_lstore (h : EK sh y cc nL ret d n0 n1 Q K) {i : Nat} {x : Int} (hi : i + 1 < nL) (hL : lputL i (vl x) L = L') (hd : decode cc pc = .ok (.lstore i, 2)) (kk : K n R (pc + 2) L' S M) : K n R pc L (vl x :: S) M := by
  obtain ⟨p, l, e, s, m, args, below, meth, c, ad0, sad, D, A, ar, xc, xs, gc, gs, Z, hx, hb, hr, hml, hown, hts, hlk, hnm, hK, hSS, hA, ⟨hgc, hgs, hZ⟩, rfl⟩ := h
  intro hn ad H locs ls had hP hD hS hl
  exact lv_lstore hx hb hd hl hi (lputL_map ad sad i (vl x) L) (fun ls hl => kk hn ad H locs ls had hP hD hS (by rw [← hL]; exact hl))
theorem r_lstoren (h : EK sh y cc nL ret d n0 n1 Q K) {q : Fin 4} {x : Int} (hi : (q : Nat) + 1 < nL) (hL : lputL (q : Nat) (vl x) L = L') (hd : decode cc pc = .ok (.lstore_n q, 1)) (kk : K n R (pc + 1) L' S M) : K n R pc L (vl x :: S) M := by
  obtain ⟨p, l, e, s, m, args, below, meth, c, ad0, sad, D, A, ar, xc, xs, gc, gs, Z, hx, hb, hr, hml, hown, hts, hlk, hnm, hK, hSS, hA, ⟨hgc, hgs, hZ⟩, rfl⟩ := h
  intro hn ad H locs ls had hP hD hS hl
  exact lv_lstore_n hx hb hd rfl hl hi (lputL_map ad sad q (vl x) L) (fun ls hl => kk hn ad H locs ls had hP hD hS (by rw [← hL]; exact hl))
theorem r_astoreEn (h : EK sh y cc nL ret d n0 n1 Q K) {q : Fin 4} {x : Nat} (hi : (q : Nat) < nL) (hL : lput (q : Nat) (ve x) L = L') (hd : decode cc pc = .ok (.astore_n q, 1)) (kk : K n R (pc + 1) L' S M) : K n R pc L (ve x :: S) M := by
  obtain ⟨p, l, e, s, m, args, below, meth, c, ad0, sad, D, A, ar, xc, xs, gc, gs, Z, hx, hb, hr, hml, hown, hts, hlk, hnm, hK, hSS, hA, ⟨hgc, hgs, hZ⟩, rfl⟩ := h
  intro hn ad H locs ls had hP hD hS hl
  exact lv_astore_n hx hb hd rfl hl hi (lput_map ad sad q (ve x) L) (fun ls hl => kk hn ad H locs ls had hP hD hS (by rw [← hL]; exact hl))
theorem r_iinc (h : EK sh y cc nL ret d n0 n1 Q K) {i : Nat} {x v : Int} (k : Nat) (hk : L[k]? = some (i, vi x)) (hi : i < nL) (hL : lput i (vi (x + v)) L = L') (hd : decode cc pc = .ok (.iinc i v, 3)) (kk : K n R (pc + 3) L' S M) : K n R pc L S M := by
  obtain ⟨p, l, e, s, m, args, below, meth, c, ad0, sad, D, A, ar, xc, xs, gc, gs, Z, hx, hb, hr, hml, hown, hts, hlk, hnm, hK, hSS, hA, ⟨hgc, hgs, hZ⟩, rfl⟩ := h
  intro hn ad H locs ls had hP hD hS hl
  exact lv_iinc (v := Int32.ofInt (x + v)) hx hb hd hl (l_at hk) (by rw [Int32.ofInt_add]) hi (lput_map ad sad i (vi (x + v)) L) (fun ls hl => kk hn ad H locs ls had hP hD hS (by rw [← hL]; exact hl))
theorem r_drop (h : EK sh y cc nL ret d n0 n1 Q K) (ks : List Nat) (hL : ks.filterMap (fun k => L[k]?) = L') (kk : K n R pc L' S M) : K n R pc L S M := by
  obtain ⟨p, l, e, s, m, args, below, meth, c, ad0, sad, D, A, ar, xc, xs, gc, gs, Z, hx, hb, hr, hml, hown, hts, hlk, hnm, hK, hSS, hA, ⟨hgc, hgs, hZ⟩, rfl⟩ := h
  intro hn ad H locs ls had hP hD hS hl
  refine kk hn ad H locs ls had hP hD hS (lv_sub hl ks ?_)
  unfold lv_pick
  rw [← hL, List.map_filterMap]
  congr 1
  funext k
  rw [List.getElem?_map]
theorem r_pop (h : EK sh y cc nL ret d n0 n1 Q K) {v : AV} (hv : (match v with | .inr (.inl _) => 2 | _ => 1) = 1) (hd : decode cc pc = .ok (.pop, 1)) (kk : K n R (pc + 1) L S M) : K n R pc L (v :: S) M := by
  obtain ⟨p, l, e, s, m, args, below, meth, c, ad0, sad, D, A, ar, xc, xs, gc, gs, Z, hx, hb, hr, hml, hown, hts, hlk, hnm, hK, hSS, hA, ⟨hgc, hgs, hZ⟩, rfl⟩ := h
  intro hn ad H locs ls had hP hD hS hl
  refine lv_pop hx hb hd (by rw [cv_cat]; exact hv) ?_
  have k2 := kk hn ad H locs ls had hP hD hS hl
  exact k2
theorem r_dup (h : EK sh y cc nL ret d n0 n1 Q K) {v : AV} (hv : (match v with | .inr (.inl _) => 2 | _ => 1) = 1) (hd : decode cc pc = .ok (.dup, 1)) (kk : K n R (pc + 1) L (v :: v :: S) M) : K n R pc L (v :: S) M := by
  obtain ⟨p, l, e, s, m, args, below, meth, c, ad0, sad, D, A, ar, xc, xs, gc, gs, Z, hx, hb, hr, hml, hown, hts, hlk, hnm, hK, hSS, hA, ⟨hgc, hgs, hZ⟩, rfl⟩ := h
  intro hn ad H locs ls had hP hD hS hl
  refine lv_dup hx hb hd (by rw [cv_cat]; exact hv) ?_
  have k2 := kk hn ad H locs ls had hP hD hS hl
  exact k2
theorem r_dup2 (h : EK sh y cc nL ret d n0 n1 Q K) {v w : AV} (hv : (match v with | .inr (.inl _) => 2 | _ => 1) = 1) (hw : (match w with | .inr (.inl _) => 2 | _ => 1) = 1) (hd : decode cc pc = .ok (.dup2, 1)) (kk : K n R (pc + 1) L (v :: w :: v :: w :: S) M) : K n R pc L (v :: w :: S) M := by
  obtain ⟨p, l, e, s, m, args, below, meth, c, ad0, sad, D, A, ar, xc, xs, gc, gs, Z, hx, hb, hr, hml, hown, hts, hlk, hnm, hK, hSS, hA, ⟨hgc, hgs, hZ⟩, rfl⟩ := h
  intro hn ad H locs ls had hP hD hS hl
  refine lv_dup2_11 hx hb hd (by rw [cv_cat]; exact hv) (by rw [cv_cat]; exact hw) ?_
  have k2 := kk hn ad H locs ls had hP hD hS hl
  exact k2
theorem r_iadd (h : EK sh y cc nL ret d n0 n1 Q K) {x z : Int} (hd : decode cc pc = .ok (.iadd, 1)) (kk : K n R (pc + 1) L (vi (x + z) :: S) M) : K n R pc L (vi z :: vi x :: S) M := by
  obtain ⟨p, l, e, s, m, args, below, meth, c, ad0, sad, D, A, ar, xc, xs, gc, gs, Z, hx, hb, hr, hml, hown, hts, hlk, hnm, hK, hSS, hA, ⟨hgc, hgs, hZ⟩, rfl⟩ := h
  intro hn ad H locs ls had hP hD hS hl
  refine lv_iadd hx hb hd ?_
  have k2 := kk hn ad H locs ls had hP hD hS hl
  simpa only [List.map_cons, cv, Int32.ofInt_add] using k2
theorem r_isub (h : EK sh y cc nL ret d n0 n1 Q K) {x z : Int} (hd : decode cc pc = .ok (.isub, 1)) (kk : K n R (pc + 1) L (vi (x - z) :: S) M) : K n R pc L (vi z :: vi x :: S) M := by
  obtain ⟨p, l, e, s, m, args, below, meth, c, ad0, sad, D, A, ar, xc, xs, gc, gs, Z, hx, hb, hr, hml, hown, hts, hlk, hnm, hK, hSS, hA, ⟨hgc, hgs, hZ⟩, rfl⟩ := h
  intro hn ad H locs ls had hP hD hS hl
  refine lv_isub hx hb hd ?_
  have k2 := kk hn ad H locs ls had hP hD hS hl
  simpa only [List.map_cons, cv, Int32.ofInt_sub] using k2
theorem r_imul (h : EK sh y cc nL ret d n0 n1 Q K) {x z : Int} (hd : decode cc pc = .ok (.imul, 1)) (kk : K n R (pc + 1) L (vi (x * z) :: S) M) : K n R pc L (vi z :: vi x :: S) M := by
  obtain ⟨p, l, e, s, m, args, below, meth, c, ad0, sad, D, A, ar, xc, xs, gc, gs, Z, hx, hb, hr, hml, hown, hts, hlk, hnm, hK, hSS, hA, ⟨hgc, hgs, hZ⟩, rfl⟩ := h
  intro hn ad H locs ls had hP hD hS hl
  refine lv_imul hx hb hd ?_
  have k2 := kk hn ad H locs ls had hP hD hS hl
  simpa only [List.map_cons, cv, Int32.ofInt_mul] using k2
theorem r_iaddW (h : EK sh y cc nL ret d n0 n1 Q K) {x z : Int} (hd : decode cc pc = .ok (.iadd, 1)) (kk : K n R (pc + 1) L (vi (addW x z) :: S) M) : K n R pc L (vi z :: vi x :: S) M := by
  obtain ⟨p, l, e, s, m, args, below, meth, c, ad0, sad, D, A, ar, xc, xs, gc, gs, Z, hx, hb, hr, hml, hown, hts, hlk, hnm, hK, hSS, hA, ⟨hgc, hgs, hZ⟩, rfl⟩ := h
  intro hn ad H locs ls had hP hD hS hl
  refine lv_iadd hx hb hd ?_
  have k2 := kk hn ad H locs ls had hP hD hS hl
  simpa only [List.map_cons, cv, addW, Int32.ofInt_toInt] using k2
theorem r_isubW (h : EK sh y cc nL ret d n0 n1 Q K) {x z : Int} (hd : decode cc pc = .ok (.isub, 1)) (kk : K n R (pc + 1) L (vi (subW x z) :: S) M) : K n R pc L (vi z :: vi x :: S) M := by
  obtain ⟨p, l, e, s, m, args, below, meth, c, ad0, sad, D, A, ar, xc, xs, gc, gs, Z, hx, hb, hr, hml, hown, hts, hlk, hnm, hK, hSS, hA, ⟨hgc, hgs, hZ⟩, rfl⟩ := h
  intro hn ad H locs ls had hP hD hS hl
  refine lv_isub hx hb hd ?_
  have k2 := kk hn ad H locs ls had hP hD hS hl
  simpa only [List.map_cons, cv, subW, Int32.ofInt_toInt] using k2
theorem r_imulW (h : EK sh y cc nL ret d n0 n1 Q K) {x z : Int} (hd : decode cc pc = .ok (.imul, 1)) (kk : K n R (pc + 1) L (vi (mulW x z) :: S) M) : K n R pc L (vi z :: vi x :: S) M := by
  obtain ⟨p, l, e, s, m, args, below, meth, c, ad0, sad, D, A, ar, xc, xs, gc, gs, Z, hx, hb, hr, hml, hown, hts, hlk, hnm, hK, hSS, hA, ⟨hgc, hgs, hZ⟩, rfl⟩ := h
  intro hn ad H locs ls had hP hD hS hl
  refine lv_imul hx hb hd ?_
  have k2 := kk hn ad H locs ls had hP hD hS hl
  simpa only [List.map_cons, cv, mulW, Int32.ofInt_toInt] using k2
theorem r_iand (h : EK sh y cc nL ret d n0 n1 Q K) {x z : Int} (hd : decode cc pc = .ok (.iand, 1)) (kk : K n R (pc + 1) L (vi (andI x z) :: S) M) : K n R pc L (vi z :: vi x :: S) M := by
  obtain ⟨p, l, e, s, m, args, below, meth, c, ad0, sad, D, A, ar, xc, xs, gc, gs, Z, hx, hb, hr, hml, hown, hts, hlk, hnm, hK, hSS, hA, ⟨hgc, hgs, hZ⟩, rfl⟩ := h
  intro hn ad H locs ls had hP hD hS hl
  refine lv_iand hx hb hd ?_
  have k2 := kk hn ad H locs ls had hP hD hS hl
  simpa only [List.map_cons, cv, andI, Int32.ofInt_toInt] using k2
theorem r_ior (h : EK sh y cc nL ret d n0 n1 Q K) {x z : Int} (hd : decode cc pc = .ok (.ior, 1)) (kk : K n R (pc + 1) L (vi (orI x z) :: S) M) : K n R pc L (vi z :: vi x :: S) M := by
  obtain ⟨p, l, e, s, m, args, below, meth, c, ad0, sad, D, A, ar, xc, xs, gc, gs, Z, hx, hb, hr, hml, hown, hts, hlk, hnm, hK, hSS, hA, ⟨hgc, hgs, hZ⟩, rfl⟩ := h
  intro hn ad H locs ls had hP hD hS hl
  refine lv_ior hx hb hd ?_
  have k2 := kk hn ad H locs ls had hP hD hS hl
  simpa only [List.map_cons, cv, orI, Int32.ofInt_toInt] using k2
theorem r_ixor (h : EK sh y cc nL ret d n0 n1 Q K) {x z : Int} (hd : decode cc pc = .ok (.ixor, 1)) (kk : K n R (pc + 1) L (vi (xorI x z) :: S) M) : K n R pc L (vi z :: vi x :: S) M := by
  obtain ⟨p, l, e, s, m, args, below, meth, c, ad0, sad, D, A, ar, xc, xs, gc, gs, Z, hx, hb, hr, hml, hown, hts, hlk, hnm, hK, hSS, hA, ⟨hgc, hgs, hZ⟩, rfl⟩ := h
  intro hn ad H locs ls had hP hD hS hl
  refine lv_ixor hx hb hd ?_
  have k2 := kk hn ad H locs ls had hP hD hS hl
  simpa only [List.map_cons, cv, xorI, Int32.ofInt_toInt] using k2
theorem r_ishl (h : EK sh y cc nL ret d n0 n1 Q K) {x z : Int} (hd : decode cc pc = .ok (.ishl, 1)) (kk : K n R (pc + 1) L (vi (shlI x z) :: S) M) : K n R pc L (vi z :: vi x :: S) M := by
  obtain ⟨p, l, e, s, m, args, below, meth, c, ad0, sad, D, A, ar, xc, xs, gc, gs, Z, hx, hb, hr, hml, hown, hts, hlk, hnm, hK, hSS, hA, ⟨hgc, hgs, hZ⟩, rfl⟩ := h
  intro hn ad H locs ls had hP hD hS hl
  refine lv_ishl hx hb hd ?_
  have k2 := kk hn ad H locs ls had hP hD hS hl
  simpa only [List.map_cons, cv, shlI, Int32.ofInt_toInt] using k2
theorem r_ishr (h : EK sh y cc nL ret d n0 n1 Q K) {x z : Int} (hd : decode cc pc = .ok (.ishr, 1)) (kk : K n R (pc + 1) L (vi (shrI x z) :: S) M) : K n R pc L (vi z :: vi x :: S) M := by
  obtain ⟨p, l, e, s, m, args, below, meth, c, ad0, sad, D, A, ar, xc, xs, gc, gs, Z, hx, hb, hr, hml, hown, hts, hlk, hnm, hK, hSS, hA, ⟨hgc, hgs, hZ⟩, rfl⟩ := h
  intro hn ad H locs ls had hP hD hS hl
  refine lv_ishr hx hb hd ?_
  have k2 := kk hn ad H locs ls had hP hD hS hl
  simpa only [List.map_cons, cv, shrI, Int32.ofInt_toInt] using k2
theorem r_iushr (h : EK sh y cc nL ret d n0 n1 Q K) {x z : Int} (hd : decode cc pc = .ok (.iushr, 1)) (kk : K n R (pc + 1) L (vi (ushrI x z) :: S) M) : K n R pc L (vi z :: vi x :: S) M := by
  obtain ⟨p, l, e, s, m, args, below, meth, c, ad0, sad, D, A, ar, xc, xs, gc, gs, Z, hx, hb, hr, hml, hown, hts, hlk, hnm, hK, hSS, hA, ⟨hgc, hgs, hZ⟩, rfl⟩ := h
  intro hn ad H locs ls had hP hD hS hl
  refine lv_iushr hx hb hd rfl ?_
  have k2 := kk hn ad H locs ls had hP hD hS hl
  simpa only [List.map_cons, cv, ushrI, Int32.ofInt_toInt] using k2
theorem r_idiv (h : EK sh y cc nL ret d n0 n1 Q K) {x z : Int} (hz : rng z) (hz0 : z ≠ 0) (hd : decode cc pc = .ok (.idiv, 1)) (kk : K n R (pc + 1) L (vi (divI x z) :: S) M) : K n R pc L (vi z :: vi x :: S) M := by
  obtain ⟨p, l, e, s, m, args, below, meth, c, ad0, sad, D, A, ar, xc, xs, gc, gs, Z, hx, hb, hr, hml, hown, hts, hlk, hnm, hK, hSS, hA, ⟨hgc, hgs, hZ⟩, rfl⟩ := h
  intro hn ad H locs ls had hP hD hS hl
  refine lv_idiv hx hb hd (fun q => hz0 ((i32_eq hz (by decide)).mp (q.trans (by decide : (0 : Int32) = Int32.ofInt 0)))) ?_
  have k2 := kk hn ad H locs ls had hP hD hS hl
  simpa only [List.map_cons, cv, divI, Int32.ofInt_toInt] using k2
theorem r_irem (h : EK sh y cc nL ret d n0 n1 Q K) {x z : Int} (hz : rng z) (hz0 : z ≠ 0) (hd : decode cc pc = .ok (.irem, 1)) (kk : K n R (pc + 1) L (vi (remI x z) :: S) M) : K n R pc L (vi z :: vi x :: S) M := by
  obtain ⟨p, l, e, s, m, args, below, meth, c, ad0, sad, D, A, ar, xc, xs, gc, gs, Z, hx, hb, hr, hml, hown, hts, hlk, hnm, hK, hSS, hA, ⟨hgc, hgs, hZ⟩, rfl⟩ := h
  intro hn ad H locs ls had hP hD hS hl
  refine lv_irem hx hb hd (fun q => hz0 ((i32_eq hz (by decide)).mp (q.trans (by decide : (0 : Int32) = Int32.ofInt 0)))) ?_
  have k2 := kk hn ad H locs ls had hP hD hS hl
  simpa only [List.map_cons, cv, remI, Int32.ofInt_toInt] using k2
theorem r_ladd (h : EK sh y cc nL ret d n0 n1 Q K) {x z : Int} (hd : decode cc pc = .ok (.ladd, 1)) (kk : K n R (pc + 1) L (vl (x + z) :: S) M) : K n R pc L (vl z :: vl x :: S) M := by
  obtain ⟨p, l, e, s, m, args, below, meth, c, ad0, sad, D, A, ar, xc, xs, gc, gs, Z, hx, hb, hr, hml, hown, hts, hlk, hnm, hK, hSS, hA, ⟨hgc, hgs, hZ⟩, rfl⟩ := h
  intro hn ad H locs ls had hP hD hS hl
  refine lv_ladd hx hb hd ?_
  have k2 := kk hn ad H locs ls had hP hD hS hl
  simpa only [List.map_cons, cv, Int64.ofInt_add] using k2
theorem r_lsub (h : EK sh y cc nL ret d n0 n1 Q K) {x z : Int} (hd : decode cc pc = .ok (.lsub, 1)) (kk : K n R (pc + 1) L (vl (x - z) :: S) M) : K n R pc L (vl z :: vl x :: S) M := by
  obtain ⟨p, l, e, s, m, args, below, meth, c, ad0, sad, D, A, ar, xc, xs, gc, gs, Z, hx, hb, hr, hml, hown, hts, hlk, hnm, hK, hSS, hA, ⟨hgc, hgs, hZ⟩, rfl⟩ := h
  intro hn ad H locs ls had hP hD hS hl
  refine lv_lsub hx hb hd ?_
  have k2 := kk hn ad H locs ls had hP hD hS hl
  simpa only [List.map_cons, cv, Int64.ofInt_sub] using k2
theorem r_lmul (h : EK sh y cc nL ret d n0 n1 Q K) {x z : Int} (hd : decode cc pc = .ok (.lmul, 1)) (kk : K n R (pc + 1) L (vl (x * z) :: S) M) : K n R pc L (vl z :: vl x :: S) M := by
  obtain ⟨p, l, e, s, m, args, below, meth, c, ad0, sad, D, A, ar, xc, xs, gc, gs, Z, hx, hb, hr, hml, hown, hts, hlk, hnm, hK, hSS, hA, ⟨hgc, hgs, hZ⟩, rfl⟩ := h
  intro hn ad H locs ls had hP hD hS hl
  refine lv_lmul hx hb hd ?_
  have k2 := kk hn ad H locs ls had hP hD hS hl
  simpa only [List.map_cons, cv, Int64.ofInt_mul] using k2
theorem r_land (h : EK sh y cc nL ret d n0 n1 Q K) {x z : Int} (hd : decode cc pc = .ok (.land, 1)) (kk : K n R (pc + 1) L (vl (andL x z) :: S) M) : K n R pc L (vl z :: vl x :: S) M := by
  obtain ⟨p, l, e, s, m, args, below, meth, c, ad0, sad, D, A, ar, xc, xs, gc, gs, Z, hx, hb, hr, hml, hown, hts, hlk, hnm, hK, hSS, hA, ⟨hgc, hgs, hZ⟩, rfl⟩ := h
  intro hn ad H locs ls had hP hD hS hl
  refine lv_land hx hb hd ?_
  have k2 := kk hn ad H locs ls had hP hD hS hl
  simpa only [List.map_cons, cv, andL, Int64.ofInt_toInt] using k2
theorem r_lor (h : EK sh y cc nL ret d n0 n1 Q K) {x z : Int} (hd : decode cc pc = .ok (.lor, 1)) (kk : K n R (pc + 1) L (vl (orL x z) :: S) M) : K n R pc L (vl z :: vl x :: S) M := by
  obtain ⟨p, l, e, s, m, args, below, meth, c, ad0, sad, D, A, ar, xc, xs, gc, gs, Z, hx, hb, hr, hml, hown, hts, hlk, hnm, hK, hSS, hA, ⟨hgc, hgs, hZ⟩, rfl⟩ := h
  intro hn ad H locs ls had hP hD hS hl
  refine lv_lor hx hb hd ?_
  have k2 := kk hn ad H locs ls had hP hD hS hl
  simpa only [List.map_cons, cv, orL, Int64.ofInt_toInt] using k2
theorem r_lshl (h : EK sh y cc nL ret d n0 n1 Q K) {x z : Int} (hd : decode cc pc = .ok (.lshl, 1)) (kk : K n R (pc + 1) L (vl (shlL x z) :: S) M) : K n R pc L (vi z :: vl x :: S) M := by
  obtain ⟨p, l, e, s, m, args, below, meth, c, ad0, sad, D, A, ar, xc, xs, gc, gs, Z, hx, hb, hr, hml, hown, hts, hlk, hnm, hK, hSS, hA, ⟨hgc, hgs, hZ⟩, rfl⟩ := h
  intro hn ad H locs ls had hP hD hS hl
  refine lv_lshl hx hb hd rfl ?_
  have k2 := kk hn ad H locs ls had hP hD hS hl
  simpa only [List.map_cons, cv, shlL, Int64.ofInt_toInt] using k2
theorem r_lushr (h : EK sh y cc nL ret d n0 n1 Q K) {x z : Int} (hd : decode cc pc = .ok (.lushr, 1)) (kk : K n R (pc + 1) L (vl (ushrL x z) :: S) M) : K n R pc L (vi z :: vl x :: S) M := by
  obtain ⟨p, l, e, s, m, args, below, meth, c, ad0, sad, D, A, ar, xc, xs, gc, gs, Z, hx, hb, hr, hml, hown, hts, hlk, hnm, hK, hSS, hA, ⟨hgc, hgs, hZ⟩, rfl⟩ := h
  intro hn ad H locs ls had hP hD hS hl
  refine lv_lushr hx hb hd rfl ?_
  have k2 := kk hn ad H locs ls had hP hD hS hl
  simpa only [List.map_cons, cv, ushrL, Int64.ofInt_toInt] using k2
theorem r_ldiv (h : EK sh y cc nL ret d n0 n1 Q K) {x z : Int} (hz : rngL z) (hz0 : z ≠ 0) (hd : decode cc pc = .ok (.ldiv, 1)) (kk : K n R (pc + 1) L (vl (divL x z) :: S) M) : K n R pc L (vl z :: vl x :: S) M := by
  obtain ⟨p, l, e, s, m, args, below, meth, c, ad0, sad, D, A, ar, xc, xs, gc, gs, Z, hx, hb, hr, hml, hown, hts, hlk, hnm, hK, hSS, hA, ⟨hgc, hgs, hZ⟩, rfl⟩ := h
  intro hn ad H locs ls had hP hD hS hl
  refine lv_ldiv hx hb hd (fun q => hz0 ((i64_eq hz (by decide)).mp (q.trans (by decide : (0 : Int64) = Int64.ofInt 0)))) ?_
  have k2 := kk hn ad H locs ls had hP hD hS hl
  simpa only [List.map_cons, cv, divL, Int64.ofInt_toInt] using k2
theorem r_lrem (h : EK sh y cc nL ret d n0 n1 Q K) {x z : Int} (hz : rngL z) (hz0 : z ≠ 0) (hd : decode cc pc = .ok (.lrem, 1)) (kk : K n R (pc + 1) L (vl (remL x z) :: S) M) : K n R pc L (vl z :: vl x :: S) M := by
  obtain ⟨p, l, e, s, m, args, below, meth, c, ad0, sad, D, A, ar, xc, xs, gc, gs, Z, hx, hb, hr, hml, hown, hts, hlk, hnm, hK, hSS, hA, ⟨hgc, hgs, hZ⟩, rfl⟩ := h
  intro hn ad H locs ls had hP hD hS hl
  refine lv_lrem hx hb hd (fun q => hz0 ((i64_eq hz (by decide)).mp (q.trans (by decide : (0 : Int64) = Int64.ofInt 0)))) ?_
  have k2 := kk hn ad H locs ls had hP hD hS hl
  simpa only [List.map_cons, cv, remL, Int64.ofInt_toInt] using k2
theorem r_i2l (h : EK sh y cc nL ret d n0 n1 Q K) {x : Int} (hr9 : rng x) (hd : decode cc pc = .ok (.i2l, 1)) (kk : K n R (pc + 1) L (vl x :: S) M) : K n R pc L (vi x :: S) M := by
  obtain ⟨p, l, e, s, m, args, below, meth, c, ad0, sad, D, A, ar, xc, xs, gc, gs, Z, hx, hb, hr, hml, hown, hts, hlk, hnm, hK, hSS, hA, ⟨hgc, hgs, hZ⟩, rfl⟩ := h
  intro hn ad H locs ls had hP hD hS hl
  refine lv_i2l hx hb hd (v := Int64.ofInt x) (by apply Int64.toInt_inj.mp; rw [oL ⟨by have := hr9.1; omega, by have := hr9.2; omega⟩, Int32.toInt_toInt64, oI hr9]) ?_
  have k2 := kk hn ad H locs ls had hP hD hS hl
  exact k2
theorem r_l2i (h : EK sh y cc nL ret d n0 n1 Q K) {x : Int} (hd : decode cc pc = .ok (.l2i, 1)) (kk : K n R (pc + 1) L (vi x :: S) M) : K n R pc L (vl x :: S) M := by
  obtain ⟨p, l, e, s, m, args, below, meth, c, ad0, sad, D, A, ar, xc, xs, gc, gs, Z, hx, hb, hr, hml, hown, hts, hlk, hnm, hK, hSS, hA, ⟨hgc, hgs, hZ⟩, rfl⟩ := h
  intro hn ad H locs ls had hP hD hS hl
  refine lv_l2i hx hb hd (v := Int32.ofInt x) (l2i_of x) ?_
  have k2 := kk hn ad H locs ls had hP hD hS hl
  exact k2
theorem r_i2b (h : EK sh y cc nL ret d n0 n1 Q K) {x : Int} (hr9 : -128 ≤ x ∧ x ≤ 127) (hd : decode cc pc = .ok (.i2b, 1)) (kk : K n R (pc + 1) L (vi x :: S) M) : K n R pc L (vi x :: S) M := by
  obtain ⟨p, l, e, s, m, args, below, meth, c, ad0, sad, D, A, ar, xc, xs, gc, gs, Z, hx, hb, hr, hml, hown, hts, hlk, hnm, hK, hSS, hA, ⟨hgc, hgs, hZ⟩, rfl⟩ := h
  intro hn ad H locs ls had hP hD hS hl
  refine lv_i2b hx hb hd (v := Int32.ofInt x) (i2b_of hr9) ?_
  have k2 := kk hn ad H locs ls had hP hD hS hl
  exact k2
theorem r_i2c (h : EK sh y cc nL ret d n0 n1 Q K) {x : Int} (hr9 : 0 ≤ x ∧ x ≤ 65535) (hd : decode cc pc = .ok (.i2c, 1)) (kk : K n R (pc + 1) L (vi x :: S) M) : K n R pc L (vi x :: S) M := by
  obtain ⟨p, l, e, s, m, args, below, meth, c, ad0, sad, D, A, ar, xc, xs, gc, gs, Z, hx, hb, hr, hml, hown, hts, hlk, hnm, hK, hSS, hA, ⟨hgc, hgs, hZ⟩, rfl⟩ := h
  intro hn ad H locs ls had hP hD hS hl
  refine lv_i2c hx hb hd (v := Int32.ofInt x) (i2c_of hr9) ?_
  have k2 := kk hn ad H locs ls had hP hD hS hl
  exact k2
theorem r_lcmp (h : EK sh y cc nL ret d n0 n1 Q K) {x z : Int} (hr9 : rngL x) (hr8 : rngL z) (hd : decode cc pc = .ok (.lcmp, 1)) (kk : K n R (pc + 1) L (vi (cmpL x z) :: S) M) : K n R pc L (vl z :: vl x :: S) M := by
  obtain ⟨p, l, e, s, m, args, below, meth, c, ad0, sad, D, A, ar, xc, xs, gc, gs, Z, hx, hb, hr, hml, hown, hts, hlk, hnm, hK, hSS, hA, ⟨hgc, hgs, hZ⟩, rfl⟩ := h
  intro hn ad H locs ls had hP hD hS hl
  refine W.lcmp hx hb hd ?_
  have k2 := kk hn ad H locs ls had hP hD hS hl
  simpa only [List.map_cons, cv, lcmp_of hr9 hr8] using k2
theorem r_icmp_eq (h : EK sh y cc nL ret d n0 n1 Q K) {x z : Int} {off : Int} (tgt : Nat) (hx9 : rng x) (hz9 : rng z) (ht : (pc : Int) + off = (tgt : Int)) (hd : decode cc pc = .ok (.if_icmp .eq off, 3)) (kt : x = z → K n R tgt L S M) (kf : ¬ (x = z) → K n R (pc + 3) L S M) : K n R pc L (vi z :: vi x :: S) M := by
  obtain ⟨p, l, e, s, m, args, below, meth, c, ad0, sad, D, A, ar, xc, xs, gc, gs, Z, hx, hb, hr, hml, hown, hts, hlk, hnm, hK, hSS, hA, ⟨hgc, hgs, hZ⟩, rfl⟩ := h
  intro hn ad H locs ls had hP hD hS hl
  refine lv_icmp_eq (tgt := tgt) hx hb hd ht (fun q => kt (((i32_eq hx9 hz9)).mp q) hn ad H locs ls had hP hD hS hl) (fun q => kf (fun w => q (((i32_eq hx9 hz9)).mpr w)) hn ad H locs ls had hP hD hS hl)
theorem r_if_eq (h : EK sh y cc nL ret d n0 n1 Q K) {x : Int} {off : Int} (tgt : Nat) (hx9 : rng x) (ht : (pc : Int) + off = (tgt : Int)) (hd : decode cc pc = .ok (.ifCond .eq off, 3)) (kt : x = 0 → K n R tgt L S M) (kf : ¬ (x = 0) → K n R (pc + 3) L S M) : K n R pc L (vi x :: S) M := by
  obtain ⟨p, l, e, s, m, args, below, meth, c, ad0, sad, D, A, ar, xc, xs, gc, gs, Z, hx, hb, hr, hml, hown, hts, hlk, hnm, hK, hSS, hA, ⟨hgc, hgs, hZ⟩, rfl⟩ := h
  intro hn ad H locs ls had hP hD hS hl
  refine lv_if_eq (tgt := tgt) hx hb hd ht (fun q => kt (((i32_eq hx9 (by decide : rng 0))).mp q) hn ad H locs ls had hP hD hS hl) (fun q => kf (fun w => q (((i32_eq hx9 (by decide : rng 0))).mpr w)) hn ad H locs ls had hP hD hS hl)
theorem r_icmp_ne (h : EK sh y cc nL ret d n0 n1 Q K) {x z : Int} {off : Int} (tgt : Nat) (hx9 : rng x) (hz9 : rng z) (ht : (pc : Int) + off = (tgt : Int)) (hd : decode cc pc = .ok (.if_icmp .ne off, 3)) (kt : x ≠ z → K n R tgt L S M) (kf : x = z → K n R (pc + 3) L S M) : K n R pc L (vi z :: vi x :: S) M := by
  obtain ⟨p, l, e, s, m, args, below, meth, c, ad0, sad, D, A, ar, xc, xs, gc, gs, Z, hx, hb, hr, hml, hown, hts, hlk, hnm, hK, hSS, hA, ⟨hgc, hgs, hZ⟩, rfl⟩ := h
  intro hn ad H locs ls had hP hD hS hl
  refine lv_icmp_ne (tgt := tgt) hx hb hd ht (fun q => kt (((not_congr (i32_eq hx9 hz9))).mp q) hn ad H locs ls had hP hD hS hl) (fun q => kf ((i32_eq hx9 hz9).mp q) hn ad H locs ls had hP hD hS hl)
theorem r_if_ne (h : EK sh y cc nL ret d n0 n1 Q K) {x : Int} {off : Int} (tgt : Nat) (hx9 : rng x) (ht : (pc : Int) + off = (tgt : Int)) (hd : decode cc pc = .ok (.ifCond .ne off, 3)) (kt : x ≠ 0 → K n R tgt L S M) (kf : x = 0 → K n R (pc + 3) L S M) : K n R pc L (vi x :: S) M := by
  obtain ⟨p, l, e, s, m, args, below, meth, c, ad0, sad, D, A, ar, xc, xs, gc, gs, Z, hx, hb, hr, hml, hown, hts, hlk, hnm, hK, hSS, hA, ⟨hgc, hgs, hZ⟩, rfl⟩ := h
  intro hn ad H locs ls had hP hD hS hl
  refine lv_if_ne (tgt := tgt) hx hb hd ht (fun q => kt (((not_congr (i32_eq hx9 (by decide : rng 0)))).mp q) hn ad H locs ls had hP hD hS hl) (fun q => kf ((i32_eq hx9 (by decide : rng 0)).mp q) hn ad H locs ls had hP hD hS hl)
theorem r_icmp_lt (h : EK sh y cc nL ret d n0 n1 Q K) {x z : Int} {off : Int} (tgt : Nat) (hx9 : rng x) (hz9 : rng z) (ht : (pc : Int) + off = (tgt : Int)) (hd : decode cc pc = .ok (.if_icmp .lt off, 3)) (kt : x < z → K n R tgt L S M) (kf : ¬ (x < z) → K n R (pc + 3) L S M) : K n R pc L (vi z :: vi x :: S) M := by
  obtain ⟨p, l, e, s, m, args, below, meth, c, ad0, sad, D, A, ar, xc, xs, gc, gs, Z, hx, hb, hr, hml, hown, hts, hlk, hnm, hK, hSS, hA, ⟨hgc, hgs, hZ⟩, rfl⟩ := h
  intro hn ad H locs ls had hP hD hS hl
  refine lv_icmp_lt (tgt := tgt) hx hb hd ht (fun q => kt (((i32_lt hx9 hz9)).mp q) hn ad H locs ls had hP hD hS hl) (fun q => kf (fun w => q (((i32_lt hx9 hz9)).mpr w)) hn ad H locs ls had hP hD hS hl)
theorem r_if_lt (h : EK sh y cc nL ret d n0 n1 Q K) {x : Int} {off : Int} (tgt : Nat) (hx9 : rng x) (ht : (pc : Int) + off = (tgt : Int)) (hd : decode cc pc = .ok (.ifCond .lt off, 3)) (kt : x < 0 → K n R tgt L S M) (kf : ¬ (x < 0) → K n R (pc + 3) L S M) : K n R pc L (vi x :: S) M := by
  obtain ⟨p, l, e, s, m, args, below, meth, c, ad0, sad, D, A, ar, xc, xs, gc, gs, Z, hx, hb, hr, hml, hown, hts, hlk, hnm, hK, hSS, hA, ⟨hgc, hgs, hZ⟩, rfl⟩ := h
  intro hn ad H locs ls had hP hD hS hl
  refine lv_if_lt (tgt := tgt) hx hb hd ht (fun q => kt (((i32_lt hx9 (by decide : rng 0))).mp q) hn ad H locs ls had hP hD hS hl) (fun q => kf (fun w => q (((i32_lt hx9 (by decide : rng 0))).mpr w)) hn ad H locs ls had hP hD hS hl)
theorem r_icmp_ge (h : EK sh y cc nL ret d n0 n1 Q K) {x z : Int} {off : Int} (tgt : Nat) (hx9 : rng x) (hz9 : rng z) (ht : (pc : Int) + off = (tgt : Int)) (hd : decode cc pc = .ok (.if_icmp .ge off, 3)) (kt : z ≤ x → K n R tgt L S M) (kf : ¬ (z ≤ x) → K n R (pc + 3) L S M) : K n R pc L (vi z :: vi x :: S) M := by
  obtain ⟨p, l, e, s, m, args, below, meth, c, ad0, sad, D, A, ar, xc, xs, gc, gs, Z, hx, hb, hr, hml, hown, hts, hlk, hnm, hK, hSS, hA, ⟨hgc, hgs, hZ⟩, rfl⟩ := h
  intro hn ad H locs ls had hP hD hS hl
  refine lv_icmp_ge (tgt := tgt) hx hb hd ht (fun q => kt (((i32_le hz9 hx9)).mp q) hn ad H locs ls had hP hD hS hl) (fun q => kf (fun w => q (((i32_le hz9 hx9)).mpr w)) hn ad H locs ls had hP hD hS hl)
theorem r_if_ge (h : EK sh y cc nL ret d n0 n1 Q K) {x : Int} {off : Int} (tgt : Nat) (hx9 : rng x) (ht : (pc : Int) + off = (tgt : Int)) (hd : decode cc pc = .ok (.ifCond .ge off, 3)) (kt : 0 ≤ x → K n R tgt L S M) (kf : ¬ (0 ≤ x) → K n R (pc + 3) L S M) : K n R pc L (vi x :: S) M := by
  obtain ⟨p, l, e, s, m, args, below, meth, c, ad0, sad, D, A, ar, xc, xs, gc, gs, Z, hx, hb, hr, hml, hown, hts, hlk, hnm, hK, hSS, hA, ⟨hgc, hgs, hZ⟩, rfl⟩ := h
  intro hn ad H locs ls had hP hD hS hl
  refine lv_if_ge (tgt := tgt) hx hb hd ht (fun q => kt (((i32_le (by decide : rng 0) hx9)).mp q) hn ad H locs ls had hP hD hS hl) (fun q => kf (fun w => q (((i32_le (by decide : rng 0) hx9)).mpr w)) hn ad H locs ls had hP hD hS hl)
theorem r_icmp_gt (h : EK sh y cc nL ret d n0 n1 Q K) {x z : Int} {off : Int} (tgt : Nat) (hx9 : rng x) (hz9 : rng z) (ht : (pc : Int) + off = (tgt : Int)) (hd : decode cc pc = .ok (.if_icmp .gt off, 3)) (kt : z < x → K n R tgt L S M) (kf : ¬ (z < x) → K n R (pc + 3) L S M) : K n R pc L (vi z :: vi x :: S) M := by
  obtain ⟨p, l, e, s, m, args, below, meth, c, ad0, sad, D, A, ar, xc, xs, gc, gs, Z, hx, hb, hr, hml, hown, hts, hlk, hnm, hK, hSS, hA, ⟨hgc, hgs, hZ⟩, rfl⟩ := h
  intro hn ad H locs ls had hP hD hS hl
  refine lv_icmp_gt (tgt := tgt) hx hb hd ht (fun q => kt (((i32_lt hz9 hx9)).mp q) hn ad H locs ls had hP hD hS hl) (fun q => kf (fun w => q (((i32_lt hz9 hx9)).mpr w)) hn ad H locs ls had hP hD hS hl)
theorem r_if_gt (h : EK sh y cc nL ret d n0 n1 Q K) {x : Int} {off : Int} (tgt : Nat) (hx9 : rng x) (ht : (pc : Int) + off = (tgt : Int)) (hd : decode cc pc = .ok (.ifCond .gt off, 3)) (kt : 0 < x → K n R tgt L S M) (kf : ¬ (0 < x) → K n R (pc + 3) L S M) : K n R pc L (vi x :: S) M := by
  obtain ⟨p, l, e, s, m, args, below, meth, c, ad0, sad, D, A, ar, xc, xs, gc, gs, Z, hx, hb, hr, hml, hown, hts, hlk, hnm, hK, hSS, hA, ⟨hgc, hgs, hZ⟩, rfl⟩ := h
  intro hn ad H locs ls had hP hD hS hl
  refine lv_if_gt (tgt := tgt) hx hb hd ht (fun q => kt (((i32_lt (by decide : rng 0) hx9)).mp q) hn ad H locs ls had hP hD hS hl) (fun q => kf (fun w => q (((i32_lt (by decide : rng 0) hx9)).mpr w)) hn ad H locs ls had hP hD hS hl)
theorem r_icmp_le (h : EK sh y cc nL ret d n0 n1 Q K) {x z : Int} {off : Int} (tgt : Nat) (hx9 : rng x) (hz9 : rng z) (ht : (pc : Int) + off = (tgt : Int)) (hd : decode cc pc = .ok (.if_icmp .le off, 3)) (kt : x ≤ z → K n R tgt L S M) (kf : ¬ (x ≤ z) → K n R (pc + 3) L S M) : K n R pc L (vi z :: vi x :: S) M := by
  obtain ⟨p, l, e, s, m, args, below, meth, c, ad0, sad, D, A, ar, xc, xs, gc, gs, Z, hx, hb, hr, hml, hown, hts, hlk, hnm, hK, hSS, hA, ⟨hgc, hgs, hZ⟩, rfl⟩ := h
  intro hn ad H locs ls had hP hD hS hl
  refine lv_icmp_le (tgt := tgt) hx hb hd ht (fun q => kt (((i32_le hx9 hz9)).mp q) hn ad H locs ls had hP hD hS hl) (fun q => kf (fun w => q (((i32_le hx9 hz9)).mpr w)) hn ad H locs ls had hP hD hS hl)
theorem r_if_le (h : EK sh y cc nL ret d n0 n1 Q K) {x : Int} {off : Int} (tgt : Nat) (hx9 : rng x) (ht : (pc : Int) + off = (tgt : Int)) (hd : decode cc pc = .ok (.ifCond .le off, 3)) (kt : x ≤ 0 → K n R tgt L S M) (kf : ¬ (x ≤ 0) → K n R (pc + 3) L S M) : K n R pc L (vi x :: S) M := by
  obtain ⟨p, l, e, s, m, args, below, meth, c, ad0, sad, D, A, ar, xc, xs, gc, gs, Z, hx, hb, hr, hml, hown, hts, hlk, hnm, hK, hSS, hA, ⟨hgc, hgs, hZ⟩, rfl⟩ := h
  intro hn ad H locs ls had hP hD hS hl
  refine lv_if_le (tgt := tgt) hx hb hd ht (fun q => kt (((i32_le hx9 (by decide : rng 0))).mp q) hn ad H locs ls had hP hD hS hl) (fun q => kf (fun w => q (((i32_le hx9 (by decide : rng 0))).mpr w)) hn ad H locs ls had hP hD hS hl)
theorem r_goto (h : EK sh y cc nL ret d n0 n1 Q K) {off : Int} (tgt : Nat) (ht : (pc : Int) + off = (tgt : Int)) (hd : decode cc pc = .ok (.goto off, 3)) (kk : K n R tgt L S M) : K n R pc L S M := by
  obtain ⟨p, l, e, s, m, args, below, meth, c, ad0, sad, D, A, ar, xc, xs, gc, gs, Z, hx, hb, hr, hml, hown, hts, hlk, hnm, hK, hSS, hA, ⟨hgc, hgs, hZ⟩, rfl⟩ := h
  intro hn ad H locs ls had hP hD hS hl
  exact lv_goto (tgt := tgt) hx hb hd ht (kk hn ad H locs ls had hP hD hS hl)
theorem r_tabIn (h : EK sh y cc nL ret d n0 n1 Q K) {dflt lo hi : Int} {offs : Array Int} {len : Nat} {x off : Int} (tgt : Nat) (hx9 : rng x) (h1 : lo ≤ x ∧ x ≤ hi) (ho : offs[(x - lo).toNat]? = some off) (ht : (pc : Int) + off = (tgt : Int)) (hd : decode cc pc = .ok (.tableswitch dflt lo hi offs, len)) (kk : K n R tgt L S M) : K n R pc L (vi x :: S) M := by
  obtain ⟨p, l, e, s, m, args, below, meth, c, ad0, sad, D, A, ar, xc, xs, gc, gs, Z, hx, hb, hr, hml, hown, hts, hlk, hnm, hK, hSS, hA, ⟨hgc, hgs, hZ⟩, rfl⟩ := h
  intro hn ad H locs ls had hP hD hS hl
  exact lv_tableIn (tgt := tgt) hx hb hd (by rw [oI hx9]; omega) (by rw [oI hx9]; omega) (by rw [oI hx9]; exact ho) ht (kk hn ad H locs ls had hP hD hS hl)
theorem r_tabOut (h : EK sh y cc nL ret d n0 n1 Q K) {dflt lo hi : Int} {offs : Array Int} {len : Nat} {x : Int} (tgt : Nat) (hx9 : rng x) (h1 : x < lo ∨ hi < x) (ht : (pc : Int) + dflt = (tgt : Int)) (hd : decode cc pc = .ok (.tableswitch dflt lo hi offs, len)) (kk : K n R tgt L S M) : K n R pc L (vi x :: S) M := by
  obtain ⟨p, l, e, s, m, args, below, meth, c, ad0, sad, D, A, ar, xc, xs, gc, gs, Z, hx, hb, hr, hml, hown, hts, hlk, hnm, hK, hSS, hA, ⟨hgc, hgs, hZ⟩, rfl⟩ := h
  intro hn ad H locs ls had hP hD hS hl
  exact lv_tableOut (tgt := tgt) hx hb hd (by rw [oI hx9]; exact h1) ht (kk hn ad H locs ls had hP hD hS hl)
theorem r_lookup (h : EK sh y cc nL ret d n0 n1 Q K) {dflt : Int} {ps : Array (Int × Int)} {len : Nat} {x off : Int} (tgt : Nat) (hx9 : rng x) (hp : (ps.toList.zip (ps.toList.drop 1)).all (fun (a, next) => a.1 < next.1) = true) (ho : Op.lookupswitch.offset ps.toList dflt x = off) (ht : (pc : Int) + off = (tgt : Int)) (hd : decode cc pc = .ok (.lookupswitch dflt ps, len)) (kk : K n R tgt L S M) : K n R pc L (vi x :: S) M := by
  obtain ⟨p, l, e, s, m, args, below, meth, c, ad0, sad, D, A, ar, xc, xs, gc, gs, Z, hx, hb, hr, hml, hown, hts, hlk, hnm, hK, hSS, hA, ⟨hgc, hgs, hZ⟩, rfl⟩ := h
  intro hn ad H locs ls had hP hD hS hl
  exact lv_lookup (tgt := tgt) hx hb hd hp (by rw [oI hx9]; exact ho) ht (kk hn ad H locs ls had hP hD hS hl)
end ROWS
