def At (sh : Sh) (n c : Nat) (q : Nat ⊕ (Nat × Nat)) : Prop := sh c = q ∧ 0 < c ∧ c ≤ n
def CI (ci : Nat) : Prop := vwCl[ci]? = some ((ctN ci).1, (ctN ci).2.1, (ctN ci).2.2.1) ∧ (kd ci).length = (ctN ci).2.2.1 ∧ (∀ w ∈ u_ws (ctN ci).1 (ctN ci).2.1 (ctN ci).2.2.1, w ∈ TB) ∧ (∀ k, k < (ctN ci).2.2.1 → parseFieldDescriptor ((ctN ci).2.1 k).2.2.1 = some ((ctN ci).2.2.2 k)) ∧ (∀ a, a < (ctN ci).2.2.1 → ∀ b, b < (ctN ci).2.2.1 → a ≠ b → ((ctN ci).2.1 a).2.1 ≠ ((ctN ci).2.1 b).2.1)
def FL (own : String) (idx ci k t : Nat) : Prop := CI ci ∧ (kd ci)[k]? = some t ∧ Cond.fieldLink own idx ((ctN ci).2.1 k).1 ((ctN ci).2.1 k).2.1 ((ctN ci).2.1 k).2.2.1 ∈ TB
theorem FL.lt {own : String} {idx ci k t : Nat} (h : FL own idx ci k t) : k < (ctN ci).2.2.1 := by rw [← h.1.2.1]; exact (List.getElem?_eq_some_iff.mp h.2.1).1
theorem ce_obj {sh : Sh} {ar : Nat → ClassId} {ad sad : Nat → Nat} {R : Rr} {M : Mm} {c ci : Nat} (h : sh c = .inl ci) : ce sh ar ad sad R M c = .inr (ci, fl ad sad R M c ci) := by unfold ce; rw [h]
theorem ce_arr {sh : Sh} {ar : Nat → ClassId} {ad sad : Nat → Nat} {R : Rr} {M : Mm} {c t len : Nat} (h : sh c = .inr (t, len)) : ce sh ar ad sad R M c = .inl (ar t, len, pay ad R M c t) := by unfold ce; rw [h]
theorem w_obj {sh : Sh} {ar : Nat → ClassId} {ad sad : Nat → Nat} {n : Nat} {R : Rr} {M : Mm} {c ci : Nat} (h : At sh n c (.inl ci)) : (wld sh ar ad sad n R M)[c - 1]? = some (ad c, .inr (ci, fl ad sad R M c ci)) := by rw [wld_get h.2.1 h.2.2, ce_obj h.1]
theorem w_arr {sh : Sh} {ar : Nat → ClassId} {ad sad : Nat → Nat} {n : Nat} {R : Rr} {M : Mm} {c t len : Nat} (h : At sh n c (.inr (t, len))) : (wld sh ar ad sad n R M)[c - 1]? = some (ad c, .inl (ar t, len, pay ad R M c t)) := by rw [wld_get h.2.1 h.2.2, ce_arr h.1]
theorem set_fld {sh : Sh} {ar : Nat → ClassId} {ad sad : Nat → Nat} {n : Nat} {R R' : Rr} {M M' : Mm} {c ci k t : Nat} {v : Value} (hc : At sh n c (.inl ci)) (hk : (kd ci)[k]? = some t) (hv : fv ad sad R' M' c k t = v) (hM : ∀ q, q ≠ c → M q = M' q) (hR : ∀ q, q ≠ c → R q = R' q) (hM2 : ∀ j, j ≠ k → M c j = M' c j) (hR2 : ∀ j, j ≠ k → R c j = R' c j) :
    (wld sh ar ad sad n R M).set (c - 1) (ad c, .inr (ci, (fl ad sad R M c ci).set k v)) = wld sh ar ad sad n R' M' :=
  wld_set hc.2.1 hc.2.2 (by rw [ce_obj hc.1, fl_set hk hv hM2 hR2]) hM hR
theorem set_arr {sh : Sh} {ar : Nat → ClassId} {ad sad : Nat → Nat} {n : Nat} {R R' : Rr} {M M' : Mm} {c t len : Nat} {z : (Nat → Int32) ⊕ (Nat → Int64) ⊕ (Nat → UInt32) ⊕ (Nat → UInt64) ⊕ (Nat → Option Nat)} (hc : At sh n c (.inr (t, len))) (hv : pay ad R' M' c t = z) (hM : ∀ q, q ≠ c → M q = M' q) (hR : ∀ q, q ≠ c → R q = R' q) :
    (wld sh ar ad sad n R M).set (c - 1) (ad c, .inl (ar t, len, z)) = wld sh ar ad sad n R' M' :=
  wld_set hc.2.1 hc.2.2 (by rw [ce_arr hc.1, hv]) hM hR
def isRt (rt : FieldType) : Prop := (∃ n, rt = .object n) ∨ ∃ t, rt = .array t
def isE : AV → Bool
  | .inr (.inr (.inr _)) => true
  | _ => false
def isNR : AV → Bool
  | .inr (.inr (.inl _)) => false
  | _ => true
theorem cv_NR {ad ad' sad : Nat → Nat} {v : AV} (h : isNR v = true) : cv ad sad v = cv ad' sad v := by
  rcases v with x | x | r | k
  · rfl
  · rfl
  · cases h
  · rfl
theorem cv_E {ad ad' sad : Nat → Nat} {v : AV} (h : isE v = true) : cv ad sad v = cv ad' sad v := by
  rcases v with x | x | r | k
  · cases h
  · cases h
  · cases h
  · rfl
theorem oF_ord {i : Nat} (hi : i < 27) : (("java/lang/Enum", "ordinal", "I", vi (i : Int), i) : String × String × String × AV × Nat) ∈ oF :=
  List.mem_append.mpr (Or.inl (List.mem_map.mpr ⟨i, List.mem_range.mpr hi, rfl⟩))
theorem SS_inj {sad : Nat → Nat} {A : Nat → Prop} {U : State} {H : Heap} (h : SS sad A U H) {i j : Nat} (hi : i < 27) (hj : j < 27) (e : sad i = sad j) : i = j := by
  obtain ⟨cf, k, fi, f, cell, h1, h2, h3, h4, h5, h6⟩ := h.2.1 _ (oF_ord hi)
  obtain ⟨cf', k', fi', f', cell', g1, g2, g3, g4, g5, g6⟩ := h.2.1 _ (oF_ord hj)
  cases h1.symm.trans g1
  dsimp only at h3 g3
  rw [e, g3] at h3
  cases h3
  have e5 := Option.some.inj (h5.symm.trans g5)
  simp only [cv, Value.int.injEq] at e5
  have := (i32_eq (x := (i : Int)) (z := (j : Int)) ⟨by omega, by omega⟩ ⟨by omega, by omega⟩).mp e5
  omega
theorem cat_sum (ad sad : Nat → Nat) (S : List AV) : ((S.map (cv ad sad)).map (fun v => v.category)).sum = (S.map (fun v => if isl v then 2 else 1)).sum := by
  induction S with
  | nil => rfl
  | cons v S ih =>
    simp only [List.map_cons, List.sum_cons, ih]
    rcases v with x | x | r | k <;> simp [cv, isl, Value.category]
def cpI (f g : Nat → Int) (sp dp n : Nat) : Nat → Int := fun k => if dp ≤ k ∧ k < dp + n then f (sp + (k - dp)) else g k
section ROWS
variable {sh : Sh} {y : MethodName} {cc : ByteArray} {nL : Nat} {ret : Option FieldType} {d n0 n1 : Nat} {Q : Option AV → Rr → Mm → Prop} {K : Nat → Rr → Nat → List (Nat × AV) → List AV → Mm → Prop} {n : Nat} {R : Rr} {pc : Nat} {L L' : List (Nat × AV)} {S : List AV} {M : Mm}
theorem r_getI (h : EK sh y cc nL ret d n0 n1 Q K) {idx ci k b : Nat} (hf : FL y.cls idx ci k 0) (hb9 : At sh n b (.inl ci)) (hd : decode cc pc = .ok (.getfield idx, 3)) (kk : K n R (pc + 3) L (vi (M b k) :: S) M) : K n R pc L (vr b :: S) M := by
  obtain ⟨p, l, e, s, m, args, below, meth, c, ad0, sad, D, A, ar, xc, xs, gc, gs, Z, hx, hb, hr, hml, hown, hts, hlk, hnm, hK, hSS, hA, ⟨hgc, hgs, hZ⟩, rfl⟩ := h
  intro hn ad H locs ls had hP hD hS hl
  have htb : ∀ w ∈ TB, w.before args s = true := hts
  refine va_get (C := (ctN ci).1) (T := (ctN ci).2.1) (N := (ctN ci).2.2.1) hx hb htb hf.1.2.2.1 hown hK hP (b - 1) (w_obj hb9) hf.1.1 k hf.lt (htb _ hf.2.2) (fun _ h9 => h9) (v := .int (Int32.ofInt (M b k))) (fl_get hf.2.1) hd ?_
  exact kk hn ad H locs ls had hP hD hS hl
theorem r_getZ (h : EK sh y cc nL ret d n0 n1 Q K) {idx ci k b : Nat} (hf : FL y.cls idx ci k 5) (hb9 : At sh n b (.inl ci)) (hd : decode cc pc = .ok (.getfield idx, 3)) (kk : K n R (pc + 3) L (vi (M b k) :: S) M) : K n R pc L (vr b :: S) M := by
  obtain ⟨p, l, e, s, m, args, below, meth, c, ad0, sad, D, A, ar, xc, xs, gc, gs, Z, hx, hb, hr, hml, hown, hts, hlk, hnm, hK, hSS, hA, ⟨hgc, hgs, hZ⟩, rfl⟩ := h
  intro hn ad H locs ls had hP hD hS hl
  have htb : ∀ w ∈ TB, w.before args s = true := hts
  refine va_get (C := (ctN ci).1) (T := (ctN ci).2.1) (N := (ctN ci).2.2.1) hx hb htb hf.1.2.2.1 hown hK hP (b - 1) (w_obj hb9) hf.1.1 k hf.lt (htb _ hf.2.2) (fun _ h9 => h9) (v := .int (Int32.ofInt (M b k))) (fl_get hf.2.1) hd ?_
  exact kk hn ad H locs ls had hP hD hS hl
theorem r_getL (h : EK sh y cc nL ret d n0 n1 Q K) {idx ci k b : Nat} (hf : FL y.cls idx ci k 1) (hb9 : At sh n b (.inl ci)) (hd : decode cc pc = .ok (.getfield idx, 3)) (kk : K n R (pc + 3) L (vl (M b k) :: S) M) : K n R pc L (vr b :: S) M := by
  obtain ⟨p, l, e, s, m, args, below, meth, c, ad0, sad, D, A, ar, xc, xs, gc, gs, Z, hx, hb, hr, hml, hown, hts, hlk, hnm, hK, hSS, hA, ⟨hgc, hgs, hZ⟩, rfl⟩ := h
  intro hn ad H locs ls had hP hD hS hl
  have htb : ∀ w ∈ TB, w.before args s = true := hts
  refine va_get (C := (ctN ci).1) (T := (ctN ci).2.1) (N := (ctN ci).2.2.1) hx hb htb hf.1.2.2.1 hown hK hP (b - 1) (w_obj hb9) hf.1.1 k hf.lt (htb _ hf.2.2) (fun _ h9 => h9) (v := .long (Int64.ofInt (M b k))) (fl_get hf.2.1) hd ?_
  exact kk hn ad H locs ls had hP hD hS hl
theorem r_getR (h : EK sh y cc nL ret d n0 n1 Q K) {idx ci k b : Nat} (hf : FL y.cls idx ci k 2) (hb9 : At sh n b (.inl ci)) {r : Nat} (hr9 : R b k = r) (hr0 : 0 < r) (hd : decode cc pc = .ok (.getfield idx, 3)) (kk : K n R (pc + 3) L (vr r :: S) M) : K n R pc L (vr b :: S) M := by
  obtain ⟨p, l, e, s, m, args, below, meth, c, ad0, sad, D, A, ar, xc, xs, gc, gs, Z, hx, hb, hr, hml, hown, hts, hlk, hnm, hK, hSS, hA, ⟨hgc, hgs, hZ⟩, rfl⟩ := h
  intro hn ad H locs ls had hP hD hS hl
  have htb : ∀ w ∈ TB, w.before args s = true := hts
  refine va_get (C := (ctN ci).1) (T := (ctN ci).2.1) (N := (ctN ci).2.2.1) hx hb htb hf.1.2.2.1 hown hK hP (b - 1) (w_obj hb9) hf.1.1 k hf.lt (htb _ hf.2.2) (fun _ h9 => h9) (v := .ref (ad r)) (by rw [fl_get hf.2.1]; simp [fv, rv, hr9, Nat.ne_of_gt hr0]) hd ?_
  exact kk hn ad H locs ls had hP hD hS hl
theorem r_getM (h : EK sh y cc nL ret d n0 n1 Q K) {idx ci k b : Nat} (hf : FL y.cls idx ci k 3) (hb9 : At sh n b (.inl ci)) {r : Nat} (hr9 : M b k = (r : Int)) (hr0 : 0 < r) (hd : decode cc pc = .ok (.getfield idx, 3)) (kk : K n R (pc + 3) L (vr r :: S) M) : K n R pc L (vr b :: S) M := by
  obtain ⟨p, l, e, s, m, args, below, meth, c, ad0, sad, D, A, ar, xc, xs, gc, gs, Z, hx, hb, hr, hml, hown, hts, hlk, hnm, hK, hSS, hA, ⟨hgc, hgs, hZ⟩, rfl⟩ := h
  intro hn ad H locs ls had hP hD hS hl
  have htb : ∀ w ∈ TB, w.before args s = true := hts
  refine va_get (C := (ctN ci).1) (T := (ctN ci).2.1) (N := (ctN ci).2.2.1) hx hb htb hf.1.2.2.1 hown hK hP (b - 1) (w_obj hb9) hf.1.1 k hf.lt (htb _ hf.2.2) (fun _ h9 => h9) (v := .ref (ad r)) (by rw [fl_get hf.2.1]; simp [fv, rv, hr9, Nat.ne_of_gt hr0]) hd ?_
  exact kk hn ad H locs ls had hP hD hS hl
theorem r_getE (h : EK sh y cc nL ret d n0 n1 Q K) {idx ci k b : Nat} (hf : FL y.cls idx ci k 4) (hb9 : At sh n b (.inl ci)) {r : Nat} (hr9 : M b k = (r : Int) + 1) (hd : decode cc pc = .ok (.getfield idx, 3)) (kk : K n R (pc + 3) L (ve r :: S) M) : K n R pc L (vr b :: S) M := by
  obtain ⟨p, l, e, s, m, args, below, meth, c, ad0, sad, D, A, ar, xc, xs, gc, gs, Z, hx, hb, hr, hml, hown, hts, hlk, hnm, hK, hSS, hA, ⟨hgc, hgs, hZ⟩, rfl⟩ := h
  intro hn ad H locs ls had hP hD hS hl
  have htb : ∀ w ∈ TB, w.before args s = true := hts
  refine va_get (C := (ctN ci).1) (T := (ctN ci).2.1) (N := (ctN ci).2.2.1) hx hb htb hf.1.2.2.1 hown hK hP (b - 1) (w_obj hb9) hf.1.1 k hf.lt (htb _ hf.2.2) (fun _ h9 => h9) (v := .ref (sad r)) (by rw [fl_get hf.2.1]; simp [fv, hr9, show (r : Int) + 1 ≠ 0 by omega, show ((r : Int) + 1).toNat - 1 = r by omega]) hd ?_
  exact kk hn ad H locs ls had hP hD hS hl
theorem r_putI (h : EK sh y cc nL ret d n0 n1 Q K) {idx ci k b : Nat} {x : Int} (hf : FL y.cls idx ci k 0) (hb9 : At sh n b (.inl ci)) (hfin : ((ctN ci).2.1 k).2.2.2 = false) (hty : (ctN ci).2.2.2 k = .int) (hd : decode cc pc = .ok (.putfield idx, 3)) (kk : K n R (pc + 3) L S (upr M b (up1 (M b) k x))) : K n R pc L (vi x :: vr b :: S) M := by
  obtain ⟨p, l, e, s, m, args, below, meth, c, ad0, sad, D, A, ar, xc, xs, gc, gs, Z, hx, hb, hr, hml, hown, hts, hlk, hnm, hK, hSS, hA, ⟨hgc, hgs, hZ⟩, rfl⟩ := h
  intro hn ad H locs ls had hP hD hS hl
  have htb : ∀ w ∈ TB, w.before args s = true := hts
  refine va_put (C := (ctN ci).1) (T := (ctN ci).2.1) (N := (ctN ci).2.2.1) (v := .int (Int32.ofInt x)) (ty := .int) hx hb htb hf.1.2.2.1 (ctN ci).2.2.2 hf.1.2.2.2.1 hf.1.2.2.2.2 hown hK hP hD hS (b - 1) (w_obj hb9) hf.1.1 k hf.lt (htb _ hf.2.2) (fun _ h9 => h9) hfin (by rw [hf.1.2.2.2.1 k hf.lt, hty]) rfl rfl (by rw [fl_len, hf.1.2.1]; exact hf.lt) hd (fun H1 locs1 hP1 hD1 hS1 => ?_)
  have e9 := set_fld (sh := sh) (ar := ar) (ad := ad) (sad := sad) (R := R) (R' := R) (M := M) (M' := upr M b (up1 (M b) k x)) hb9 hf.2.1 (v := .int (Int32.ofInt x)) (by simp [fv, upr, up1]) (fun q hq => upr_ne hq) (fun q hq => rfl) (fun j hj => by simp [upr, up1, hj]) (fun j hj => rfl)
  rw [e9] at hP1 hD1
  exact kk hn ad H1 locs1 ls had hP1 hD1 hS1 hl
theorem r_putZ (h : EK sh y cc nL ret d n0 n1 Q K) {idx ci k b : Nat} {x : Int} (hx01 : x = 0 ∨ x = 1) (hf : FL y.cls idx ci k 5) (hb9 : At sh n b (.inl ci)) (hfin : ((ctN ci).2.1 k).2.2.2 = false) (hty : (ctN ci).2.2.2 k = .boolean) (hd : decode cc pc = .ok (.putfield idx, 3)) (kk : K n R (pc + 3) L S (upr M b (up1 (M b) k x))) : K n R pc L (vi x :: vr b :: S) M := by
  obtain ⟨p, l, e, s, m, args, below, meth, c, ad0, sad, D, A, ar, xc, xs, gc, gs, Z, hx, hb, hr, hml, hown, hts, hlk, hnm, hK, hSS, hA, ⟨hgc, hgs, hZ⟩, rfl⟩ := h
  intro hn ad H locs ls had hP hD hS hl
  have htb : ∀ w ∈ TB, w.before args s = true := hts
  refine va_put (C := (ctN ci).1) (T := (ctN ci).2.1) (N := (ctN ci).2.2.1) (v := .int (Int32.ofInt x)) (ty := .boolean) hx hb htb hf.1.2.2.1 (ctN ci).2.2.2 hf.1.2.2.2.1 hf.1.2.2.2.2 hown hK hP hD hS (b - 1) (w_obj hb9) hf.1.1 k hf.lt (htb _ hf.2.2) (fun _ h9 => h9) hfin (by rw [hf.1.2.2.2.1 k hf.lt, hty]) (by rcases hx01 with rfl | rfl <;> rfl) (by rcases hx01 with rfl | rfl <;> rfl) (by rw [fl_len, hf.1.2.1]; exact hf.lt) hd (fun H1 locs1 hP1 hD1 hS1 => ?_)
  have e9 := set_fld (sh := sh) (ar := ar) (ad := ad) (sad := sad) (R := R) (R' := R) (M := M) (M' := upr M b (up1 (M b) k x)) hb9 hf.2.1 (v := .int (Int32.ofInt x)) (by simp [fv, upr, up1]) (fun q hq => upr_ne hq) (fun q hq => rfl) (fun j hj => by simp [upr, up1, hj]) (fun j hj => rfl)
  rw [e9] at hP1 hD1
  exact kk hn ad H1 locs1 ls had hP1 hD1 hS1 hl
theorem r_putZF (h : EK sh y cc nL ret d n0 n1 Q K) {idx ci k b : Nat} {x : Int} (hx01 : x = 0 ∨ x = 1) (hf : FL y.cls idx ci k 5) (hb9 : At sh n b (.inl ci)) (hfin : ((ctN ci).2.1 k).2.2.2 = true) (hin9 : y.name = "<init>") (hdc : ((ctN ci).2.1 k).1 = y.cls) (hty : (ctN ci).2.2.2 k = .boolean) (hd : decode cc pc = .ok (.putfield idx, 3)) (kk : K n R (pc + 3) L S (upr M b (up1 (M b) k x))) : K n R pc L (vi x :: vr b :: S) M := by
  obtain ⟨p, l, e, s, m, args, below, meth, c, ad0, sad, D, A, ar, xc, xs, gc, gs, Z, hx, hb, hr, hml, hown, hts, hlk, hnm, hK, hSS, hA, ⟨hgc, hgs, hZ⟩, rfl⟩ := h
  intro hn ad H locs ls had hP hD hS hl
  have htb : ∀ w ∈ TB, w.before args s = true := hts
  refine va_putF (C := (ctN ci).1) (T := (ctN ci).2.1) (N := (ctN ci).2.2.1) (v := .int (Int32.ofInt x)) (ty := .boolean) hx hb htb hf.1.2.2.1 (ctN ci).2.2.2 hf.1.2.2.2.1 hf.1.2.2.2.2 hown hK hP hD hS (b - 1) (w_obj hb9) hf.1.1 k hf.lt (htb _ hf.2.2) (fun _ h9 => h9) hfin (hnm.trans hin9) hdc (by rw [hf.1.2.2.2.1 k hf.lt, hty]) (by rcases hx01 with rfl | rfl <;> rfl) (by rcases hx01 with rfl | rfl <;> rfl) (by rw [fl_len, hf.1.2.1]; exact hf.lt) hd (fun H1 locs1 hP1 hD1 hS1 => ?_)
  have e9 := set_fld (sh := sh) (ar := ar) (ad := ad) (sad := sad) (R := R) (R' := R) (M := M) (M' := upr M b (up1 (M b) k x)) hb9 hf.2.1 (v := .int (Int32.ofInt x)) (by simp [fv, upr, up1]) (fun q hq => upr_ne hq) (fun q hq => rfl) (fun j hj => by simp [upr, up1, hj]) (fun j hj => rfl)
  rw [e9] at hP1 hD1
  exact kk hn ad H1 locs1 ls had hP1 hD1 hS1 hl
theorem r_putL (h : EK sh y cc nL ret d n0 n1 Q K) {idx ci k b : Nat} {x : Int} (hf : FL y.cls idx ci k 1) (hb9 : At sh n b (.inl ci)) (hfin : ((ctN ci).2.1 k).2.2.2 = false) (hty : (ctN ci).2.2.2 k = .long) (hd : decode cc pc = .ok (.putfield idx, 3)) (kk : K n R (pc + 3) L S (upr M b (up1 (M b) k x))) : K n R pc L (vl x :: vr b :: S) M := by
  obtain ⟨p, l, e, s, m, args, below, meth, c, ad0, sad, D, A, ar, xc, xs, gc, gs, Z, hx, hb, hr, hml, hown, hts, hlk, hnm, hK, hSS, hA, ⟨hgc, hgs, hZ⟩, rfl⟩ := h
  intro hn ad H locs ls had hP hD hS hl
  have htb : ∀ w ∈ TB, w.before args s = true := hts
  refine va_put (C := (ctN ci).1) (T := (ctN ci).2.1) (N := (ctN ci).2.2.1) (v := .long (Int64.ofInt x)) (ty := .long) hx hb htb hf.1.2.2.1 (ctN ci).2.2.2 hf.1.2.2.2.1 hf.1.2.2.2.2 hown hK hP hD hS (b - 1) (w_obj hb9) hf.1.1 k hf.lt (htb _ hf.2.2) (fun _ h9 => h9) hfin (by rw [hf.1.2.2.2.1 k hf.lt, hty]) rfl rfl (by rw [fl_len, hf.1.2.1]; exact hf.lt) hd (fun H1 locs1 hP1 hD1 hS1 => ?_)
  have e9 := set_fld (sh := sh) (ar := ar) (ad := ad) (sad := sad) (R := R) (R' := R) (M := M) (M' := upr M b (up1 (M b) k x)) hb9 hf.2.1 (v := .long (Int64.ofInt x)) (by simp [fv, upr, up1]) (fun q hq => upr_ne hq) (fun q hq => rfl) (fun j hj => by simp [upr, up1, hj]) (fun j hj => rfl)
  rw [e9] at hP1 hD1
  exact kk hn ad H1 locs1 ls had hP1 hD1 hS1 hl
theorem r_putE (h : EK sh y cc nL ret d n0 n1 Q K) {idx ci k b : Nat} {r : Nat} {st : String} (hf : FL y.cls idx ci k 4) (hb9 : At sh n b (.inl ci)) (hfin : ((ctN ci).2.1 k).2.2.2 = false) (hty : (ctN ci).2.2.2 k = .object st) (hd : decode cc pc = .ok (.putfield idx, 3)) (kk : K n R (pc + 3) L S (upr M b (up1 (M b) k ((r : Int) + 1)))) : K n R pc L (ve r :: vr b :: S) M := by
  obtain ⟨p, l, e, s, m, args, below, meth, c, ad0, sad, D, A, ar, xc, xs, gc, gs, Z, hx, hb, hr, hml, hown, hts, hlk, hnm, hK, hSS, hA, ⟨hgc, hgs, hZ⟩, rfl⟩ := h
  intro hn ad H locs ls had hP hD hS hl
  have htb : ∀ w ∈ TB, w.before args s = true := hts
  refine va_put (C := (ctN ci).1) (T := (ctN ci).2.1) (N := (ctN ci).2.2.1) (v := .ref (sad r)) (ty := .object st) hx hb htb hf.1.2.2.1 (ctN ci).2.2.2 hf.1.2.2.2.1 hf.1.2.2.2.2 hown hK hP hD hS (b - 1) (w_obj hb9) hf.1.1 k hf.lt (htb _ hf.2.2) (fun _ h9 => h9) hfin (by rw [hf.1.2.2.2.1 k hf.lt, hty]) rfl rfl (by rw [fl_len, hf.1.2.1]; exact hf.lt) hd (fun H1 locs1 hP1 hD1 hS1 => ?_)
  have e9 := set_fld (sh := sh) (ar := ar) (ad := ad) (sad := sad) (R := R) (R' := R) (M := M) (M' := upr M b (up1 (M b) k ((r : Int) + 1))) hb9 hf.2.1 (v := .ref (sad r)) (by simp [fv, upr, up1, show (r : Int) + 1 ≠ 0 by omega, show ((r : Int) + 1).toNat - 1 = r by omega]) (fun q hq => upr_ne hq) (fun q hq => rfl) (fun j hj => by simp [upr, up1, hj]) (fun j hj => rfl)
  rw [e9] at hP1 hD1
  exact kk hn ad H1 locs1 ls had hP1 hD1 hS1 hl
theorem r_putM (h : EK sh y cc nL ret d n0 n1 Q K) {idx ci k b : Nat} {r : Nat} {st : String} (hr0 : 0 < r) (hf : FL y.cls idx ci k 3) (hb9 : At sh n b (.inl ci)) (hfin : ((ctN ci).2.1 k).2.2.2 = false) (hty : (ctN ci).2.2.2 k = .object st) (hd : decode cc pc = .ok (.putfield idx, 3)) (kk : K n R (pc + 3) L S (upr M b (up1 (M b) k (r : Int)))) : K n R pc L (vr r :: vr b :: S) M := by
  obtain ⟨p, l, e, s, m, args, below, meth, c, ad0, sad, D, A, ar, xc, xs, gc, gs, Z, hx, hb, hr, hml, hown, hts, hlk, hnm, hK, hSS, hA, ⟨hgc, hgs, hZ⟩, rfl⟩ := h
  intro hn ad H locs ls had hP hD hS hl
  have htb : ∀ w ∈ TB, w.before args s = true := hts
  refine va_put (C := (ctN ci).1) (T := (ctN ci).2.1) (N := (ctN ci).2.2.1) (v := .ref (ad r)) (ty := .object st) hx hb htb hf.1.2.2.1 (ctN ci).2.2.2 hf.1.2.2.2.1 hf.1.2.2.2.2 hown hK hP hD hS (b - 1) (w_obj hb9) hf.1.1 k hf.lt (htb _ hf.2.2) (fun _ h9 => h9) hfin (by rw [hf.1.2.2.2.1 k hf.lt, hty]) rfl rfl (by rw [fl_len, hf.1.2.1]; exact hf.lt) hd (fun H1 locs1 hP1 hD1 hS1 => ?_)
  have e9 := set_fld (sh := sh) (ar := ar) (ad := ad) (sad := sad) (R := R) (R' := R) (M := M) (M' := upr M b (up1 (M b) k (r : Int))) hb9 hf.2.1 (v := .ref (ad r)) (by simp [fv, rv, upr, up1, Nat.ne_of_gt hr0]) (fun q hq => upr_ne hq) (fun q hq => rfl) (fun j hj => by simp [upr, up1, hj]) (fun j hj => rfl)
  rw [e9] at hP1 hD1
  exact kk hn ad H1 locs1 ls had hP1 hD1 hS1 hl
theorem r_putRF (h : EK sh y cc nL ret d n0 n1 Q K) {idx ci k b : Nat} {r : Nat} {st : FieldType} (hrt : isRt st) (hr0 : 0 < r) (hf : FL y.cls idx ci k 2) (hb9 : At sh n b (.inl ci)) (hfin : ((ctN ci).2.1 k).2.2.2 = true) (hin9 : y.name = "<init>") (hdc : ((ctN ci).2.1 k).1 = y.cls) (hty : (ctN ci).2.2.2 k = st) (hd : decode cc pc = .ok (.putfield idx, 3)) (kk : K n (upr R b (up1 (R b) k r)) (pc + 3) L S M) : K n R pc L (vr r :: vr b :: S) M := by
  obtain ⟨p, l, e, s, m, args, below, meth, c, ad0, sad, D, A, ar, xc, xs, gc, gs, Z, hx, hb, hr, hml, hown, hts, hlk, hnm, hK, hSS, hA, ⟨hgc, hgs, hZ⟩, rfl⟩ := h
  intro hn ad H locs ls had hP hD hS hl
  have htb : ∀ w ∈ TB, w.before args s = true := hts
  refine va_putF (C := (ctN ci).1) (T := (ctN ci).2.1) (N := (ctN ci).2.2.1) (v := .ref (ad r)) (ty := st) hx hb htb hf.1.2.2.1 (ctN ci).2.2.2 hf.1.2.2.2.1 hf.1.2.2.2.2 hown hK hP hD hS (b - 1) (w_obj hb9) hf.1.1 k hf.lt (htb _ hf.2.2) (fun _ h9 => h9) hfin (hnm.trans hin9) hdc (by rw [hf.1.2.2.2.1 k hf.lt, hty]) (by rcases hrt with ⟨q, rfl⟩ | ⟨q, rfl⟩ <;> rfl) (by rcases hrt with ⟨q, rfl⟩ | ⟨q, rfl⟩ <;> rfl) (by rw [fl_len, hf.1.2.1]; exact hf.lt) hd (fun H1 locs1 hP1 hD1 hS1 => ?_)
  have e9 := set_fld (sh := sh) (ar := ar) (ad := ad) (sad := sad) (R := R) (R' := upr R b (up1 (R b) k r)) (M := M) (M' := M) hb9 hf.2.1 (v := .ref (ad r)) (by simp [fv, rv, upr, up1, Nat.ne_of_gt hr0]) (fun q hq => rfl) (fun q hq => upr_ne hq) (fun j hj => rfl) (fun j hj => by simp [upr, up1, hj])
  rw [e9] at hP1 hD1
  exact kk hn ad H1 locs1 ls had hP1 hD1 hS1 hl
theorem r_iald (h : EK sh y cc nL ret d n0 n1 Q K) {b len : Nat} {x : Int} (k9 : Nat) (hk9 : x.toNat = k9) (hb9 : At sh n b (.inr (0, len))) (hi9 : 0 ≤ x ∧ x < (len : Int)) (hl9 : len < 2147483648) (hd : decode cc pc = .ok (.iaload, 1)) (kk : K n R (pc + 1) L (vi (M b k9) :: S) M) : K n R pc L (vi x :: vr b :: S) M := by
  obtain ⟨p, l, e, s, m, args, below, meth, c, ad0, sad, D, A, ar, xc, xs, gc, gs, Z, hx, hb, hr, hml, hown, hts, hlk, hnm, hK, hSS, hA, ⟨hgc, hgs, hZ⟩, rfl⟩ := h
  intro hn ad H locs ls had hP hD hS hl
  have htb : ∀ w ∈ TB, w.before args s = true := hts
  subst hk9
  refine va_iald hx hb hK hP (b - 1) 0 (w_arr hb9) rfl (ix_in hi9 hl9) hd ?_
  have k2 := kk hn ad H locs ls had hP hD hS hl
  rw [ix_at hi9 hl9]
  exact k2
theorem r_lald (h : EK sh y cc nL ret d n0 n1 Q K) {b len : Nat} {x : Int} (k9 : Nat) (hk9 : x.toNat = k9) (hb9 : At sh n b (.inr (1, len))) (hi9 : 0 ≤ x ∧ x < (len : Int)) (hl9 : len < 2147483648) (hd : decode cc pc = .ok (.laload, 1)) (kk : K n R (pc + 1) L (vl (M b k9) :: S) M) : K n R pc L (vi x :: vr b :: S) M := by
  obtain ⟨p, l, e, s, m, args, below, meth, c, ad0, sad, D, A, ar, xc, xs, gc, gs, Z, hx, hb, hr, hml, hown, hts, hlk, hnm, hK, hSS, hA, ⟨hgc, hgs, hZ⟩, rfl⟩ := h
  intro hn ad H locs ls had hP hD hS hl
  have htb : ∀ w ∈ TB, w.before args s = true := hts
  subst hk9
  refine va_lald hx hb hK hP (b - 1) 1 (w_arr hb9) rfl (ix_in hi9 hl9) hd ?_
  have k2 := kk hn ad H locs ls had hP hD hS hl
  rw [ix_at hi9 hl9]
  exact k2
theorem r_bald (h : EK sh y cc nL ret d n0 n1 Q K) {b len : Nat} {x : Int} (k9 : Nat) (hk9 : x.toNat = k9) (hb9 : At sh n b (.inr (2, len))) (hi9 : 0 ≤ x ∧ x < (len : Int)) (hl9 : len < 2147483648) (hd : decode cc pc = .ok (.baload, 1)) (kk : K n R (pc + 1) L (vi (M b k9) :: S) M) : K n R pc L (vi x :: vr b :: S) M := by
  obtain ⟨p, l, e, s, m, args, below, meth, c, ad0, sad, D, A, ar, xc, xs, gc, gs, Z, hx, hb, hr, hml, hown, hts, hlk, hnm, hK, hSS, hA, ⟨hgc, hgs, hZ⟩, rfl⟩ := h
  intro hn ad H locs ls had hP hD hS hl
  have htb : ∀ w ∈ TB, w.before args s = true := hts
  subst hk9
  refine va_bald hx hb hK hP (b - 1) 2 (w_arr hb9) rfl (ix_in hi9 hl9) hd ?_
  have k2 := kk hn ad H locs ls had hP hD hS hl
  rw [ix_at hi9 hl9]
  exact k2
theorem r_zald (h : EK sh y cc nL ret d n0 n1 Q K) {b len : Nat} {x : Int} (k9 : Nat) (hk9 : x.toNat = k9) (hb9 : At sh n b (.inr (3, len))) (hi9 : 0 ≤ x ∧ x < (len : Int)) (hl9 : len < 2147483648) (hd : decode cc pc = .ok (.baload, 1)) (kk : K n R (pc + 1) L (vi (M b k9) :: S) M) : K n R pc L (vi x :: vr b :: S) M := by
  obtain ⟨p, l, e, s, m, args, below, meth, c, ad0, sad, D, A, ar, xc, xs, gc, gs, Z, hx, hb, hr, hml, hown, hts, hlk, hnm, hK, hSS, hA, ⟨hgc, hgs, hZ⟩, rfl⟩ := h
  intro hn ad H locs ls had hP hD hS hl
  have htb : ∀ w ∈ TB, w.before args s = true := hts
  subst hk9
  refine va_zald hx hb hK hP (b - 1) 3 (w_arr hb9) rfl (ix_in hi9 hl9) hd ?_
  have k2 := kk hn ad H locs ls had hP hD hS hl
  rw [ix_at hi9 hl9]
  exact k2
theorem r_aald4 (h : EK sh y cc nL ret d n0 n1 Q K) {b len : Nat} {x : Int} (k9 : Nat) (hk9 : x.toNat = k9) (hb9 : At sh n b (.inr (4, len))) (hi9 : 0 ≤ x ∧ x < (len : Int)) (hl9 : len < 2147483648) {r : Nat} (hr9 : R b k9 = r) (hr0 : 0 < r) (hd : decode cc pc = .ok (.aaload, 1)) (kk : K n R (pc + 1) L (vr r :: S) M) : K n R pc L (vi x :: vr b :: S) M := by
  obtain ⟨p, l, e, s, m, args, below, meth, c, ad0, sad, D, A, ar, xc, xs, gc, gs, Z, hx, hb, hr, hml, hown, hts, hlk, hnm, hK, hSS, hA, ⟨hgc, hgs, hZ⟩, rfl⟩ := h
  intro hn ad H locs ls had hP hD hS hl
  have htb : ∀ w ∈ TB, w.before args s = true := hts
  subst hk9
  refine va_aldq hx hb hK hP (b - 1) 4 (w_arr hb9) rfl (ix_in hi9 hl9) hd ?_
  have k2 := kk hn ad H locs ls had hP hD hS hl
  rw [ix_at hi9 hl9]
  rw [show ro ad (R b x.toNat) = some (ad r) by simp [ro, hr9, Nat.ne_of_gt hr0]]
  exact k2
theorem r_aald5 (h : EK sh y cc nL ret d n0 n1 Q K) {b len : Nat} {x : Int} (k9 : Nat) (hk9 : x.toNat = k9) (hb9 : At sh n b (.inr (5, len))) (hi9 : 0 ≤ x ∧ x < (len : Int)) (hl9 : len < 2147483648) {r : Nat} (hr9 : R b k9 = r) (hr0 : 0 < r) (hd : decode cc pc = .ok (.aaload, 1)) (kk : K n R (pc + 1) L (vr r :: S) M) : K n R pc L (vi x :: vr b :: S) M := by
  obtain ⟨p, l, e, s, m, args, below, meth, c, ad0, sad, D, A, ar, xc, xs, gc, gs, Z, hx, hb, hr, hml, hown, hts, hlk, hnm, hK, hSS, hA, ⟨hgc, hgs, hZ⟩, rfl⟩ := h
  intro hn ad H locs ls had hP hD hS hl
  have htb : ∀ w ∈ TB, w.before args s = true := hts
  subst hk9
  refine va_aldq hx hb hK hP (b - 1) 5 (w_arr hb9) rfl (ix_in hi9 hl9) hd ?_
  have k2 := kk hn ad H locs ls had hP hD hS hl
  rw [ix_at hi9 hl9]
  rw [show ro ad (R b x.toNat) = some (ad r) by simp [ro, hr9, Nat.ne_of_gt hr0]]
  exact k2
theorem r_iast (h : EK sh y cc nL ret d n0 n1 Q K) {b len : Nat} {x z : Int} (k9 : Nat) (hk9 : x.toNat = k9) (hb9 : At sh n b (.inr (0, len))) (hi9 : 0 ≤ x ∧ x < (len : Int)) (hl9 : len < 2147483648) (hd : decode cc pc = .ok (.iastore, 1)) (kk : K n R (pc + 1) L S (upr M b (up1 (M b) k9 z))) : K n R pc L (vi z :: vi x :: vr b :: S) M := by
  obtain ⟨p, l, e, s, m, args, below, meth, c, ad0, sad, D, A, ar, xc, xs, gc, gs, Z, hx, hb, hr, hml, hown, hts, hlk, hnm, hK, hSS, hA, ⟨hgc, hgs, hZ⟩, rfl⟩ := h
  intro hn ad H locs ls had hP hD hS hl
  have htb : ∀ w ∈ TB, w.before args s = true := hts
  subst hk9
  refine va_iast hx hb hK hP hD hS (b - 1) 0 (w_arr hb9) rfl (ix_in hi9 hl9) hd (fun H1 locs1 hP1 hD1 hS1 => ?_)
  rw [ix_at hi9 hl9] at hP1 hD1
  have e9 := set_arr (sh := sh) (ar := ar) (ad := ad) (sad := sad) (R := R) (R' := R) (M := M) (M' := upr M b (up1 (M b) x.toNat z)) hb9 (z := .inl (upd (fun j => Int32.ofInt (M b j)) x.toNat (Int32.ofInt z))) (by
    refine congrArg (fun w => Sum.inl w) ?_
    funext j
    by_cases hj : j = x.toNat <;> simp [upr, up1, upd, vp_updL, hj]) (fun q hq => upr_ne hq) (fun q hq => rfl)
  rw [e9] at hP1 hD1
  exact kk hn ad H1 locs1 ls had hP1 hD1 hS1 hl
theorem r_bast (h : EK sh y cc nL ret d n0 n1 Q K) {b len : Nat} {x z : Int} (k9 : Nat) (hk9 : x.toNat = k9) (hb9 : At sh n b (.inr (2, len))) (hi9 : 0 ≤ x ∧ x < (len : Int)) (hl9 : len < 2147483648) (hz9 : -128 ≤ z ∧ z ≤ 127) (hd : decode cc pc = .ok (.bastore, 1)) (kk : K n R (pc + 1) L S (upr M b (up1 (M b) k9 z))) : K n R pc L (vi z :: vi x :: vr b :: S) M := by
  obtain ⟨p, l, e, s, m, args, below, meth, c, ad0, sad, D, A, ar, xc, xs, gc, gs, Z, hx, hb, hr, hml, hown, hts, hlk, hnm, hK, hSS, hA, ⟨hgc, hgs, hZ⟩, rfl⟩ := h
  intro hn ad H locs ls had hP hD hS hl
  have htb : ∀ w ∈ TB, w.before args s = true := hts
  subst hk9
  refine va_bast hx hb hK hP hD hS (b - 1) 2 (w_arr hb9) rfl (ix_in hi9 hl9) hd (fun H1 locs1 hP1 hD1 hS1 => ?_)
  rw [ix_at hi9 hl9] at hP1 hD1
  have e9 := set_arr (sh := sh) (ar := ar) (ad := ad) (sad := sad) (R := R) (R' := R) (M := M) (M' := upr M b (up1 (M b) x.toNat z)) hb9 (z := .inl (upd (fun j => Int32.ofInt (M b j)) x.toNat (vp_nar .byte (Int32.ofInt z)))) (by
    refine congrArg (fun w => Sum.inl w) ?_
    funext j
    have hnz : vp_nar .byte (Int32.ofInt z) = Int32.ofInt z := by rw [vp_nar_byte, i2b_of hz9]
    by_cases hj : j = x.toNat <;> simp [upr, up1, upd, vp_updL, hj, hnz]) (fun q hq => upr_ne hq) (fun q hq => rfl)
  rw [e9] at hP1 hD1
  exact kk hn ad H1 locs1 ls had hP1 hD1 hS1 hl
theorem r_zast (h : EK sh y cc nL ret d n0 n1 Q K) {b len : Nat} {x z : Int} (k9 : Nat) (hk9 : x.toNat = k9) (hb9 : At sh n b (.inr (3, len))) (hi9 : 0 ≤ x ∧ x < (len : Int)) (hl9 : len < 2147483648) (hz9 : z = 0 ∨ z = 1) (hd : decode cc pc = .ok (.bastore, 1)) (kk : K n R (pc + 1) L S (upr M b (up1 (M b) k9 z))) : K n R pc L (vi z :: vi x :: vr b :: S) M := by
  obtain ⟨p, l, e, s, m, args, below, meth, c, ad0, sad, D, A, ar, xc, xs, gc, gs, Z, hx, hb, hr, hml, hown, hts, hlk, hnm, hK, hSS, hA, ⟨hgc, hgs, hZ⟩, rfl⟩ := h
  intro hn ad H locs ls had hP hD hS hl
  have htb : ∀ w ∈ TB, w.before args s = true := hts
  subst hk9
  refine va_zast hx hb hK hP hD hS (b - 1) 3 (w_arr hb9) rfl (ix_in hi9 hl9) hd (fun H1 locs1 hP1 hD1 hS1 => ?_)
  rw [ix_at hi9 hl9] at hP1 hD1
  have e9 := set_arr (sh := sh) (ar := ar) (ad := ad) (sad := sad) (R := R) (R' := R) (M := M) (M' := upr M b (up1 (M b) x.toNat z)) hb9 (z := .inl (upd (fun j => Int32.ofInt (M b j)) x.toNat (vp_nar .boolean (Int32.ofInt z)))) (by
    refine congrArg (fun w => Sum.inl w) ?_
    funext j
    have hnz : vp_nar .boolean (Int32.ofInt z) = Int32.ofInt z := by rcases hz9 with rfl | rfl <;> decide
    by_cases hj : j = x.toNat <;> simp [upr, up1, upd, vp_updL, hj, hnz]) (fun q hq => upr_ne hq) (fun q hq => rfl)
  rw [e9] at hP1 hD1
  exact kk hn ad H1 locs1 ls had hP1 hD1 hS1 hl
theorem r_last (h : EK sh y cc nL ret d n0 n1 Q K) {b len : Nat} {x z : Int} (k9 : Nat) (hk9 : x.toNat = k9) (hb9 : At sh n b (.inr (1, len))) (hi9 : 0 ≤ x ∧ x < (len : Int)) (hl9 : len < 2147483648) (hd : decode cc pc = .ok (.lastore, 1)) (kk : K n R (pc + 1) L S (upr M b (up1 (M b) k9 z))) : K n R pc L (vl z :: vi x :: vr b :: S) M := by
  obtain ⟨p, l, e, s, m, args, below, meth, c, ad0, sad, D, A, ar, xc, xs, gc, gs, Z, hx, hb, hr, hml, hown, hts, hlk, hnm, hK, hSS, hA, ⟨hgc, hgs, hZ⟩, rfl⟩ := h
  intro hn ad H locs ls had hP hD hS hl
  have htb : ∀ w ∈ TB, w.before args s = true := hts
  subst hk9
  refine va_last hx hb hK hP hD hS (b - 1) 1 (w_arr hb9) rfl (ix_in hi9 hl9) hd (fun H1 locs1 hP1 hD1 hS1 => ?_)
  rw [ix_at hi9 hl9] at hP1 hD1
  have e9 := set_arr (sh := sh) (ar := ar) (ad := ad) (sad := sad) (R := R) (R' := R) (M := M) (M' := upr M b (up1 (M b) x.toNat z)) hb9 (z := .inr (.inl (vp_updL (fun j => Int64.ofInt (M b j)) x.toNat (Int64.ofInt z)))) (by
    refine congrArg (fun w => Sum.inr (Sum.inl w)) ?_
    funext j
    by_cases hj : j = x.toNat <;> simp [upr, up1, upd, vp_updL, hj]) (fun q hq => upr_ne hq) (fun q hq => rfl)
  rw [e9] at hP1 hD1
  exact kk hn ad H1 locs1 ls had hP1 hD1 hS1 hl
theorem r_aast4 (h : EK sh y cc nL ret d n0 n1 Q K) {b len r : Nat} {x : Int} (hb9 : At sh n b (.inr (4, len))) (hi9 : 0 ≤ x ∧ x < (len : Int)) (hl9 : len < 2147483648) (k9 : Nat) (hk9 : x.toNat = k9) (hr9 : At sh n r (.inl 4)) (hci : vwCl[4]? = some (RX5, TX5, 6)) (hd : decode cc pc = .ok (.aastore, 1)) (kk : K n (upr R b (up1 (R b) k9 r)) (pc + 1) L S M) : K n R pc L (vr r :: vi x :: vr b :: S) M := by
  obtain ⟨p, l, e, s, m, args, below, meth, c, ad0, sad, D, A, ar, xc, xs, gc, gs, Z, hx, hb, hr, hml, hown, hts, hlk, hnm, hK, hSS, hA, ⟨hgc, hgs, hZ⟩, rfl⟩ := h
  intro hn ad H locs ls had hP hD hS hl
  have htb : ∀ w ∈ TB, w.before args s = true := hts
  subst hk9
  refine va_astq hx hb hK hP hD hS (b - 1) 4 (r - 1) 4 (w_arr hb9) rfl (w_obj hr9) hci (ix_in hi9 hl9) hd (fun H1 locs1 hP1 hD1 hS1 => ?_)
  rw [ix_at hi9 hl9] at hP1 hD1
  have e9 := set_arr (sh := sh) (ar := ar) (ad := ad) (sad := sad) (R := R) (R' := upr R b (up1 (R b) x.toNat r)) (M := M) (M' := M) hb9 (z := .inr (.inr (.inr (.inr (va_up (fun j => ro ad (R b j)) x.toNat (some (ad r))))))) (by
    refine congrArg (fun w => Sum.inr (Sum.inr (Sum.inr (Sum.inr w)))) ?_
    funext j
    by_cases hj : j = x.toNat <;> simp [upr, up1, va_up, hj, ro, Nat.ne_of_gt hr9.2.1]) (fun q hq => rfl) (fun q hq => upr_ne hq)
  rw [e9] at hP1 hD1
  exact kk hn ad H1 locs1 ls had hP1 hD1 hS1 hl
theorem r_aast5 (h : EK sh y cc nL ret d n0 n1 Q K) {b len r : Nat} {x : Int} (hb9 : At sh n b (.inr (5, len))) (hi9 : 0 ≤ x ∧ x < (len : Int)) (hl9 : len < 2147483648) (k9 : Nat) (hk9 : x.toNat = k9) (hr9 : At sh n r (.inl 5)) (hci : vwCl[5]? = some (RX6, TX6, 9)) (hd : decode cc pc = .ok (.aastore, 1)) (kk : K n (upr R b (up1 (R b) k9 r)) (pc + 1) L S M) : K n R pc L (vr r :: vi x :: vr b :: S) M := by
  obtain ⟨p, l, e, s, m, args, below, meth, c, ad0, sad, D, A, ar, xc, xs, gc, gs, Z, hx, hb, hr, hml, hown, hts, hlk, hnm, hK, hSS, hA, ⟨hgc, hgs, hZ⟩, rfl⟩ := h
  intro hn ad H locs ls had hP hD hS hl
  have htb : ∀ w ∈ TB, w.before args s = true := hts
  subst hk9
  refine va_astq hx hb hK hP hD hS (b - 1) 5 (r - 1) 5 (w_arr hb9) rfl (w_obj hr9) hci (ix_in hi9 hl9) hd (fun H1 locs1 hP1 hD1 hS1 => ?_)
  rw [ix_at hi9 hl9] at hP1 hD1
  have e9 := set_arr (sh := sh) (ar := ar) (ad := ad) (sad := sad) (R := R) (R' := upr R b (up1 (R b) x.toNat r)) (M := M) (M' := M) hb9 (z := .inr (.inr (.inr (.inr (va_up (fun j => ro ad (R b j)) x.toNat (some (ad r))))))) (by
    refine congrArg (fun w => Sum.inr (Sum.inr (Sum.inr (Sum.inr w)))) ?_
    funext j
    by_cases hj : j = x.toNat <;> simp [upr, up1, va_up, hj, ro, Nat.ne_of_gt hr9.2.1]) (fun q hq => rfl) (fun q hq => upr_ne hq)
  rw [e9] at hP1 hD1
  exact kk hn ad H1 locs1 ls had hP1 hD1 hS1 hl
theorem r_getS (h : EK sh y cc nL ret d n0 n1 Q K) {idx : Nat} {C nm ds : String} {v : AV} (hq : (C, nm, ds, v) ∈ zF) (hv9 : isE v = true) (hlk9 : Cond.fieldLink y.cls idx C nm ds ∈ TB) (hd : decode cc pc = .ok (.getstatic idx, 3)) (kk : K n R (pc + 3) L (v :: S) M) : K n R pc L S M := by
  obtain ⟨p, l, e, s, m, args, below, meth, c, ad0, sad, D, A, ar, xc, xs, gc, gs, Z, hx, hb, hr, hml, hown, hts, hlk, hnm, hK, hSS, hA, ⟨hgc, hgs, hZ⟩, rfl⟩ := h
  intro hn ad H locs ls had hP hD hS hl
  have htb : ∀ w ∈ TB, w.before args s = true := hts
  refine va_gets hx hb (hSS.1 _ hq) hS hown (htb _ hlk9) (fun _ h9 => h9) hd ?_
  have k2 := kk hn ad H locs ls had hP hD hS hl
  rw [List.map_cons, cv_E hv9 (ad' := sad)] at k2
  exact k2
theorem r_getO (h : EK sh y cc nL ret d n0 n1 Q K) {idx j : Nat} {C nm ds : String} {v : AV} (hq : (C, nm, ds, v, j) ∈ oF) (hv9 : isNR v = true) (hlk9 : Cond.fieldLink y.cls idx C nm ds ∈ TB) (hd : decode cc pc = .ok (.getfield idx, 3)) (kk : K n R (pc + 3) L (v :: S) M) : K n R pc L (ve j :: S) M := by
  obtain ⟨p, l, e, s, m, args, below, meth, c, ad0, sad, D, A, ar, xc, xs, gc, gs, Z, hx, hb, hr, hml, hown, hts, hlk, hnm, hK, hSS, hA, ⟨hgc, hgs, hZ⟩, rfl⟩ := h
  intro hn ad H locs ls had hP hD hS hl
  have htb : ∀ w ∈ TB, w.before args s = true := hts
  obtain ⟨cf, k, fi, f, cell, h1, h2, h3, h4, h5, h6⟩ := (hSS.2.1 _ hq).kept hS.2.1
  refine W.getf hx hb hown (htb _ hlk9) h1 h2 h3 h4 (v := cv ad sad v) (by rw [cv_NR hv9 (ad' := sad)]; exact h5) rfl rfl hd ?_
  exact kk hn ad H locs ls had hP hD hS hl
theorem r_tI (h : EK sh y cc nL ret d n0 n1 Q K) {j N : Nat} {x : Int} {f : Nat → AV} (hq : (.int, j, N, f) ∈ tF) (hi9 : 0 ≤ x ∧ x < (N : Int)) (hl9 : N < 2147483648) (hv9 : isNR (f x.toNat) = true) (hd : decode cc pc = .ok (.iaload, 1)) (kk : K n R (pc + 1) L (f x.toNat :: S) M) : K n R pc L (vi x :: ve j :: S) M := by
  obtain ⟨p, l, e, s, m, args, below, meth, c, ad0, sad, D, A, ar, xc, xs, gc, gs, Z, hx, hb, hr, hml, hown, hts, hlk, hnm, hK, hSS, hA, ⟨hgc, hgs, hZ⟩, rfl⟩ := h
  intro hn ad H locs ls had hP hD hS hl
  have htb : ∀ w ∈ TB, w.before args s = true := hts
  refine va_ti hx hb (hSS.2.2.2.1 _ hq) hS (ix_in hi9 hl9) (v := cv ad sad (f x.toNat)) (by rw [ix_at hi9 hl9]; exact cv_NR hv9) hd ?_
  exact kk hn ad H locs ls had hP hD hS hl
theorem r_tB (h : EK sh y cc nL ret d n0 n1 Q K) {j N : Nat} {x : Int} {f : Nat → AV} (hq : (.byte, j, N, f) ∈ tF) (hi9 : 0 ≤ x ∧ x < (N : Int)) (hl9 : N < 2147483648) (hv9 : isNR (f x.toNat) = true) (hd : decode cc pc = .ok (.baload, 1)) (kk : K n R (pc + 1) L (f x.toNat :: S) M) : K n R pc L (vi x :: ve j :: S) M := by
  obtain ⟨p, l, e, s, m, args, below, meth, c, ad0, sad, D, A, ar, xc, xs, gc, gs, Z, hx, hb, hr, hml, hown, hts, hlk, hnm, hK, hSS, hA, ⟨hgc, hgs, hZ⟩, rfl⟩ := h
  intro hn ad H locs ls had hP hD hS hl
  have htb : ∀ w ∈ TB, w.before args s = true := hts
  refine va_tb hx hb (hSS.2.2.2.1 _ hq) hS (ix_in hi9 hl9) (v := cv ad sad (f x.toNat)) (by rw [ix_at hi9 hl9]; exact cv_NR hv9) hd ?_
  exact kk hn ad H locs ls had hP hD hS hl
theorem r_tA (h : EK sh y cc nL ret d n0 n1 Q K) {j N : Nat} {x : Int} {f : Nat → AV} (hq : (.object RX9, j, N, f) ∈ tF) (hi9 : 0 ≤ x ∧ x < (N : Int)) (hl9 : N < 2147483648) (hv9 : isNR (f x.toNat) = true) (hd : decode cc pc = .ok (.aaload, 1)) (kk : K n R (pc + 1) L (f x.toNat :: S) M) : K n R pc L (vi x :: ve j :: S) M := by
  obtain ⟨p, l, e, s, m, args, below, meth, c, ad0, sad, D, A, ar, xc, xs, gc, gs, Z, hx, hb, hr, hml, hown, hts, hlk, hnm, hK, hSS, hA, ⟨hgc, hgs, hZ⟩, rfl⟩ := h
  intro hn ad H locs ls had hP hD hS hl
  have htb : ∀ w ∈ TB, w.before args s = true := hts
  refine vb_tq hx hb (hSS.2.2.2.1 _ hq) hS (ix_in hi9 hl9) (v := cv ad sad (f x.toNat)) (by rw [ix_at hi9 hl9]; exact cv_NR hv9) hd ?_
  exact kk hn ad H locs ls had hP hD hS hl
theorem r_tlen (h : EK sh y cc nL ret d n0 n1 Q K) {ty : FieldType} {j N : Nat} {f : Nat → AV} (hq : (ty, j, N, f) ∈ tF) (hd : decode cc pc = .ok (.arraylength, 1)) (kk : K n R (pc + 1) L (vi (N : Int) :: S) M) : K n R pc L (ve j :: S) M := by
  obtain ⟨p, l, e, s, m, args, below, meth, c, ad0, sad, D, A, ar, xc, xs, gc, gs, Z, hx, hb, hr, hml, hown, hts, hlk, hnm, hK, hSS, hA, ⟨hgc, hgs, hZ⟩, rfl⟩ := h
  intro hn ad H locs ls had hP hD hS hl
  have htb : ∀ w ∈ TB, w.before args s = true := hts
  refine va_tlen hx hb (hSS.2.2.2.1 _ hq) hS (v := Int32.ofInt (N : Int)) rfl hd ?_
  exact kk hn ad H locs ls had hP hD hS hl
theorem r_acmp_eq (h : EK sh y cc nL ret d n0 n1 Q K) {i j : Nat} {off : Int} (tgt : Nat) (hi9 : i < 27) (hj9 : j < 27) (ht : (pc : Int) + off = (tgt : Int)) (hd : decode cc pc = .ok (.if_acmp .eq off, 3)) (kt : i = j → K n R tgt L S M) (kf : ¬ (i = j) → K n R (pc + 3) L S M) : K n R pc L (ve j :: ve i :: S) M := by
  obtain ⟨p, l, e, s, m, args, below, meth, c, ad0, sad, D, A, ar, xc, xs, gc, gs, Z, hx, hb, hr, hml, hown, hts, hlk, hnm, hK, hSS, hA, ⟨hgc, hgs, hZ⟩, rfl⟩ := h
  intro hn ad H locs ls had hP hD hS hl
  have htb : ∀ w ∈ TB, w.before args s = true := hts
  have inj : (some (sad i) : Option Nat) = some (sad j) ↔ i = j := ⟨fun q => SS_inj hSS hi9 hj9 (Option.some.inj q), fun q => by rw [q]⟩
  exact lv_acmp_eq (rx := some (sad i)) (ry := some (sad j)) (tgt := tgt) hx hb hd ht (fun q => kt (inj.mp q) hn ad H locs ls had hP hD hS hl) (fun q => kf (fun w => q (inj.mpr w)) hn ad H locs ls had hP hD hS hl)
theorem r_acmp_ne (h : EK sh y cc nL ret d n0 n1 Q K) {i j : Nat} {off : Int} (tgt : Nat) (hi9 : i < 27) (hj9 : j < 27) (ht : (pc : Int) + off = (tgt : Int)) (hd : decode cc pc = .ok (.if_acmp .ne off, 3)) (kt : i ≠ j → K n R tgt L S M) (kf : i = j → K n R (pc + 3) L S M) : K n R pc L (ve j :: ve i :: S) M := by
  obtain ⟨p, l, e, s, m, args, below, meth, c, ad0, sad, D, A, ar, xc, xs, gc, gs, Z, hx, hb, hr, hml, hown, hts, hlk, hnm, hK, hSS, hA, ⟨hgc, hgs, hZ⟩, rfl⟩ := h
  intro hn ad H locs ls had hP hD hS hl
  have htb : ∀ w ∈ TB, w.before args s = true := hts
  have inj : (some (sad i) : Option Nat) = some (sad j) ↔ i = j := ⟨fun q => SS_inj hSS hi9 hj9 (Option.some.inj q), fun q => by rw [q]⟩
  exact lv_acmp_ne (rx := some (sad i)) (ry := some (sad j)) (tgt := tgt) hx hb hd ht (fun q => kt (fun w => q (inj.mpr w)) hn ad H locs ls had hP hD hS hl) (fun q => kf (inj.mp q) hn ad H locs ls had hP hD hS hl)
theorem r_min (h : EK sh y cc nL ret d n0 n1 Q K) {idx : Nat} {x z : Int} (hx9 : rng x) (hz9 : rng z) (hm : Cond.methodLink y.cls idx Lib.Math.min.name ∈ TB ∧ Cond.static Lib.Math.min.name ∈ TB ∧ Cond.initialized "java/lang/Math" ∈ TB ∧ Cond.code Lib.Math.min.name Lib.Math.min.code 2 (some .int) ∈ TB) (hd0 : 1 ≤ d) (hn1 : n ≤ n1) (hs9 : (S.map (fun v => if isl v then 2 else 1)).sum ≤ 8) (hd : decode cc pc = .ok (.invokestatic idx, 3)) (kk : K n R (pc + 3) L (vi (if z < x then z else x) :: S) M) : K n R pc L (vi z :: vi x :: S) M := by
  obtain ⟨p, l, e, s, m, args, below, meth, c, ad0, sad, D, A, ar, xc, xs, gc, gs, Z, hx, hb, hr, hml, hown, hts, hlk, hnm, hK, hSS, hA, ⟨hgc, hgs, hZ⟩, rfl⟩ := h
  intro hn ad H locs ls had hP hD hS hl
  have htb : ∀ w ∈ TB, w.before args s = true := hts
  refine va_mmin hx hb (by rw [hml]; exact hl.1.symm) hown (htb _ hm.1) (htb _ hm.2.1) (htb _ hm.2.2.1) (htb _ hm.2.2.2) (show 1 ≤ d from hd0) (by have := cat_sum ad sad S; show _ ≤ 64 * d; omega) (show _ ≤ n1 - n0 + xc by omega) (show _ ≤ cum sh n1 - cum sh n0 + xs from by have := cum_mono (sh := sh) hn1; omega) hd ?_
  have k2 := kk hn ad H locs ls had hP hD hS hl
  rw [List.map_cons] at k2
  have e9 : cv ad sad (vi (if z < x then z else x)) = .int (if Int32.ofInt z < Int32.ofInt x then Int32.ofInt z else Int32.ofInt x) := by
    simp only [cv, i32_lt hz9 hx9]
    split <;> rfl
  rw [e9] at k2
  exact k2
theorem r_max (h : EK sh y cc nL ret d n0 n1 Q K) {idx : Nat} {x z : Int} (hx9 : rng x) (hz9 : rng z) (hm : Cond.methodLink y.cls idx Lib.Math.max.name ∈ TB ∧ Cond.static Lib.Math.max.name ∈ TB ∧ Cond.initialized "java/lang/Math" ∈ TB ∧ Cond.code Lib.Math.max.name Lib.Math.max.code 2 (some .int) ∈ TB) (hd0 : 1 ≤ d) (hn1 : n ≤ n1) (hs9 : (S.map (fun v => if isl v then 2 else 1)).sum ≤ 8) (hd : decode cc pc = .ok (.invokestatic idx, 3)) (kk : K n R (pc + 3) L (vi (if x < z then z else x) :: S) M) : K n R pc L (vi z :: vi x :: S) M := by
  obtain ⟨p, l, e, s, m, args, below, meth, c, ad0, sad, D, A, ar, xc, xs, gc, gs, Z, hx, hb, hr, hml, hown, hts, hlk, hnm, hK, hSS, hA, ⟨hgc, hgs, hZ⟩, rfl⟩ := h
  intro hn ad H locs ls had hP hD hS hl
  have htb : ∀ w ∈ TB, w.before args s = true := hts
  refine va_mmax hx hb (by rw [hml]; exact hl.1.symm) hown (htb _ hm.1) (htb _ hm.2.1) (htb _ hm.2.2.1) (htb _ hm.2.2.2) (show 1 ≤ d from hd0) (by have := cat_sum ad sad S; show _ ≤ 64 * d; omega) (show _ ≤ n1 - n0 + xc by omega) (show _ ≤ cum sh n1 - cum sh n0 + xs from by have := cum_mono (sh := sh) hn1; omega) hd ?_
  have k2 := kk hn ad H locs ls had hP hD hS hl
  rw [List.map_cons] at k2
  have e9 : cv ad sad (vi (if x < z then z else x)) = .int (if Int32.ofInt x < Int32.ofInt z then Int32.ofInt z else Int32.ofInt x) := by
    simp only [cv, i32_lt hx9 hz9]
    split <;> rfl
  rw [e9] at k2
  exact k2
theorem r_copyI (h : EK sh y cc nL ret d n0 n1 Q K) {idx b0 b1 l0 l1 : Nat} {sp dp w : Int} (hb0 : At sh n b0 (.inr (0, l0))) (hb1 : At sh n b1 (.inr (0, l1))) (h1 : 0 ≤ sp) (h2 : 0 ≤ dp) (h3 : 0 ≤ w) (h4 : sp + w ≤ (l0 : Int)) (h5 : dp + w ≤ (l1 : Int)) (hl0 : l0 < 2147483648) (hl1 : l1 < 2147483648) (hm : Cond.methodLink y.cls idx arraycopyName ∈ TB ∧ Cond.native arraycopyName ∈ TB ∧ Cond.static arraycopyName ∈ TB ∧ Cond.initialized "java/lang/System" ∈ TB) (hd0 : 1 ≤ d) (hs9 : (S.map (fun v => if isl v then 2 else 1)).sum ≤ 8) (hd : decode cc pc = .ok (.invokestatic idx, 3)) (kk : K n R (pc + 3) L S (upr M b1 (cpI (M b0) (M b1) sp.toNat dp.toNat w.toNat))) : K n R pc L (vi w :: vi dp :: vr b1 :: vi sp :: vr b0 :: S) M := by
  obtain ⟨p, l, e, s, m, args, below, meth, c, ad0, sad, D, A, ar, xc, xs, gc, gs, Z, hx, hb, hr, hml, hown, hts, hlk, hnm, hK, hSS, hA, ⟨hgc, hgs, hZ⟩, rfl⟩ := h
  intro hn ad H locs ls had hP hD hS hl
  have htb : ∀ w ∈ TB, w.before args s = true := hts
  have c1 : (Int32.ofInt sp).toNatClampNeg = sp.toNat := by show (Int32.ofInt sp).toInt.toNat = _; rw [oI ⟨by omega, by omega⟩]
  have c2 : (Int32.ofInt dp).toNatClampNeg = dp.toNat := by show (Int32.ofInt dp).toInt.toNat = _; rw [oI ⟨by omega, by omega⟩]
  have c3 : (Int32.ofInt w).toNatClampNeg = w.toNat := by show (Int32.ofInt w).toInt.toNat = _; rw [oI ⟨by omega, by omega⟩]
  have nn : ∀ v : Int, 0 ≤ v → v ≤ 2147483647 → ¬ Int32.ofInt v < 0 := fun v a b q => by
    have := (i32_lt (x := v) (z := 0) ⟨by omega, by omega⟩ (by decide)).mp q
    omega
  have hroom : ((S.map (cv ad sad)).map (fun v => v.category)).sum + (nativeFrameWords "java/lang/System" "arraycopy" 5 + 11) ≤ (rmx sh d n0 n1 xc xs).locals := by
    rw [cat_sum]
    show _ ≤ 64 * d
    have e8 : nativeFrameWords "java/lang/System" "arraycopy" 5 + 11 ≤ 50 := by decide +kernel
    omega
  refine va_copyi hx hb (by rw [hml]; exact hl.1.symm) hown (htb _ hm.1) (htb _ hm.2.1) (htb _ hm.2.2.1) (htb _ hm.2.2.2) hK hP hD hS (b0 - 1) (b1 - 1) 0 0 (w_arr hb0) (w_arr hb1) rfl rfl rfl (nn _ h1 (by omega)) (nn _ h2 (by omega)) (nn _ h3 (by omega)) (by rw [c1, c3]; omega) (by rw [c2, c3]; omega) (fun i hi => rfl) (show 1 ≤ d from hd0) hroom hd (fun H1 locs1 hP1 hD1 hS1 => ?_)
  rw [c1, c2, c3] at hP1 hD1
  have e9 := set_arr (sh := sh) (ar := ar) (ad := ad) (sad := sad) (R := R) (R' := R) (M := M) (M' := upr M b1 (cpI (M b0) (M b1) sp.toNat dp.toNat w.toNat)) hb1 (z := .inl (va_cpy (fun j => Int32.ofInt (M b0 j)) (fun j => Int32.ofInt (M b1 j)) sp.toNat dp.toNat w.toNat)) (by
    refine congrArg (fun w => Sum.inl w) ?_
    funext j
    simp only [upr, cpI, va_cpy, if_true]
    split <;> rfl) (fun q hq => upr_ne hq) (fun q hq => rfl)
  rw [e9] at hP1 hD1
  exact kk hn ad H1 locs1 ls had hP1 hD1 hS1 hl
theorem r_iret (h : EK sh y cc nL ret d n0 n1 Q K) {x : Int} (hret : ret = some .int) (hd : decode cc pc = .ok (.ireturn, 1)) (hn1 : n = n1) (hq : Q (some (vi x)) R M) : K n R pc L [vi x] M := by
  obtain ⟨p, l, e, s, m, args, below, meth, c, ad0, sad, D, A, ar, xc, xs, gc, gs, Z, hx, hb, hr, hml, hown, hts, hlk, hnm, hK, hSS, hA, ⟨hgc, hgs, hZ⟩, rfl⟩ := h
  intro hn ad H locs ls had hP hD hS hl
  have htb : ∀ w ∈ TB, w.before args s = true := hts
  subst hn1
  exact W.widen (Nat.add_le_add_left hgc _) (Nat.add_le_add_left hgs _) (W_mono hZ (W.iret hx hb (hr.trans hret) (fun t ht hW => ⟨⟨ad, some (vi x), R, M, rfl, hq, had, by rw [ht]; exact hP, va_K.moved hW.alike hK, hD⟩, hS.F ht⟩) hS.2.2 hd hlk))
theorem r_zret (h : EK sh y cc nL ret d n0 n1 Q K) {x : Int} (hret : ret = some .boolean) (hx01 : x = 0 ∨ x = 1) (hd : decode cc pc = .ok (.ireturn, 1)) (hn1 : n = n1) (hq : Q (some (vi x)) R M) : K n R pc L [vi x] M := by
  obtain ⟨p, l, e, s, m, args, below, meth, c, ad0, sad, D, A, ar, xc, xs, gc, gs, Z, hx, hb, hr, hml, hown, hts, hlk, hnm, hK, hSS, hA, ⟨hgc, hgs, hZ⟩, rfl⟩ := h
  intro hn ad H locs ls had hP hD hS hl
  have htb : ∀ w ∈ TB, w.before args s = true := hts
  subst hn1
  exact W.widen (Nat.add_le_add_left hgc _) (Nat.add_le_add_left hgs _) (W_mono hZ (W.zret hx hb (hr.trans hret) (by rcases hx01 with rfl | rfl <;> rfl) (fun t ht hW => ⟨⟨ad, some (vi x), R, M, rfl, hq, had, by rw [ht]; exact hP, va_K.moved hW.alike hK, hD⟩, hS.F ht⟩) hS.2.2 hd hlk))
theorem r_vret (h : EK sh y cc nL ret d n0 n1 Q K) (hret : ret = none) (hd : decode cc pc = .ok (.return_, 1)) (hn1 : n = n1) (hq : Q none R M) : K n R pc L [] M := by
  obtain ⟨p, l, e, s, m, args, below, meth, c, ad0, sad, D, A, ar, xc, xs, gc, gs, Z, hx, hb, hr, hml, hown, hts, hlk, hnm, hK, hSS, hA, ⟨hgc, hgs, hZ⟩, rfl⟩ := h
  intro hn ad H locs ls had hP hD hS hl
  have htb : ∀ w ∈ TB, w.before args s = true := hts
  subst hn1
  exact W.widen (Nat.add_le_add_left hgc _) (Nat.add_le_add_left hgs _) (W_mono hZ (W.vret hx hb (hr.trans hret) (fun t ht hW => ⟨⟨ad, none, R, M, rfl, hq, had, by rw [ht]; exact hP, va_K.moved hW.alike hK, hD⟩, hS.F ht⟩) hS.2.2 hd hlk))
theorem r_eret (h : EK sh y cc nL ret d n0 n1 Q K) {x : Nat} {st : String} (hret : ret = some (.object st)) (hd : decode cc pc = .ok (.areturn, 1)) (hn1 : n = n1) (hq : Q (some (ve x)) R M) : K n R pc L [ve x] M := by
  obtain ⟨p, l, e, s, m, args, below, meth, c, ad0, sad, D, A, ar, xc, xs, gc, gs, Z, hx, hb, hr, hml, hown, hts, hlk, hnm, hK, hSS, hA, ⟨hgc, hgs, hZ⟩, rfl⟩ := h
  intro hn ad H locs ls had hP hD hS hl
  have htb : ∀ w ∈ TB, w.before args s = true := hts
  subst hn1
  exact W.widen (Nat.add_le_add_left hgc _) (Nat.add_le_add_left hgs _) (W_mono hZ (W.aret hx hb (hr.trans hret) (Or.inl ⟨_, rfl⟩) (Or.inr ⟨_, rfl⟩) (fun t ht hW => ⟨⟨ad, some (ve x), R, M, rfl, hq, had, by rw [ht]; exact hP, va_K.moved hW.alike hK, hD⟩, hS.F ht⟩) hS.2.2 hd hlk))
end ROWS
