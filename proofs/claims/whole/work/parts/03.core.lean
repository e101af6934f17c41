abbrev Mm : Type := Nat → Nat → Int
abbrev Rr : Type := Nat → Nat → Nat
abbrev Sh : Type := Nat → Nat ⊕ (Nat × Nat)
def up1 {α : Type} (f : Nat → α) (k : Nat) (v : α) : Nat → α := fun j => if j = k then v else f j
def upr {α : Type} (f : Nat → Nat → α) (c : Nat) (g : Nat → α) : Nat → Nat → α := fun c' => if c' = c then g else f c'
abbrev rng (x : Int) : Prop := -2147483648 ≤ x ∧ x ≤ 2147483647
def rv (ad : Nat → Nat) (r : Nat) : Value := if r = 0 then .null else .ref (ad r)
def ro (ad : Nat → Nat) (r : Nat) : Option Nat := if r = 0 then none else some (ad r)
def cv (ad sad : Nat → Nat) : AV → Value
  | .inl x => .int (Int32.ofInt x)
  | .inr (.inl x) => .long (Int64.ofInt x)
  | .inr (.inr (.inl r)) => .ref (ad r)
  | .inr (.inr (.inr k)) => .ref (sad k)
def fv (ad sad : Nat → Nat) (R : Rr) (M : Mm) (c k t : Nat) : Value := match t with
  | 1 => .long (Int64.ofInt (M c k))
  | 2 => rv ad (R c k)
  | 3 => rv ad (M c k).toNat
  | 4 => if M c k = 0 then .null else .ref (sad ((M c k).toNat - 1))
  | _ => .int (Int32.ofInt (M c k))
def fl (ad sad : Nat → Nat) (R : Rr) (M : Mm) (c ci : Nat) : List Value := (List.range (kd ci).length).map (fun k => fv ad sad R M c k ((kd ci).getD k 0))
def pay (ad : Nat → Nat) (R : Rr) (M : Mm) (c t : Nat) : (Nat → Int32) ⊕ (Nat → Int64) ⊕ (Nat → UInt32) ⊕ (Nat → UInt64) ⊕ (Nat → Option Nat) := match t with
  | 1 => .inr (.inl (fun j => Int64.ofInt (M c j)))
  | 4 => .inr (.inr (.inr (.inr (fun j => ro ad (R c j)))))
  | 5 => .inr (.inr (.inr (.inr (fun j => ro ad (R c j)))))
  | _ => .inl (fun j => Int32.ofInt (M c j))
def ce (sh : Sh) (ar : Nat → ClassId) (ad sad : Nat → Nat) (R : Rr) (M : Mm) (c : Nat) : va_E := match sh c with
  | .inl ci => .inr (ci, fl ad sad R M c ci)
  | .inr q => .inl (ar q.1, q.2, pay ad R M c q.1)
def wld (sh : Sh) (ar : Nat → ClassId) (ad sad : Nat → Nat) (n : Nat) (R : Rr) (M : Mm) : va_W := (List.range n).map (fun i => (ad (i + 1), ce sh ar ad sad R M (i + 1)))
def csz (sh : Sh) (c : Nat) : Nat := match sh c with
  | .inl ci => (kd ci).length
  | .inr q => q.2
def cum (sh : Sh) : Nat → Nat
  | 0 => 0
  | n + 1 => cum sh n + csz sh (n + 1)
def tysL (ar : Nat → ClassId) : List (ClassId × FieldType) := [(ar 0, .int), (ar 1, .long), (ar 2, .byte), (ar 3, .boolean), (ar 4, .object RX5), (ar 5, .object RX6)]
def rmd (sh : Sh) (d n0 n1 : Nat) : Room := { frames := d, cells := n1 - n0, slots := cum sh n1 - cum sh n0, locals := 64 * d }
def SS (sad : Nat → Nat) (A : Nat → Prop) (U : State) (H : Heap) : Prop :=
  (∀ q ∈ zF, va_Z q.1 q.2.1 q.2.2.1 (cv sad sad q.2.2.2) A U H) ∧ (∀ q ∈ oF, va_OF q.1 q.2.1 q.2.2.1 (cv sad sad q.2.2.2.1) (sad q.2.2.2.2) A U H) ∧ (∀ q ∈ oC, va_O q.1 (sad q.2) A U H) ∧ (∀ q ∈ tF, va_T q.1 (sad q.2.1) q.2.2.1 (fun j => cv sad sad (q.2.2.2 j)) A U H) ∧ (∀ q ∈ sF, vk_R q.1 q.2.1 q.2.2.1 (sad q.2.2.2) U)
theorem SS.warm {sad : Nat → Nat} {A : Nat → Prop} {u U : State} {H : Heap} (hW : u.WarmedH U.vm) (h : SS sad A u H) : SS sad A U H :=
  ⟨fun q hq => va_Z.moved hW.alike (h.1 q hq), fun q hq => va_OF.moved hW.alike (h.2.1 q hq), fun q hq => va_O.moved hW.alike (h.2.2.1 q hq), fun q hq => va_T.moved hW.alike (h.2.2.2.1 q hq), fun q hq => vk_R.warm hW (h.2.2.2.2 q hq)⟩
theorem SS.same {sad : Nat → Nat} {A : Nat → Prop} {u U : State} {H : Heap} (hv : U.vm = u.vm) (h : SS sad A u H) : SS sad A U H := by
  have ha : u.vm.Alike U.vm := by rw [hv]; exact Vm.Alike.refl _
  exact ⟨fun q hq => va_Z.moved ha (h.1 q hq), fun q hq => va_OF.moved ha (h.2.1 q hq), fun q hq => va_O.moved ha (h.2.2.1 q hq), fun q hq => va_T.moved ha (h.2.2.2.1 q hq), fun q hq => vk_R.same hv (h.2.2.2.2 q hq)⟩
theorem SS.kept {sad : Nat → Nat} {A : Nat → Prop} {U : State} {H H1 : Heap} (h : SS sad A U H) (hq : ∀ a : Nat, a < H.size → ¬ A a → H1[a]? = H[a]?) : SS sad A U H1 :=
  ⟨fun q hq' => (h.1 q hq').kept hq, fun q hq' => (h.2.1 q hq').kept hq, fun q hq' => (h.2.2.1 q hq').kept hq, fun q hq' => (h.2.2.2.1 q hq').kept hq, h.2.2.2.2⟩
theorem SS.narrow {sad : Nat → Nat} {A B : Nat → Prop} {U : State} {H : Heap} (h : SS sad A U H) (hAB : ∀ q, B q → A q) : SS sad B U H :=
  ⟨fun q hq' => (h.1 q hq').narrow hAB, fun q hq' => (h.2.1 q hq').narrow hAB, fun q hq' => (h.2.2.1 q hq').narrow hAB, fun q hq' => (h.2.2.2.1 q hq').narrow hAB, h.2.2.2.2⟩
def agr (n0 n : Nat) (ad ad0 : Nat → Nat) : Prop := (∀ c, c ≤ n0 → ad c = ad0 c) ∧ (n = n0 → ad = ad0)
/-- a method's end: what it answers, the world behind it -/
def Qc (sh : Sh) (ar : Nat → ClassId) (ad0 sad : Nat → Nat) (D : va_G) (A : Nat → Prop) (n0 n1 : Nat) (Q : Option AV → Rr → Mm → Prop) : Array Value → State → Outcome → State → Prop := fun _ st oc t =>
  (∃ (ad : Nat → Nat) (r : Option AV) (R : Rr) (M : Mm), oc = .returned (r.map (cv ad sad)) ∧ Q r R M ∧ agr n0 n1 ad ad0 ∧ va_P D vwCl (wld sh ar ad sad n1 R M) t.heap ∧ va_K D vwCl (tysL ar) t ∧ va_D A (wld sh ar ad sad n1 R M)) ∧ va_F A st t
def rmx (sh : Sh) (d n0 n1 xc xs : Nat) : Room := { frames := d, cells := n1 - n0 + xc, slots := cum sh n1 - cum sh n0 + xs, locals := 64 * d }
/-- K is the walk of a method, to the end Z; gc cells and gs slots are thrown away, xc and xs may be -/
def EKc (sh : Sh) (y : MethodName) (cc : ByteArray) (nL : Nat) (ret : Option FieldType) (d n0 n1 : Nat) (Q : Option AV → Rr → Mm → Prop) (p : Program) (l : Launch) (e : Env) (s : State) (m : MethodId) (args : Array Value) (below : List Frame) (meth : Method) (c : Code) (ad0 sad : Nat → Nat) (D : va_G) (A : Nat → Prop) (ar : Nat → ClassId) (xc xs gc gs : Nat) (Z : State → Prop) (K : Nat → Rr → Nat → List (Nat × AV) → List AV → Mm → Prop) : Prop :=
    p.tables.exec = Jvm.exec ∧ c.code = cc ∧ meth.sig.returnType = ret ∧ c.maxLocals = nL ∧ s.vm.findClass y.cls = some m.cls ∧ (∀ w ∈ TB, w.before args s = true) ∧ meth.locks = false ∧ meth.name = y.name ∧ va_K D vwCl (tysL ar) s ∧ SS sad A s s.heap ∧ (∀ q, s.heap.size ≤ q → A q) ∧
    (gc ≤ xc ∧ gs ≤ xs ∧ ∀ t, MQ below (Qc sh ar ad0 sad D A n0 n1 Q) args s (n1 - n0 + xc) (cum sh n1 - cum sh n0 + xs) A t → Z t) ∧
    K = fun n R pc L S M => n0 ≤ n → ∀ (ad : Nat → Nat) (H : Heap) (locs : List Loc) (ls : Array Slot), agr n0 n ad ad0 → va_P D vwCl (wld sh ar ad sad n R M) H → va_D A (wld sh ar ad sad n R M) → va_S A s.heap H locs → lv_has ls nL (L.map (fun q => (q.1, cv ad sad q.2))) →
      W p l e (rmx sh d n0 n1 xc xs) s m args below meth c H locs (n - n0 + gc) (cum sh n - cum sh n0 + gs) Z (F0 m pc ls (S.map (cv ad sad)))
/-- K is the walk of the method y -/
def EK (sh : Sh) (y : MethodName) (cc : ByteArray) (nL : Nat) (ret : Option FieldType) (d n0 n1 : Nat) (Q : Option AV → Rr → Mm → Prop) (K : Nat → Rr → Nat → List (Nat × AV) → List AV → Mm → Prop) : Prop :=
  ∃ (p : Program) (l : Launch) (e : Env) (s : State) (m : MethodId) (args : Array Value) (below : List Frame) (meth : Method) (c : Code) (ad0 sad : Nat → Nat) (D : va_G) (A : Nat → Prop) (ar : Nat → ClassId) (xc xs gc gs : Nat) (Z : State → Prop),
    EKc sh y cc nL ret d n0 n1 Q p l e s m args below meth c ad0 sad D A ar xc xs gc gs Z K
theorem W_mono {p : Program} {l : Launch} {e : Env} {R : Room} {s : State} {m : MethodId} {args : Array Value} {below : List Frame} {meth : Method} {c : Code} {H : Heap} {locs : List Loc} {cells slots : Nat} {Q Q' : State → Prop} {g : JFrame} (h : ∀ t, Q t → Q' t) (k : W p l e R s m args below meth c H locs cells slots Q g) : W p l e R s m args below meth c H locs cells slots Q' g := fun T hT X => by
  obtain ⟨t, a, b⟩ := k T hT X
  exact ⟨t, a, h t b⟩
def MSg (sh : Sh) (y : MethodName) (cc : ByteArray) (nL : Nat) (ret : Option FieldType) (d n0 n1 : Nat) (R : Rr) (as : List AV) (M : Mm) (Q : Option AV → Rr → Mm → Prop) : Prop :=
  ∀ (l : Launch) (ad sad : Nat → Nat) (D : va_G) (ar : Nat → ClassId) (sz : Nat), Met l y (Cond.code y cc nL ret :: TB) (rmd sh d n0 n1)
    (va_Pc (as.map (cv ad sad)) (fun U => U.heap.size = sz ∧ va_P D vwCl (wld sh ar ad sad n0 R M) U.heap ∧ va_K D vwCl (tysL ar) U ∧ va_D (fun _ => True) (wld sh ar ad sad n0 R M) ∧ SS sad (va_A (wld sh ar ad sad n0 R M) sz) U U.heap))
    (Qc sh ar ad sad D (va_A (wld sh ar ad sad n0 R M) sz) n0 n1 Q) (n1 - n0) (cum sh n1 - cum sh n0) (va_A (wld sh ar ad sad n0 R M) sz)
def avargs : Nat → List AV → List (Nat × AV)
  | _, [] => []
  | k, .inr (.inl x) :: l => (k, vl x) :: avargs (k + 2) l
  | k, v :: l => (k, v) :: avargs (k + 1) l
def avlen : List AV → Nat
  | [] => 0
  | .inr (.inl _) :: l => avlen l + 2
  | _ :: l => avlen l + 1
theorem cv_cat (ad sad : Nat → Nat) (v : AV) : (cv ad sad v).category = match v with | .inr (.inl _) => 2 | _ => 1 := by
  rcases v with x | x | r | k <;> rfl

theorem avargs_map (ad sad : Nat → Nat) : ∀ (l : List AV) (k : Nat), lv_args k (l.map (cv ad sad)) = (avargs k l).map (fun q => (q.1, cv ad sad q.2))
  | [], k => rfl
  | v :: l, k => by
    rcases v with x | x | r | j <;> simp [lv_args, avargs, cv, Value.category, avargs_map ad sad l]
theorem avlen_sl (ad sad : Nat → Nat) : ∀ (l : List AV), (lg_sl (l.map (cv ad sad))).length = avlen l
  | [] => rfl
  | v :: l => by
    have ih := avlen_sl ad sad l
    unfold lg_sl at ih ⊢
    rcases v with x | x | r | j <;> simp [avlen, cv, Value.category] at ih ⊢ <;> omega
theorem oI {x : Int} (h : rng x) : (Int32.ofInt x).toInt = x := Int32.toInt_ofInt_of_le (by have := h.1; omega) (by have := h.2; omega)
theorem i32_lt {x z : Int} (hx : rng x) (hz : rng z) : Int32.ofInt x < Int32.ofInt z ↔ x < z := by rw [Int32.lt_iff_toInt_lt, oI hx, oI hz]
theorem i32_le {x z : Int} (hx : rng x) (hz : rng z) : Int32.ofInt x ≤ Int32.ofInt z ↔ x ≤ z := by rw [Int32.le_iff_toInt_le, oI hx, oI hz]
theorem i32_eq {x z : Int} (hx : rng x) (hz : rng z) : Int32.ofInt x = Int32.ofInt z ↔ x = z := by rw [← Int32.toInt_inj, oI hx, oI hz]
abbrev rngL (x : Int) : Prop := -9223372036854775808 ≤ x ∧ x ≤ 9223372036854775807
theorem oL {x : Int} (h : rngL x) : (Int64.ofInt x).toInt = x := Int64.toInt_ofInt_of_le (by have := h.1; omega) (by have := h.2; omega)
theorem i64_lt {x z : Int} (hx : rngL x) (hz : rngL z) : Int64.ofInt x < Int64.ofInt z ↔ x < z := by rw [Int64.lt_iff_toInt_lt, oL hx, oL hz]
theorem i64_eq {x z : Int} (hx : rngL x) (hz : rngL z) : Int64.ofInt x = Int64.ofInt z ↔ x = z := by rw [← Int64.toInt_inj, oL hx, oL hz]
theorem ix_in {x : Int} {n : Nat} (h : 0 ≤ x ∧ x < n) (hn : n < 2147483648) : vp_in (Int32.ofInt x) n := by
  rw [vp_in_iff, oI ⟨by omega, by omega⟩]; exact h
theorem ix_at {x : Int} {n : Nat} (h : 0 ≤ x ∧ x < n) (hn : n < 2147483648) : (Int32.ofInt x).toNatClampNeg = x.toNat := by
  show (Int32.ofInt x).toInt.toNat = x.toNat
  rw [oI ⟨by omega, by omega⟩]
theorem ce_congr {sh : Sh} {ar : Nat → ClassId} {ad ad' sad : Nat → Nat} {R R' : Rr} {M M' : Mm} {c : Nat} (hM : M c = M' c) (hR : R c = R' c) (had : ∀ k, ad (R c k) = ad' (R c k)) (had2 : ∀ ci k, sh c = .inl ci → (kd ci).getD k 0 = 3 → ad (M c k).toNat = ad' (M c k).toNat) : ce sh ar ad sad R M c = ce sh ar ad' sad R' M' c := by
  have e1 : ∀ k, M c k = M' c k := fun k => congrFun hM k
  have e2 : ∀ k, R c k = R' c k := fun k => congrFun hR k
  unfold ce
  split
  · rename_i ci hci
    have e3 : (fun k => fv ad sad R M c k ((kd ci).getD k 0)) = (fun k => fv ad' sad R' M' c k ((kd ci).getD k 0)) := by
      funext k
      have h3 := had2 ci k hci
      generalize (kd ci).getD k 0 = t at h3 ⊢
      unfold fv rv
      split
      · rw [e1 k]
      · rw [had k, e2 k]
      · rw [h3 rfl, e1 k]
      · rw [e1 k]
      · rw [e1 k]
    unfold fl
    rw [e3]
  · have e4 : ∀ k, ad (R' c k) = ad' (R' c k) := fun k => e2 k ▸ had k
    unfold pay ro
    simp only [e1, e2, e4]
theorem wld_len {sh : Sh} {ar : Nat → ClassId} {ad sad : Nat → Nat} {n : Nat} {R : Rr} {M : Mm} : (wld sh ar ad sad n R M).length = n := by simp [wld]
theorem wld_get {sh : Sh} {ar : Nat → ClassId} {ad sad : Nat → Nat} {n : Nat} {R : Rr} {M : Mm} {c : Nat} (h0 : 0 < c) (hn : c ≤ n) : (wld sh ar ad sad n R M)[c - 1]? = some (ad c, ce sh ar ad sad R M c) := by
  have h1 : c - 1 < n := by omega
  have h2 : c - 1 + 1 = c := by omega
  simp [wld, h1, h2]
theorem wld_set {sh : Sh} {ar : Nat → ClassId} {ad sad : Nat → Nat} {n : Nat} {R R' : Rr} {M M' : Mm} {c : Nat} {e : va_E} (h0 : 0 < c) (hn : c ≤ n) (he : ce sh ar ad sad R' M' c = e) (hM : ∀ q, q ≠ c → M q = M' q) (hR : ∀ q, q ≠ c → R q = R' q) : (wld sh ar ad sad n R M).set (c - 1) (ad c, e) = wld sh ar ad sad n R' M' := by
  apply List.ext_getElem?
  intro i
  by_cases hi : i < n
  · have e1 : (wld sh ar ad sad n R M)[i]? = some (ad (i + 1), ce sh ar ad sad R M (i + 1)) := by simp [wld, hi]
    have e2 : (wld sh ar ad sad n R' M')[i]? = some (ad (i + 1), ce sh ar ad sad R' M' (i + 1)) := by simp [wld, hi]
    by_cases hc : i + 1 = c
    · subst hc
      rw [e2, he, show i + 1 - 1 = i by omega, List.getElem?_set_self (by rw [wld_len]; exact hi)]
    · rw [List.getElem?_set_ne (by omega), e1, e2, ce_congr (hM _ hc) (hR _ hc) (fun _ => rfl) (fun _ _ _ _ => rfl)]
  · rw [List.getElem?_eq_none (by simp [wld]; omega), List.getElem?_eq_none (by simp [wld]; omega)]
theorem fl_get {ad sad : Nat → Nat} {R : Rr} {M : Mm} {c ci k t : Nat} (h : (kd ci)[k]? = some t) : (fl ad sad R M c ci)[k]? = some (fv ad sad R M c k t) := by
  have hk : k < (kd ci).length := (List.getElem?_eq_some_iff.mp h).1
  simp [fl, hk, List.getD, h]
  have := List.getElem?_eq_getElem hk
  rw [this] at h
  rw [Option.some.inj h]
theorem fl_len {ad sad : Nat → Nat} {R : Rr} {M : Mm} {c ci : Nat} : (fl ad sad R M c ci).length = (kd ci).length := by simp [fl]
theorem fl_set {ad sad : Nat → Nat} {R R' : Rr} {M M' : Mm} {c ci k t : Nat} {v : Value} (h : (kd ci)[k]? = some t) (hv : fv ad sad R' M' c k t = v) (hM : ∀ j, j ≠ k → M c j = M' c j) (hR : ∀ j, j ≠ k → R c j = R' c j) : (fl ad sad R M c ci).set k v = fl ad sad R' M' c ci := by
  have hk : k < (kd ci).length := (List.getElem?_eq_some_iff.mp h).1
  apply List.ext_getElem?
  intro i
  by_cases hi : i < (kd ci).length
  · have h2 : (kd ci)[i]? = some (kd ci)[i] := List.getElem?_eq_getElem hi
    by_cases hc : i = k
    · subst hc
      rw [List.getElem?_set_self (by rw [fl_len]; exact hk), fl_get h, hv]
    · rw [List.getElem?_set_ne (Ne.symm hc), fl_get h2, fl_get h2]
      unfold fv
      rw [hM i hc, hR i hc]
  · rw [List.getElem?_eq_none (by simp [fl]; omega), List.getElem?_eq_none (by simp [fl]; omega)]
theorem upr_ne {α : Type} {f : Nat → Nat → α} {c q : Nat} {g : Nat → α} (h : q ≠ c) : f q = upr f c g q := by simp [upr, h]
theorem upr_at {α : Type} {f : Nat → Nat → α} {c : Nat} {g : Nat → α} : upr f c g c = g := by simp [upr]
theorem cum_mono {sh : Sh} {a b : Nat} (h : a ≤ b) : cum sh a ≤ cum sh b := by
  induction b with
  | zero => simp at h; subst h; exact Nat.le_refl _
  | succ b ih =>
    by_cases hb : a ≤ b
    · exact Nat.le_trans (ih hb) (Nat.le_add_right _ _)
    · have : a = b + 1 := by omega
      subst this; exact Nat.le_refl _
theorem MSg_of {sh : Sh} {y : MethodName} {cc : ByteArray} {nL : Nat} {ret : Option FieldType} {d n0 n1 : Nat} {R : Rr} {as : List AV} {M : Mm} {Q : Option AV → Rr → Mm → Prop} (hy : plainFor y = true) (hl : avlen as ≤ nL) (h : ∀ K, EK sh y cc nL ret d n0 n1 Q K → K n0 R 0 (avargs 0 as) [] M) : MSg sh y cc nL ret d n0 n1 R as M Q := by
  intro l ad sad D ar sz
  refine va_MetF (cc := cc) (maxL := nL) (ret := ret) hy rfl ?_
  intro p e s m args below meth c s₁ B hml hv
  obtain ⟨rfl, hsz, hP, hK, hD0, hSS⟩ := hv
  subst hsz
  have hts := atoms_spec (ws := Cond.code y cc nL ret :: TB) B.pre
  have hown : s.vm.findClass y.cls = some m.cls := findClass_of_methodNamed B.named
  have hD := hD0.self (sz := s.heap.size)
  have hS : va_S (va_A (wld sh ar ad sad n0 R M) s.heap.size) s.heap s.heap [] := va_S.rf
  have hle := lv_entry (as.map (cv ad sad)) (n := nL) (by rw [avlen_sl]; exact hl)
  rw [avargs_map] at hle
  rw [lg_entry_eq]
  have key := h _ ⟨p, l, e, s, m, _, below, meth, c, ad, sad, D, va_A (wld sh ar ad sad n0 R M) s.heap.size, ar, 0, 0, 0, 0, _, B.exec, B.bytes, B.returns, hml, hown, fun w hw => hts w (List.mem_cons_of_mem _ hw), B.notSynchronized, (name_of_methodNamed B.named B.method).1, hK, hSS, fun q hq => Or.inr hq, ⟨Nat.le_refl _, Nat.le_refl _, fun _ h9 => h9⟩, rfl⟩
  have k2 := key (Nat.le_refl _) ad s.heap [] _ ⟨fun _ _ => rfl, fun _ => rfl⟩ hP hD hS hle
  rw [Nat.sub_self, Nat.sub_self] at k2
  exact k2
