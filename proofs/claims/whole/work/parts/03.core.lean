abbrev Mm : Type := Nat → Nat → Int
abbrev Rr : Type := Nat → Nat → Nat
abbrev Sh : Type := Nat → Nat ⊕ (Nat × Nat)
def up1 {α : Type} (f : Nat → α) (k : Nat) (v : α) : Nat → α := fun j => if j = k then v else f j
def upr {α : Type} (f : Nat → Nat → α) (c : Nat) (g : Nat → α) : Nat → Nat → α := fun c' => if c' = c then g else f c'
abbrev rng (x : Int) : Prop := -2147483648 ≤ x ∧ x ≤ 2147483647
def rv (ad : Nat → Nat) (r : Nat) : Value := if r = 0 then .null else .ref (ad r)
def ro (ad : Nat → Nat) (r : Nat) : Option Nat := if r = 0 then none else some (ad r)
def cv (ad sad : Nat → Nat) : AV → Value
  | .inl x => .int (Int32.ofInt x)
  | .inr (.inl x) => .long (Int64.ofInt x)
  | .inr (.inr (.inl r)) => rv ad r
  | .inr (.inr (.inr k)) => .ref (sad k)
def fv (ad sad : Nat → Nat) (R : Rr) (M : Mm) (c k t : Nat) : Value := match t with
  | 1 => .long (Int64.ofInt (M c k))
  | 2 => rv ad (R c k)
  | 3 => rv ad (M c k).toNat
  | 4 => if M c k = 0 then .null else .ref (sad ((M c k).toNat - 1))
  | _ => .int (Int32.ofInt (M c k))
def fl (ad sad : Nat → Nat) (R : Rr) (M : Mm) (c ci : Nat) : List Value := (List.range (kd ci).length).map (fun k => fv ad sad R M c k ((kd ci).getD k 0))
def pay (ad : Nat → Nat) (R : Rr) (M : Mm) (c t : Nat) : (Nat → Int32) ⊕ (Nat → Int64) ⊕ (Nat → UInt32) ⊕ (Nat → UInt64) ⊕ (Nat → Option Nat) := match t with
  | 1 => .inr (.inl (fun j => Int64.ofInt (M c j)))
  | 4 => .inr (.inr (.inr (.inr (fun j => ro ad (R c j)))))
  | 5 => .inr (.inr (.inr (.inr (fun j => ro ad (R c j)))))
  | _ => .inl (fun j => Int32.ofInt (M c j))
def ce (sh : Sh) (ar : Nat → ClassId) (ad sad : Nat → Nat) (R : Rr) (M : Mm) (c : Nat) : va_E := match sh c with
  | .inl ci => .inr (ci, fl ad sad R M c ci)
  | .inr q => .inl (ar q.1, q.2, pay ad R M c q.1)
def wld (sh : Sh) (ar : Nat → ClassId) (ad sad : Nat → Nat) (n : Nat) (R : Rr) (M : Mm) : va_W := (List.range n).map (fun i => (ad (i + 1), ce sh ar ad sad R M (i + 1)))
def csz (sh : Sh) (c : Nat) : Nat := match sh c with
  | .inl ci => (kd ci).length
  | .inr q => q.2
def cum (sh : Sh) : Nat → Nat
  | 0 => 0
  | n + 1 => cum sh n + csz sh (n + 1)
def tysL (ar : Nat → ClassId) : List (ClassId × FieldType) := [(ar 0, .int), (ar 1, .long), (ar 2, .byte), (ar 3, .boolean), (ar 4, .object RX5), (ar 5, .object RX6)]
def rmd (sh : Sh) (d n0 n1 : Nat) : Room := { frames := d, cells := n1 - n0, slots := cum sh n1 - cum sh n0, locals := 64 * d }
def SS (sad : Nat → Nat) (A : Nat → Prop) (U : State) (H : Heap) : Prop :=
  (∀ q ∈ zF, va_Z q.1 q.2.1 q.2.2.1 (cv sad sad q.2.2.2) A U H) ∧ (∀ q ∈ oF, va_OF q.1 q.2.1 q.2.2.1 (cv sad sad q.2.2.2.1) (sad q.2.2.2.2) A U H) ∧ (∀ q ∈ oC, va_O q.1 (sad q.2) A U H) ∧ (∀ q ∈ tF, va_T q.1 (sad q.2.1) q.2.2.1 (fun j => cv sad sad (q.2.2.2 j)) A U H) ∧ (∀ q ∈ sF, vk_R q.1 q.2.1 q.2.2.1 (sad q.2.2.2) U)
theorem SS.warm {sad : Nat → Nat} {A : Nat → Prop} {u U : State} {H : Heap} (hW : u.WarmedH U.vm) (h : SS sad A u H) : SS sad A U H :=
  ⟨fun q hq => va_Z.moved hW.alike (h.1 q hq), fun q hq => va_OF.moved hW.alike (h.2.1 q hq), fun q hq => va_O.moved hW.alike (h.2.2.1 q hq), fun q hq => va_T.moved hW.alike (h.2.2.2.1 q hq), fun q hq => vk_R.warm hW (h.2.2.2.2 q hq)⟩
theorem SS.same {sad : Nat → Nat} {A : Nat → Prop} {u U : State} {H : Heap} (hv : U.vm = u.vm) (h : SS sad A u H) : SS sad A U H := by
  have ha : u.vm.Alike U.vm := by rw [hv]; exact Vm.Alike.refl _
  exact ⟨fun q hq => va_Z.moved ha (h.1 q hq), fun q hq => va_OF.moved ha (h.2.1 q hq), fun q hq => va_O.moved ha (h.2.2.1 q hq), fun q hq => va_T.moved ha (h.2.2.2.1 q hq), fun q hq => vk_R.same hv (h.2.2.2.2 q hq)⟩
theorem SS.kept {sad : Nat → Nat} {A : Nat → Prop} {U : State} {H H1 : Heap} (h : SS sad A U H) (hq : ∀ a : Nat, a < H.size → ¬ A a → H1[a]? = H[a]?) : SS sad A U H1 :=
  ⟨fun q hq' => (h.1 q hq').kept hq, fun q hq' => (h.2.1 q hq').kept hq, fun q hq' => (h.2.2.1 q hq').kept hq, fun q hq' => (h.2.2.2.1 q hq').kept hq, h.2.2.2.2⟩
theorem SS.narrow {sad : Nat → Nat} {A B : Nat → Prop} {U : State} {H : Heap} (h : SS sad A U H) (hAB : ∀ q, B q → A q) : SS sad B U H :=
  ⟨fun q hq' => (h.1 q hq').narrow hAB, fun q hq' => (h.2.1 q hq').narrow hAB, fun q hq' => (h.2.2.1 q hq').narrow hAB, fun q hq' => (h.2.2.2.1 q hq').narrow hAB, h.2.2.2.2⟩
/-- a method's end: what it answers, the world behind it -/
def Qc (sh : Sh) (ar : Nat → ClassId) (ad0 sad : Nat → Nat) (D : va_G) (A : Nat → Prop) (n0 n1 : Nat) (Q : Option AV → Rr → Mm → Prop) : Array Value → State → Outcome → State → Prop := fun _ st oc t =>
  (∃ (ad : Nat → Nat) (r : Option AV) (R : Rr) (M : Mm), oc = .returned (r.map (cv ad sad)) ∧ Q r R M ∧ (∀ c, c ≤ n0 → ad c = ad0 c) ∧ va_P D vwCl (wld sh ar ad sad n1 R M) t.heap ∧ va_K D vwCl (tysL ar) t ∧ va_D A (wld sh ar ad sad n1 R M)) ∧ va_F A st t
/-- K is the walk of the method y -/
def EK (sh : Sh) (y : MethodName) (cc : ByteArray) (nL : Nat) (ret : Option FieldType) (d n0 n1 : Nat) (Q : Option AV → Rr → Mm → Prop) (K : Nat → Rr → Nat → List (Nat × AV) → List AV → Mm → Prop) : Prop :=
  ∃ (p : Program) (l : Launch) (e : Env) (s : State) (m : MethodId) (args : Array Value) (below : List Frame) (meth : Method) (c : Code) (ad0 sad : Nat → Nat) (D : va_G) (A : Nat → Prop) (ar : Nat → ClassId),
    p.tables.exec = Jvm.exec ∧ c.code = cc ∧ meth.sig.returnType = ret ∧ c.maxLocals = nL ∧ s.vm.findClass y.cls = some m.cls ∧ (∀ w ∈ Cond.code y cc nL ret :: TB, w.before args s = true) ∧ meth.locks = false ∧ meth.name = y.name ∧ va_K D vwCl (tysL ar) s ∧ SS sad A s s.heap ∧ (∀ q, s.heap.size ≤ q → A q) ∧
    K = fun n R pc L S M => n0 ≤ n → ∀ (ad : Nat → Nat) (H : Heap) (locs : List Loc) (ls : Array Slot), (∀ c, c ≤ n0 → ad c = ad0 c) → va_P D vwCl (wld sh ar ad sad n R M) H → va_D A (wld sh ar ad sad n R M) → va_S A s.heap H locs → lv_has ls nL (L.map (fun q => (q.1, cv ad sad q.2))) →
      W p l e (rmd sh d n0 n1) s m args below meth c H locs (n - n0) (cum sh n - cum sh n0) (MQ below (Qc sh ar ad0 sad D A n0 n1 Q) args s (n1 - n0) (cum sh n1 - cum sh n0) A) (F0 m pc ls (S.map (cv ad sad)))
def MSg (sh : Sh) (y : MethodName) (cc : ByteArray) (nL : Nat) (ret : Option FieldType) (d n0 n1 : Nat) (R : Rr) (as : List AV) (M : Mm) (Q : Option AV → Rr → Mm → Prop) : Prop :=
  ∀ (l : Launch) (ad sad : Nat → Nat) (D : va_G) (ar : Nat → ClassId) (sz : Nat), Met l y (Cond.code y cc nL ret :: TB) (rmd sh d n0 n1)
    (va_Pc (as.map (cv ad sad)) (fun U => U.heap.size = sz ∧ va_P D vwCl (wld sh ar ad sad n0 R M) U.heap ∧ va_K D vwCl (tysL ar) U ∧ va_D (fun _ => True) (wld sh ar ad sad n0 R M) ∧ SS sad (va_A (wld sh ar ad sad n0 R M) sz) U U.heap))
    (Qc sh ar ad sad D (va_A (wld sh ar ad sad n0 R M) sz) n0 n1 Q) (n1 - n0) (cum sh n1 - cum sh n0) (va_A (wld sh ar ad sad n0 R M) sz)
def avargs : Nat → List AV → List (Nat × AV)
  | _, [] => []
  | k, .inr (.inl x) :: l => (k, vl x) :: avargs (k + 2) l
  | k, v :: l => (k, v) :: avargs (k + 1) l
def avlen : List AV → Nat
  | [] => 0
  | .inr (.inl _) :: l => avlen l + 2
  | _ :: l => avlen l + 1
theorem cv_cat (ad sad : Nat → Nat) (v : AV) : (cv ad sad v).category = match v with | .inr (.inl _) => 2 | _ => 1 := by
  rcases v with x | x | r | k
  · rfl
  · rfl
  · show (rv ad r).category = 1
    unfold rv
    split <;> rfl
  · rfl
