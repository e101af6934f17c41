/-! an exception that came out of a call, caught by the one row of this method's table: her class may be looked up there for the first time -/
section THC
variable {p : Program} {l : Launch} {e : Env} {R : Room} {s : State} {m : MethodId} {args : Array Value} {below : List Frame} {meth : Method} {c : Code} {locs : List Loc} {cells slots : Nat}
/-- the search through a table of one row -/
theorem th_search {T : State} {f : JFrame} {q : Addr} {x : ExceptionTableEntry} {cls : ClassId} {ce : Cell} (hm : T.vm.method? f.method = some meth) (hc : meth.code = some c) (htab : c.exceptionTable.toList = [x]) (hx : covers x f.pc = true) (h0 : x.catchType ≠ 0)
    (hl : T.vm.ClassLinks e.platform f.method.cls x.catchType cls) (hcell : T.heap[q]? = some ce) (hv : ce.vm = .none) (hk1 : ∃ k, T.vm.classes[ce.cls]? = some k) (hk2 : ∃ k, T.vm.classes[cls]? = some k) (hfit : T.vm.assignable ce.cls cls = true)
    (Q : Handler → Pre) (E : CtlPost) (d : Bool) (acts : List Action) : wp (findHandler f q) Q E e d acts T ↔ Q (.found x.handlerPc) d acts (T.setVm (T.vm.noted f.method.cls x.catchType (.cls cls))) := by
  have hal : T.vm.Alike (T.vm.noted f.method.cls x.catchType (.cls cls)) := (Vm.Alike.refl T.vm).noted _ _ _
  obtain ⟨r1, r2⟩ := (resolveClass_links e.toSetting hl).op (op := VmOp.resolveClass f.method.cls x.catchType) rfl
  obtain ⟨k1, g1⟩ := hk1
  obtain ⟨k2, g2⟩ := hk2
  obtain ⟨k1', g1', -⟩ := hal.2.2 _ _ g1
  obtain ⟨k2', g2', -⟩ := hal.2.2 _ _ g2
  have hobj : ∀ k, ce.vm ≠ .statics k := fun k z => by rw [hv] at z; cases z
  have hf2 : (T.vm.noted f.method.cls x.catchType (.cls cls)).assignable ce.cls cls = true := by rw [hal.assignable]; exact hfit
  have hx2 : (decide (x.startPc ≤ f.pc) && decide (f.pc < x.endPc)) = true := hx
  rw [W.findHandler_eq hm hc, htab]
  simp [findHandler.go, hx2, h0, r1, r2, hcell, hobj, g1', g2', hf2, VmOp.dirties, VmOp.acts]
theorem th_step {T : State} {f : JFrame} {q : Addr} {r : List Frame} {pc : Nat} {vm' : Vm} (h : ∀ (Q : Handler → Pre) (E : CtlPost) (d : Bool) (acts : List Action), wp (findHandler f q) Q E e d acts T ↔ Q (.found pc) d acts (T.setVm vm')) :
    (stepThrowing e T q (.java f :: r)).Is ((T.setVm vm').setFrames (.java { f with pc := pc, stack := [.ref q] } :: r)) [] := by
  simp only [stepThrowing, searchFrame, vmDo]
  generalize hr : Sem.go _ e false [] T = res
  obtain ⟨as, rfl, ha⟩ := Sem.eq_ok_of hr (a := Handler.found pc) (s' := T.setVm vm') (acts' := []) (by simp [h _ _ _ _])
  exact ⟨rfl, ha⟩
theorem th_caught {T : State} (X : Stand p l e R s m args below meth c T locs cells slots) {g : JFrame} (hg : g.method = m) {q : Addr} {x : ExceptionTableEntry} {own name E : String} {ce : Cell} (htab : c.exceptionTable.toList = [x]) (hx : covers x g.pc = true) (h0 : x.catchType ≠ 0)
    (hown : s.vm.findClass own = some m.cls) (hlink : (Cond.classLink own x.catchType name).before args s = true) (hcast : (Cond.castable E name).before args s = true) (hcell : T.heap[q]? = some ce) (hv : ce.vm = .none) (hcl : s.vm.findClass E = some ce.cls) :
    ∃ vm', Stand p l e R s m args below meth c (T.setVm vm') locs cells slots ∧ ∀ target, Steps p.tables e below ((T.setVm vm').setTop { g with pc := x.handlerPc, stack := [.ref q] }) target → Steps p.tables e below ((T.setTop g).pushFrame (.throwing q)) target := by
  subst hg
  have hpl : e.platform.magicAccessors = ({} : Platform).magicAccessors := by rw [X.admits.platform]
  obtain ⟨c3, c4, hc3, hc4, hasg⟩ := Cond.castable_spec hcast
  cases Option.some.inj (hc3.symm.trans hcl)
  obtain ⟨c5, hc5, hcl5⟩ := Cond.classLink_spec hown hlink e.platform hpl
  cases Option.some.inj (hc4.symm.trans hc5)
  obtain ⟨dk, _, _, kt, hd, _, _, _, _, hkt, _, hopen⟩ := hcl5.here
  obtain ⟨k9, h9, -⟩ := Vm.findClass_spec hcl
  obtain ⟨k9', h9', -⟩ := X.warmed.alike.2.2 _ _ h9
  obtain ⟨kt', hkt', -⟩ := X.warmed.alike.2.2 _ _ hkt
  have hvm : ((T.setTop g).pushFrame (.throwing q)).vm = T.vm := Stand.throwing_vm T g q
  have hhp : ((T.setTop g).pushFrame (.throwing q)).heap = T.heap := Stand.throwing_heap T g q
  have hW := X.warmed.noted hd hopen (State.rightAt_cls hcl5)
  refine ⟨_, X.noted hW, fun target hrest => ?_⟩
  have hf := th_search (e := e) (T := (T.setTop g).pushFrame (.throwing q)) (f := g) (q := q) (meth := meth) (c := c) (by rw [hvm]; exact X.method') X.code htab hx h0 (by rw [hvm]; exact X.warmed.classLinks hcl5) (by rw [hhp]; exact hcell) hv ⟨k9', by rw [hvm]; exact h9'⟩ ⟨kt', by rw [hvm]; exact hkt'⟩ (by rw [hvm, X.warmed.alike.assignable]; exact hasg)
  rw [hvm] at hf
  obtain ⟨hgo, hw⟩ := X.here.throwing q
  refine Steps.head hgo hw ?_
  rw [stepThread_throwing (frames_entered X.here.top _), (th_step hf).1]
  obtain ⟨g₀, hg₀⟩ := Option.isSome_iff_exists.mp X.here.top
  obtain ⟨r, hr⟩ := State.topJava?_eq_some.mp hg₀
  have hsw : ∀ (u : State) (vm' : Vm) (F G : List Frame), ((u.setFrames F).setVm vm').setFrames G = (u.setVm vm').setFrames G := fun u vm' F G => by
    rw [show (u.setFrames F).setVm vm' = (u.setVm vm').setFrames F from rfl, State.setFrames_setFrames]
  have hr2 : (T.setVm (T.vm.noted g.method.cls x.catchType (.cls c4))).frames = .java g₀ :: r := hr
  rw [State.setTop_of_frames _ hr2] at hrest
  rw [hr, List.tail_cons, State.pushFrame, hsw, State.setTop_of_frames _ hr, hsw]
  exact hrest
theorem th_catch {H : Heap} {Q : State → Prop} {pc : Nat} {ls : Array Slot} {rest : List Value} {own name E : String} {ce : Cell} {q : Addr} (hown : s.vm.findClass own = some m.cls) (x : ExceptionTableEntry) (htab : c.exceptionTable.toList = [x]) (hx : covers x pc = true) (h0 : x.catchType ≠ 0)
    (hlink : (Cond.classLink own x.catchType name).before args s = true) (hcast : (Cond.castable E name).before args s = true) (hcell : H[q]? = some ce) (hv : ce.vm = .none) (hcl : s.vm.findClass E = some ce.cls)
    (kk : W p l e R s m args below meth c H locs cells slots Q (F0 m x.handlerPc ls [.ref q])) : vx_W p l e R s m args below meth c H locs cells slots Q (F0 m pc ls rest) q := by
  intro T hT X
  obtain ⟨vm', X', st⟩ := th_caught X (g := F0 m pc ls rest) rfl htab hx h0 hown hlink hcast (by rw [hT]; exact hcell) hv hcl
  obtain ⟨t, a1, b1⟩ := kk (T.setVm vm') hT X'
  exact ⟨t, st t a1, b1⟩
end THC
