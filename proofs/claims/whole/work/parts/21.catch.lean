/-! a handler whose class may not be resolved yet -/
theorem fh_cold {E : CtlPost} {e : Env} {d : Bool} {acts : List Action} {s : State} {f : JFrame} {a : Addr} {Q : Handler → Pre} {x : ExceptionTableEntry} {t : List ExceptionTableEntry} {c : ClassId} {cell : Cell} {vm' : Vm}
    (hx : covers x f.pc = true) (h0 : x.catchType ≠ 0) (hg : (Jvm.resolveClass f.method.cls x.catchType).Gives e.toSetting s.vm (.ok c) vm') (hsz : vm'.classes.size ≤ s.vm.classes.size) (hcell : s.heap[a]? = some cell) (hobj : ∀ k, cell.vm ≠ .statics k)
    (hk : ∃ k, vm'.classes[cell.cls]? = some k) (hc : ∃ k, vm'.classes[c]? = some k) :
    wp (findHandler.go f a (x :: t)) Q E e d acts s ↔ if vm'.assignable cell.cls c = true then Q (.found x.handlerPc) d acts (s.setVm vm') else wp (findHandler.go f a t) Q E e d acts (s.setVm vm') := by
  simp only [covers] at hx
  obtain ⟨ha, ht⟩ := hg.op (op := VmOp.resolveClass f.method.cls x.catchType) rfl
  cases hfit : vm'.assignable cell.cls c <;>
    simp [findHandler.go, hx, h0, ha, ht, hsz, hcell, hobj, hk, hc, hfit, VmOp.dirties, VmOp.acts]
def xFinds (e : Env) (s : State) (f : JFrame) (a : Addr) (pc : Nat) (vm' : Vm) : Prop :=
  ∀ (Q : Handler → Pre) (E : CtlPost) (d : Bool) (acts : List Action), wp (findHandler f a) Q E e d acts s ↔ Q (.found pc) d acts (s.setVm vm')
theorem stepThrowing_cold {e : Env} {s : State} {a : Addr} {f : JFrame} {r : List Frame} {pc : Nat} {vm' : Vm} (hfind : xFinds e s f a pc vm') :
    (stepThrowing e s a (.java f :: r)).Is ((s.setVm vm').setFrames (.java { f with pc := pc, stack := [.ref a] } :: r)) [] := by
  simp only [stepThrowing, searchFrame, vmDo]
  generalize hr : Sem.go _ e false [] s = res
  obtain ⟨as, rfl, ha⟩ := Sem.eq_ok_of hr (a := Handler.found pc) (s' := s.setVm vm') (acts' := []) (by simp [hfind _ _ _ _])
  exact ⟨rfl, ha⟩
theorem Steps_caughtCold {tb : Tables} {e : Env} {s target : State} {g : JFrame} {c : Code} {below : List Frame} {a : Addr} {vm' : Vm} (h : At s g.method c below) {pc : Nat} (hfind : xFinds e ((s.setTop g).pushFrame (.throwing a)) g a pc vm')
    (hrest : Steps tb e below ((s.setVm vm').setTop { g with pc := pc, stack := [.ref a] }) target) : Steps tb e below ((s.setTop g).pushFrame (.throwing a)) target := by
  obtain ⟨hgo, hw⟩ := h.throwing a
  refine Steps.head hgo hw ?_
  rw [stepThread_throwing (frames_entered h.top _), (stepThrowing_cold (s := (s.setTop g).pushFrame (.throwing a)) hfind).1]
  obtain ⟨g₀, hg⟩ := Option.isSome_iff_exists.mp h.top
  obtain ⟨r, hr⟩ := State.topJava?_eq_some.mp hg
  have hr' : (s.setVm vm').frames = .java g₀ :: r := hr
  rw [State.setTop_of_frames _ hr'] at hrest
  have e1 : (((s.setTop g).pushFrame (.throwing a)).setVm vm').setFrames (.java { g with pc := pc, stack := [.ref a] } :: s.frames.tail) = (s.setVm vm').setFrames (.java { g with pc := pc, stack := [.ref a] } :: r) := by
    rw [hr]
    show (((s.setTop g).pushFrame (.throwing a)).setFrames (.java { g with pc := pc, stack := [.ref a] } :: r)).setVm vm' = _
    rw [State.pushFrame, State.setFrames_setFrames, State.setTop_of_frames _ hr, State.setFrames_setFrames]
    rfl
  rw [e1]
  exact hrest
section XCatch
variable {p : Program} {l : Launch} {e : Env} {R : Room} {s : State} {m : MethodId} {args : Array Value} {below : List Frame} {meth : Method} {c : Code} {T : State} {locs : List Loc} {cells slots : Nat}
/-- the first handler is of the exception's own class -/
theorem xCatch1 (X : Stand p l e R s m args below meth c T locs cells slots) {g : JFrame} (hg : g.method = m) {own C : String} (hown : s.vm.findClass own = some m.cls) {x : ExceptionTableEntry} {t : List ExceptionTableEntry} (ht : c.exceptionTable.toList = x :: t) (hcov : covers x g.pc = true) (h0 : x.catchType ≠ 0)
    (hlink : (Cond.classLink own x.catchType C).before args s = true) (hcast : (Cond.castable C C).before args s = true) {a : Addr} {cell : Cell} (hcell : T.heap[a]? = some cell) (hobj : cell.vm = .none) (hcls : s.vm.findClass C = some cell.cls) :
    ∃ vm', Stand p l e R s m args below meth c (T.setVm vm') locs cells slots ∧ ∀ target, Steps p.tables e below ((T.setVm vm').setTop { g with pc := x.handlerPc, stack := [.ref a] }) target → Steps p.tables e below ((T.setTop g).pushFrame (.throwing a)) target := by
  subst hg
  have hpl : e.platform.magicAccessors = ({} : Platform).magicAccessors := by rw [X.admits.platform]
  obtain ⟨cc, hfcc, hcl⟩ := Cond.classLink_spec hown hlink e.platform hpl
  have hcc : cc = cell.cls := Option.some.inj (hfcc.symm.trans hcls)
  subst hcc
  obtain ⟨hg₁, hwarm₁, hready₁⟩ := State.classEntry (e := e) X.warmed hcl
  obtain ⟨c0, t0, f1, f2, f3⟩ := Cond.castable_spec hcast
  cases hcls.symm.trans f1
  cases hcls.symm.trans f2
  obtain ⟨kC, hkC⟩ := Vm.classAt_of_findClass hcls
  obtain ⟨k1, hk1, -⟩ := hwarm₁.alike.2.2 _ _ hkC
  refine ⟨_, X.noted hwarm₁, fun target hrest => Steps_caughtCold X.here (fun Q E d acts => ?_) hrest⟩
  rw [W.findHandler_eq (meth := meth) (code := c) (by rw [throwing_vm]; exact X.method') X.code, ht, fh_cold (cell := cell) hcov h0 (by rw [throwing_vm]; exact hg₁) (by rw [throwing_vm]; no_record) (by rw [throwing_heap]; exact hcell) (fun k h => by rw [hobj] at h; cases h) ⟨k1, hk1⟩ ⟨k1, hk1⟩, if_pos (by rw [hwarm₁.alike.assignable]; exact f3)]
/-- the first handler is of another class, the second of the exception's own -/
theorem xCatch2 (X : Stand p l e R s m args below meth c T locs cells slots) {g : JFrame} (hg : g.method = m) {own C C1 : String} (hown : s.vm.findClass own = some m.cls) {x1 x : ExceptionTableEntry} {t : List ExceptionTableEntry} (ht : c.exceptionTable.toList = x1 :: x :: t) (hcov1 : covers x1 g.pc = true) (h01 : x1.catchType ≠ 0) (hcov : covers x g.pc = true) (h0 : x.catchType ≠ 0)
    (hlink1 : (Cond.classLink own x1.catchType C1).before args s = true) (hnc : va_Nc C C1 s) (hlink : (Cond.classLink own x.catchType C).before args s = true) (hcast : (Cond.castable C C).before args s = true) {a : Addr} {cell : Cell} (hcell : T.heap[a]? = some cell) (hobj : cell.vm = .none) (hcls : s.vm.findClass C = some cell.cls) :
    ∃ vm', Stand p l e R s m args below meth c (T.setVm vm') locs cells slots ∧ ∀ target, Steps p.tables e below ((T.setVm vm').setTop { g with pc := x.handlerPc, stack := [.ref a] }) target → Steps p.tables e below ((T.setTop g).pushFrame (.throwing a)) target := by
  subst hg
  have hpl : e.platform.magicAccessors = ({} : Platform).magicAccessors := by rw [X.admits.platform]
  obtain ⟨cc1, hfcc1, hcl1⟩ := Cond.classLink_spec hown hlink1 e.platform hpl
  obtain ⟨cc, hfcc, hcl⟩ := Cond.classLink_spec hown hlink e.platform hpl
  have hcc : cc = cell.cls := Option.some.inj (hfcc.symm.trans hcls)
  subst hcc
  obtain ⟨hg₁, hwarm₁, hready₁⟩ := State.classEntry (e := e) X.warmed hcl1
  have X₁ := X.noted hwarm₁
  obtain ⟨hg₂, hwarm₂, hready₂⟩ := State.classEntry (e := e) X₁.warmed hcl
  obtain ⟨c0, t0, f1, f2, f3⟩ := Cond.castable_spec hcast
  cases hcls.symm.trans f1
  cases hcls.symm.trans f2
  obtain ⟨c5, t5, n1, n2, n3⟩ := hnc
  cases hcls.symm.trans n1
  have ht5 : t5 = cc1 := Option.some.inj (n2.symm.trans hfcc1)
  subst ht5
  obtain ⟨kC, hkC⟩ := Vm.classAt_of_findClass hcls
  obtain ⟨kD, hkD⟩ := Vm.classAt_of_findClass n2
  obtain ⟨k1, hk1, -⟩ := hwarm₁.alike.2.2 _ _ hkC
  obtain ⟨k1', hk1', -⟩ := hwarm₁.alike.2.2 _ _ hkD
  obtain ⟨k2, hk2, -⟩ := hwarm₂.alike.2.2 _ _ hkC
  refine ⟨_, X.noted hwarm₂, fun target hrest => Steps_caughtCold X.here (fun Q E d acts => ?_) hrest⟩
  rw [W.findHandler_eq (meth := meth) (code := c) (by rw [throwing_vm]; exact X.method') X.code, ht, fh_cold (cell := cell) hcov1 h01 (by rw [throwing_vm]; exact hg₁) (by rw [throwing_vm]; no_record) (by rw [throwing_heap]; exact hcell) (fun k h => by rw [hobj] at h; cases h) ⟨k1, hk1⟩ ⟨k1', hk1'⟩, if_neg (by rw [hwarm₁.alike.assignable, n3]; decide),
    fh_cold (s := ((T.setTop g).pushFrame (.throwing a)).setVm (T.vm.noted g.method.cls x1.catchType (.cls t5))) (cell := cell) hcov h0 hg₂ (by show _ ≤ (T.vm.noted _ _ _).classes.size; no_record) (by show ((T.setTop g).pushFrame (.throwing a)).heap[a]? = _; rw [throwing_heap]; exact hcell) (fun k h => by rw [hobj] at h; cases h) ⟨k2, hk2⟩ ⟨k2, hk2⟩, if_pos (by rw [hwarm₂.alike.assignable]; exact f3)]
  rfl
end XCatch
