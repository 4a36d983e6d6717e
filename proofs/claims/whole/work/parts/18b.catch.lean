/-! HANDLERS (own text): a row of the table is passed, or takes the exception; its class may be linked there for the first time -/
def j_fnd (e : Env) (s : State) (f : JFrame) (a : Addr) (pc : Nat) (vm' : Vm) : Prop :=
  ∀ (Q : Handler → Pre) (E : CtlPost) (d : Bool) (acts : List Action), wp (findHandler f a) Q E e d acts s ↔ Q (.found pc) d acts (s.setVm vm')
theorem j_go_row {Q : Handler → Pre} {E : CtlPost} {e : Env} {d : Bool} {acts : List Action} {s : State} {f : JFrame} {a : Addr} {x : ExceptionTableEntry} {t : List ExceptionTableEntry} {c : ClassId} {cell : Cell} (hx : covers x f.pc = true) (h0 : x.catchType ≠ 0)
    (hl : s.vm.ClassLinks e.platform f.method.cls x.catchType c) (hcell : s.heap[a]? = some cell) (hobj : ∀ k, cell.vm ≠ .statics k) (hk : ∃ k, s.vm.classes[cell.cls]? = some k) (hc : ∃ k, s.vm.classes[c]? = some k) :
    wp (findHandler.go f a (x :: t)) Q E e d acts s ↔ if s.vm.assignable cell.cls c = true then Q (.found x.handlerPc) d acts (s.setVm (s.vm.noted f.method.cls x.catchType (.cls c))) else wp (findHandler.go f a t) Q E e d acts (s.setVm (s.vm.noted f.method.cls x.catchType (.cls c))) := by
  simp only [covers] at hx
  obtain ⟨g1, g2⟩ := (resolveClass_links e.toSetting hl).op (op := VmOp.resolveClass f.method.cls x.catchType) rfl
  have al : s.vm.Alike (s.vm.noted f.method.cls x.catchType (.cls c)) := (Vm.Alike.refl s.vm).noted _ _ _
  obtain ⟨k1, hk1⟩ := hk
  obtain ⟨k2, hk2⟩ := hc
  obtain ⟨k3, hk3, -⟩ := al.2.2 _ _ hk1
  obtain ⟨k4, hk4, -⟩ := al.2.2 _ _ hk2
  have ha := al.assignable
  cases hfit : s.vm.assignable cell.cls c <;>
    simp [findHandler.go, hx, h0, g1, g2, hcell, hobj, hk3, hk4, ha, hfit, VmOp.dirties, VmOp.acts]
theorem j_step_catch {e : Env} {s : State} {a : Addr} {f : JFrame} {r : List Frame} {pc : Nat} {vm' : Vm} (hfind : j_fnd e s f a pc vm') :
    (stepThrowing e s a (.java f :: r)).Is ((s.setVm vm').setFrames (.java { f with pc := pc, stack := [.ref a] } :: r)) [] := by
  simp only [stepThrowing, searchFrame, vmDo]
  generalize hr : Sem.go _ e false [] s = res
  obtain ⟨as, rfl, ha⟩ := Sem.eq_ok_of hr (a := Handler.found pc) (s' := s.setVm vm') (acts' := []) (by simp [hfind _ _ _ _])
  exact ⟨rfl, ha⟩
theorem j_caught {tb : Tables} {e : Env} {s target : State} {g : JFrame} {c : Code} {below : List Frame} {a : Addr} (h : At s g.method c below) {pc : Nat} {vm' : Vm} (hfind : j_fnd e ((s.setTop g).pushFrame (.throwing a)) g a pc vm')
    (hrest : Steps tb e below ((s.setVm vm').setTop { g with pc := pc, stack := [.ref a] }) target) : Steps tb e below ((s.setTop g).pushFrame (.throwing a)) target := by
  obtain ⟨hgo, hw⟩ := h.throwing a
  refine Steps.head hgo hw ?_
  rw [stepThread_throwing (frames_entered h.top _), (j_step_catch (s := (s.setTop g).pushFrame (.throwing a)) hfind).1]
  obtain ⟨g₀, hg⟩ := Option.isSome_iff_exists.mp h.top
  obtain ⟨r, hr⟩ := State.topJava?_eq_some.mp hg
  have hr' : (s.setVm vm').frames = .java g₀ :: r := hr
  rw [State.setTop_of_frames _ hr'] at hrest
  rw [State.pushFrame, State.setTop_of_frames _ hr]
  have e1 : ((((s.setFrames (.java g :: r)).setFrames (.throwing a :: (s.setFrames (.java g :: r)).frames)).setVm vm').setFrames (.java { g with pc := pc, stack := [.ref a] } :: s.frames.tail)) = (s.setVm vm').setFrames (.java { g with pc := pc, stack := [.ref a] } :: r) := by
    show (((s.setVm vm').setFrames _).setFrames _).setFrames _ = _
    rw [State.setFrames_setFrames, State.setFrames_setFrames, hr]
    rfl
  rw [e1]
  exact hrest
/-- the search through the rows: those that are passed (not over the pc, or of another class), then the one that takes it -/
def j_pss (pl : Platform) (s₀ : State) (d : ClassId) (pc : Nat) (thrown : ClassId) (y : ExceptionTableEntry) : Prop := covers y pc = false ∨ (y.catchType ≠ 0 ∧ ∃ c, s₀.vm.ClassLinks pl d y.catchType c ∧ s₀.vm.assignable thrown c = false)
theorem j_search {e : Env} {s₀ : State} {f : JFrame} {a : Addr} {cell : Cell} (hobj : ∀ k, cell.vm ≠ .statics k) (hk0 : ∃ k, s₀.vm.classes[cell.cls]? = some k) (x : ExceptionTableEntry) (rest : List ExceptionTableEntry) (hx : covers x f.pc = true) (h0 : x.catchType ≠ 0) {c : ClassId} (hl : s₀.vm.ClassLinks e.platform f.method.cls x.catchType c) (hfit : s₀.vm.assignable cell.cls c = true) :
    ∀ (pre : List ExceptionTableEntry) (S : State), s₀.WarmedH S.vm → S.heap[a]? = some cell → (∀ y ∈ pre, j_pss e.platform s₀ f.method.cls f.pc cell.cls y) →
      ∃ vm', s₀.WarmedH vm' ∧ ∀ (Q : Handler → Pre) (E : CtlPost) (d : Bool) (acts : List Action), wp (findHandler.go f a (pre ++ x :: rest)) Q E e d acts S ↔ Q (.found x.handlerPc) d acts (S.setVm vm') := by
  obtain ⟨k0, hk0⟩ := hk0
  have row : ∀ (S : State) (y : ExceptionTableEntry) (c : ClassId), s₀.WarmedH S.vm → s₀.vm.ClassLinks e.platform f.method.cls y.catchType c → s₀.WarmedH (S.vm.noted f.method.cls y.catchType (.cls c)) ∧ S.vm.ClassLinks e.platform f.method.cls y.catchType c ∧ (∃ k, S.vm.classes[cell.cls]? = some k) ∧ (∃ k, S.vm.classes[c]? = some k) ∧ S.vm.assignable cell.cls c = s₀.vm.assignable cell.cls c := by
    intro S y c hW hl
    obtain ⟨dk, _, _, kt, hd, _, _, _, _, hkt, _, hopen⟩ := hl.here
    obtain ⟨k1, hk1, -⟩ := hW.alike.2.2 _ _ hk0
    obtain ⟨k2, hk2, -⟩ := hW.alike.2.2 _ _ hkt
    exact ⟨hW.noted hd hopen (State.rightAt_cls hl), hW.classLinks hl, ⟨k1, hk1⟩, ⟨k2, hk2⟩, by rw [hW.alike.assignable]⟩
  intro pre
  induction pre with
  | nil =>
    intro S hW hcell _
    obtain ⟨r1, r2, r3, r4, r5⟩ := row S x c hW hl
    exact ⟨_, r1, fun Q E d acts => by rw [List.nil_append, j_go_row hx h0 r2 hcell hobj r3 r4, r5, if_pos hfit]⟩
  | cons y ys ih =>
    intro S hW hcell hpass
    have hrest : ∀ z ∈ ys, j_pss e.platform s₀ f.method.cls f.pc cell.cls z := fun z hz => hpass z (List.mem_cons_of_mem _ hz)
    cases hcov : covers y f.pc with
    | false =>
      obtain ⟨vm', w1, w2⟩ := ih S hW hcell hrest
      exact ⟨vm', w1, fun Q E d acts => by rw [List.cons_append, W.findHandler_go_skip hcov]; exact w2 Q E d acts⟩
    | true =>
      rcases hpass y List.mem_cons_self with h | ⟨h1, c', hl', hno⟩
      · rw [h] at hcov; cases hcov
      · obtain ⟨r1, r2, r3, r4, r5⟩ := row S y c' hW hl'
        obtain ⟨vm', w1, w2⟩ := ih (S.setVm (S.vm.noted f.method.cls y.catchType (.cls c'))) r1 hcell hrest
        exact ⟨vm', w1, fun Q E d acts => by
          rw [List.cons_append, j_go_row hcov h1 r2 hcell hobj r3 r4, r5, if_neg (by rw [hno]; decide)]
          exact w2 Q E d acts⟩
/-- a handler out of the words: the rows ahead of it (pc range, where to, the class that the entry names), then its own -/
theorem r_catch {G : j_G} {i : j_I} {pc cn h : Nat} {pre suf : List (Nat × Nat × Nat × Nat)} {y : Nat × Nat × Nat × Nat} (hsplit : i.2.2.2.2.2 = pre ++ y :: suf) (hin : (decide (y.1 ≤ pc) && decide (pc < y.2.1)) = true) (hh : y.2.2.1 = h) (h0 : y.2.2.2 ≠ 0)
    (hl : Cond.classLink i.1 y.2.2.2 (x_nm cn) ∈ lwg) (hcast : Cond.castable (x_nm cn) (x_nm cn) ∈ lwn) (hpre : ∀ z ∈ pre, z.2.2.2 ≠ 0 ∧ ∃ nm, Cond.classLink i.1 z.2.2.2 nm ∈ lwg ∧ (x_nm cn, nm) ∈ xnc) : j_hok G i (pc, cn, h) := by
  intro x H locs cells slots Q ls rest a hcx hex k
  obtain ⟨hx, hb, hml, hown, hts, hK, hrm, -, hret, hlk, htab, hstr⟩ := hcx
  obtain ⟨cell, kc, c1, c2, c3, c4⟩ := hex
  intro T hT X
  have hpl : (je x).platform.magicAccessors = ({} : Platform).magicAccessors := by rw [X.admits.platform]
  rw [hsplit] at htab
  obtain ⟨pr, rs, e1, e2, e3⟩ := List.map_eq_append_iff.mp htab
  obtain ⟨xr, sf, e4, e5, e6⟩ := List.map_eq_cons_iff.mp e3
  subst e4
  have f1 : covers xr pc = true := by
    have : (decide (xr.startPc ≤ pc) && decide (pc < xr.endPc)) = true := by
      have g1 : y.1 = xr.startPc := by rw [← e5]
      have g2 : y.2.1 = xr.endPc := by rw [← e5]
      rw [← g1, ← g2]
      exact hin
    simpa [covers] using this
  have f2 : xr.catchType = y.2.2.2 := by rw [← e5]
  have f3 : xr.handlerPc = h := by rw [← hh, ← e5]
  obtain ⟨cl, hcl, hlink⟩ := Cond.classLink_spec hown (hts _ hl) (je x).platform hpl
  cases hcl.symm.trans c3
  rw [← f2] at hlink
  obtain ⟨vm', w1, w2⟩ := j_search (e := je x) (s₀ := js x) (f := F0 (jm x) pc ls rest) (a := a) (cell := cell) c2 ⟨kc, c4⟩ xr sf f1 (by rw [f2]; exact h0) hlink (va_asg _ _) pr ((T.setTop (F0 (jm x) pc ls rest)).pushFrame (.throwing a)) (by rw [Stand.throwing_vm]; exact X.warmed) (by rw [Stand.throwing_heap, hT]; exact c1)
    (fun z hz => by
      have hz' : (z.startPc, z.endPc, z.handlerPc, z.catchType) ∈ pre := by rw [← e2]; exact List.mem_map.mpr ⟨z, hz, rfl⟩
      obtain ⟨g0, nm, g1, g2⟩ := hpre _ hz'
      obtain ⟨c6, hc6, hcl6⟩ := Cond.classLink_spec hown (hts _ g1) (je x).platform hpl
      obtain ⟨a8, b8, n1, n2, n3⟩ := hK.2.2.2.2.2.2.2.2.2.2.2.2.2 _ g2
      cases n1.symm.trans c3
      cases n2.symm.trans hc6
      exact Or.inr ⟨g0, _, hcl6, n3⟩)
  have X' := X.noted w1
  obtain ⟨t, a1, b1⟩ := k (T.setVm vm') hT X'
  refine ⟨t, j_caught X.here (pc := h) (vm' := vm') (fun Q E d acts => ?_) a1, b1⟩
  rw [W.findHandler_eq (meth := jt x) (code := jc x) (by rw [Stand.throwing_vm]; exact X.method') X.code, e1, ← f3]
  exact w2 Q E d acts
