/-! ROWS OF CALLS (own text) -/
/-- what is known of a method that is called: its word is among the tables', its locals are few -/
def j_cwd (y : MethodName) (w : Cond) : Prop := w ∈ lwg ∧ Cond.initialized y.cls ∈ lwg ∧ ∃ (bytes : ByteArray) (maxL : Nat) (ret : Option FieldType), maxL ≤ 45 ∧ (w = .code y bytes maxL ret ∨ ∃ hh, w = .codeWith y bytes maxL ret hh)
theorem j_cwd_spec {y : MethodName} {w : Cond} (h : j_cwd y w) {A : Array Value} {U : State} (hw : w.before A U = true) {mk : MethodId} (hn : U.methodNamed? y = some mk) : ∃ (meth : Method) (c : Code), U.vm.method? mk = some meth ∧ meth.code = some c ∧ c.maxLocals ≤ 45 ∧ parseMethodDescriptor y.desc = some meth.sig := by
  obtain ⟨-, -, bytes, maxL, ret, hL, rfl | ⟨hh, rfl⟩⟩ := h
  · obtain ⟨meth, c, h1, h2, -, h4, -, -, -, h8⟩ := Cond.code_spec hn hw
    exact ⟨meth, c, h1, h2, by rw [h4]; exact hL, h8⟩
  · obtain ⟨m9, meth, c, hn9, h1, h2, h3, h4, -, -, -, h8⟩ := Cond.codeWith_spec hw
    cases hn.symm.trans hn9
    exact ⟨meth, c, h1, h2, by rw [h4]; exact hL, h8⟩
theorem j_wd_at {args a' : Array Value} {s U : State} (hW : s.WarmedH U.vm) {w : Cond} (hw : w ∈ lwg) (h : w.before args s = true) : w.before a' U = true := word_at hW (good_of_word (lwg_all w hw)) h
section CALLS
variable {G : j_G} {x : j_X}
/-- a call by a contract: it comes back, or the note 'throwing' lies over the caller's frame -/
theorem j_call {U : State} {locs : List Loc} {cells slots d : Nat} {y : MethodName} {w : Cond} {as : List Value} {mem mo : j_M} {o : j_O} {g : JFrame} {ig : Instr} {mk : MethodId}
    (X : Stand (jp x) (jl x) (je x) (jR x) (js x) (jm x) (ja x) (jb x) (jt x) (jc x) U locs cells slots) (hM : j_met G (jl x) d y w as mem o mo) (hts : ∀ w ∈ lwg, w.before (ja x) (js x) = true) (hK : j_K G (js x)) (hcw : j_cwd y w)
    (hR : j_R G mem U.heap) (hf : d + 1 ≤ (jR x).frames) (hl : 64 * (d + 1) ≤ (jR x).locals) (hc : cells + (mo.1 - mem.1) ≤ (jR x).cells) (hs : slots + (mo.2.1 - mem.2.1) ≤ (jR x).slots)
    (hg : g.method = jm x) (hsize : g.locals.size = (jc x).maxLocals) (hdg : decode (jc x).code g.pc = .ok (ig, 3)) (hst : 2 * g.monitorRoom + (g.stack.map fun v => v.category).sum ≤ 8) (hn : U.methodNamed? y = some mk) (hB : j_B G locs) :
    ∃ (T' : State) (locs' : List Loc), Stand (jp x) (jl x) (je x) (jR x) (js x) (jm x) (ja x) (jb x) (jt x) (jc x) T' locs' (cells + (mo.1 - mem.1)) (slots + (mo.2.1 - mem.2.1)) ∧ j_B G locs' ∧ j_R G mo T'.heap ∧
      (match o with
       | .inl v => Steps (jp x).tables (je x) (jb x) (doInvoke (je x) (U.setTop g) [] mk (as.map (rn G)).toArray).1 (T'.setTop { g with pc := g.pc + 3, stack := v.toList.map (rn G) ++ g.stack })
       | .inr z => Steps (jp x).tables (je x) (jb x) (doInvoke (je x) (U.setTop g) [] mk (as.map (rn G)).toArray).1 ((T'.setTop g).pushFrame (.throwing (adr G z.2))) ∧ ∃ (cell : Cell) (k : Class), T'.heap[adr G z.2]? = some cell ∧ (∀ z, cell.vm ≠ .statics z) ∧ (js x).vm.findClass (x_nm z.1) = some cell.cls ∧ (js x).vm.classes[cell.cls]? = some k) := by
  have h : At U g.method (jc x) (jb x) := by rw [hg]; exact X.here
  have hwU : w.before (as.map (rn G)).toArray U = true := j_wd_at X.warmed hcw.1 (hts _ hcw.1)
  obtain ⟨methY, cY, hmY, hcY, hlY, -⟩ := j_cwd_spec hcw hwU hn
  obtain ⟨kY, hkY, -⟩ := className_of_methodNamed hn
  have hinitY : kY.init = .initialized := Cond.initialized_spec (args := (as.map (rn G)).toArray) (findClass_of_methodNamed hn) hkY (j_wd_at X.warmed hcw.2.1 (hts _ hcw.2.1))
  have happ : (headSpec (w :: lwg) (j_rm d mem mo)).appliesLoose y (je x).platform (U.calling g mk (as.map (rn G)).toArray) = true :=
    Spec.appliesLoose_calling (g := g) h hdg hn hkY hinitY
      (X.room_calling (g := g) (R' := j_rm d mem mo) hsize hmY hcY hf (by show _ + 64 * d ≤ _; omega) hc hs)
      (atoms_intro fun w' hw' => by
        rcases List.mem_cons.mp hw' with rfl | hw'
        · exact hwU
        · exact j_wd_at X.warmed hw' (hts _ hw'))
  obtain ⟨mid, hmid⟩ := h.above
  have hfr : (U.setTop g).frames = (.java g :: mid) ++ jb x := by rw [State.frames_setTop' g h.top, hmid]; rfl
  have hPc : j_Pc G as mem (as.map (rn G)).toArray ((U.setTop g).pushFrame (.invoking mk (as.map (rn G)).toArray)) := ⟨rfl, hR, j_K.moved (U := (U.setTop g).pushFrame (.invoking mk (as.map (rn G)).toArray)) (u := js x) X.warmed hK⟩
  obtain ⟨oc, s₂, hsteps, -, hend, ⟨hoc, hR2⟩, L, ⟨hW2, hsame⟩, hL⟩ := Steps.callFree hM (jp x) X.admits X.cas X.clock (acts := []) hfr happ hPc trivial
  rw [State.frames_setTop' g h.top, X.tail] at hend
  have hB' : j_B G (locs ++ L) := fun q hq => by
    rcases List.mem_append.mp hq with hq | hq
    · exact hB q hq
    · exact hL q hq
  cases o with
  | inl v =>
    have hoc : oc = .returned (v.map (rn G)) := hoc
    subst hoc
    obtain ⟨T', X', hw', hs', ht⟩ := X.outOf hg hdg hend hW2 hsame
    have hh : T'.heap = s₂.heap := by rw [ht]; rfl
    refine ⟨T', locs ++ L, X', hB', by rw [hh]; exact hR2, ?_⟩
    show Steps _ _ _ _ (T'.setTop { g with pc := g.pc + 3, stack := v.toList.map (rn G) ++ g.stack })
    have e : (v.map (rn G)).toList = v.toList.map (rn G) := by cases v <;> rfl
    rw [e] at ht
    rw [← ht]
    exact hsteps
  | inr z =>
    obtain ⟨rfl, cell, k, hc1, hc2, hc3, hc4⟩ := hoc
    obtain ⟨T', X', hw', hs', ht⟩ := X.outOfThrown hg hend hW2 hsame
    have hh : T'.heap = s₂.heap := by rw [ht, Stand.throwing_heap]
    have hv : T'.vm = s₂.vm := by rw [ht, Stand.throwing_vm]
    refine ⟨T', locs ++ L, X', hB', by rw [hh]; exact hR2, ?_, cell, ?_⟩
    · show Steps _ _ _ _ ((T'.setTop g).pushFrame (.throwing (adr G z.2)))
      rw [← ht]
      exact hsteps
    · have al := X'.warmed.alike
      rw [hv] at al
      obtain ⟨k', hk', -⟩ := al.symm.2.2 _ _ hc4
      exact ⟨k', by rw [hh]; exact hc1, hc2, by rw [← al.findClass]; exact hc3, hk'⟩
end CALLS
/-- calls: virtual (by the receiver's class), static, of a constructor -/
def j_sc (st : List Value) : Nat := (st.map fun v => v.category).sum
def j_cv (tb : List (Nat × Nat)) (na : Nat) : j_S := fun _ st mem => match st.drop na with
  | .ref b :: r => match mem.2.2 b with
    | some (.inr (c, _)) => match tb.lookup c with
      | some k => bif Nat.ble (j_sc r) 8 && ((st.take na).length == na) then some (.inr (.inr (.inl (k, .ref b :: (st.take na).reverse, r)))) else none
      | none => none
    | _ => none
  | _ => none
def j_cs (k na : Nat) : j_S := fun _ st _ => bif Nat.ble (j_sc (st.drop na)) 8 && ((st.take na).length == na) then some (.inr (.inr (.inl (k, (st.take na).reverse, st.drop na)))) else none
def j_ci (k na : Nat) : j_S := fun _ st _ => match st.drop na with
  | .ref b :: r => bif Nat.ble (j_sc r) 8 && ((st.take na).length == na) then some (.inr (.inr (.inl (k, .ref b :: (st.take na).reverse, r)))) else none
  | _ => none
theorem j_sc_rn (G : j_G) (r : List Value) : ((r.map (rn G)).map fun v => v.category).sum = j_sc r := by
  unfold j_sc
  rw [List.map_map]
  congr 1
  exact List.map_congr_left (fun v _ => rn_cat G v)
theorem j_stk {G : j_G} {st r : List Value} {na b : Nat} (h : st.drop na = .ref b :: r) : st.map (rn G) = (((st.take na).reverse).map (rn G)).reverse ++ .ref (adr G b) :: r.map (rn G) := by
  rw [← List.map_reverse, List.reverse_reverse]
  have e : st = st.take na ++ st.drop na := (List.take_append_drop na st).symm
  rw [h] at e
  have e2 := congrArg (List.map (rn G)) e
  rw [List.map_append, List.map_cons] at e2
  exact e2
/-- what a virtual call asks: the link, the receiver's class, the method it selects -/
def j_vd (own : String) (ix na : Nat) (tm : Nat → MethodName × Cond) (q : Nat × Nat) : Prop :=
  (∃ (C : String) (T : u_T) (N : Nat), cls[q.1]? = some (C, T, N) ∧ Cond.methodLink own ix (tm q.2).1 ∈ lwg ∧ Cond.instanceMethod (tm q.2).1 ∈ lwg ∧ Cond.selects C (tm q.2).1 (tm q.2).1 ∈ lwg) ∧ j_cwd (tm q.2).1 (tm q.2).2 ∧
  ((tm q.2).1.cls ≠ "java/lang/invoke/MethodHandle" ∧ (tm q.2).1.cls ≠ "java/lang/invoke/VarHandle") ∧ (parseMethodDescriptor (tm q.2).1.desc).map (fun d => d.parameters.length) = some na
section CALLR
variable {G : j_G} {tm : Nat → MethodName × Cond} {i : j_I} {pc : Nat}
theorem lookup_mem {tb : List (Nat × Nat)} {c k : Nat} (h : tb.lookup c = some k) : (c, k) ∈ tb := by
  induction tb with
  | nil => cases h
  | cons q r ih =>
    obtain ⟨a, b⟩ := q
    rw [List.lookup_cons] at h
    cases hq : c == a with
    | true =>
      rw [hq] at h
      cases h
      rw [beq_iff_eq.mp hq]
      exact List.mem_cons_self
    | false =>
      rw [hq] at h
      exact List.mem_cons_of_mem _ (ih h)
theorem r_invV {tb : List (Nat × Nat)} {ix na : Nat} (hv : ∀ q ∈ tb, j_vd i.1 ix na tm q) (hd : decode i.2.1 pc = .ok (.invokevirtual ix, 3)) : j_ok G tm i pc (j_cv tb na) := by
  intro lc st mem act ha
  unfold j_cv at ha
  split at ha
  next b r hdr =>
    split at ha
    next c fs hm =>
      split at ha
      next k hk =>
        cases hcs : Nat.ble (j_sc r) 8 && ((st.take na).length == na) with
        | false => rw [hcs] at ha; cases ha
        | true =>
          simp only [hcs, cond_true, Option.some.injEq] at ha
          subst ha
          simp only [Bool.and_eq_true, Nat.ble_eq, beq_iff_eq] at hcs
          obtain ⟨hsc, hlen⟩ := hcs
          intro d o mo x H locs cells slots Q ls hM hm1 hm2 hcx hf hl hR hH hB hc hs kk
          obtain ⟨⟨C, T, N, e1, e2, e3, e4⟩, hcw, hnm, hpar⟩ := hv _ (lookup_mem hk)
          obtain ⟨hx, hb, hml, hown, hts, hK, -⟩ := hcx
          obtain ⟨h4, h5, r0, g1, cellB, q1, q2, q3, -⟩ := hR.obj hm
          have hr0 : r0 = (C, T, N) := Option.some.inj (g1.symm.trans e1)
          subst hr0
          have hcls : (js x).vm.findClass C = some cellB.cls := by rw [q2]; exact (hK.1 c _ e1).2.1
          intro T0 hT X
          obtain ⟨mk, methM, hnamed, hmethM, hstM, habM⟩ := Cond.instanceMethod_spec (hts _ e3)
          obtain ⟨c2, r2, m2, p1, p2, p3, p4, kP, hkP, hkPi⟩ := Cond.selects_spec (hts _ e4)
          cases hcls.symm.trans p1
          cases (State.methodFound?_of_named hnamed hnm).symm.trans p2
          cases hnamed.symm.trans p3
          have hselP : selectMethod (je x).platform (js x).vm cellB.cls mk = .method mk := by rw [Launch.admits_selectMethod X.admits]; exact p4
          have hsz : ls.size = (jc x).maxLocals := by rw [hml]; exact hH.1
          have hsig : ((st.take na).reverse.map (rn G)).length = methM.sig.parameters.length := by
            rw [List.length_map, List.length_reverse, hlen]
            obtain ⟨methZ, -, hmZ, -, -, hp⟩ := j_cwd_spec hcw (hts _ hcw.1) hnamed
            cases hmethM.symm.trans hmZ
            rw [hp] at hpar
            exact (Option.some.inj hpar).symm
          obtain ⟨vm₁, X₁, hstep₁⟩ := X.invokevirtual hx hown (hts _ e2) hnamed hmethM hstM hkP hkPi hnm (a := adr G b) (cell := cellB) (by rw [hT]; exact q1)
            (fun z h => by rw [q3] at h; cases h) hselP hmethM habM hkP hkPi (g := F0 (jm x) pc ls (st.map (rn G))) rfl (argsL := (st.take na).reverse.map (rn G)) (rest := r.map (rn G)) hsig (j_stk hdr) (by rw [hb]; exact hd)
          obtain ⟨T', locs', X', hB', hR', hend⟩ := j_call (G := G) (x := x) (g := { F0 (jm x) pc ls (st.map (rn G)) with stack := r.map (rn G) }) X₁ hM hts hK hcw (by show j_R G mem T0.heap; rw [hT]; exact hR) hf hl hc hs rfl hsz (by rw [hb]; exact hd) (by rw [j_sc_rn]; show 2 * 0 + _ ≤ _; omega) (X₁.named hnamed) hB
          have k1 := kk T'.heap locs' hR' hB'
          cases o with
          | inl v =>
            obtain ⟨t, a1, b1⟩ := k1 T' rfl X'
            refine ⟨t, hstep₁ _ fun acts => ?_, b1⟩
            rw [doInvoke_state]
            rw [List.map_append] at a1
            exact hend.trans a1
          | inr z =>
            obtain ⟨hend, hcell⟩ := hend
            obtain ⟨t, a1, b1⟩ := k1 hcell T' rfl X'
            refine ⟨t, hstep₁ _ fun acts => ?_, b1⟩
            rw [doInvoke_state]
            exact hend.trans a1
      next => cases ha
    next => cases ha
  next => cases ha
/-- what a virtual call of an inherited or abstract method asks -/
def j_ud (own : String) (ix na : Nat) (x : MethodName) (owner : String) (tm : Nat → MethodName × Cond) (q : Nat × Nat) : Prop :=
  (∃ (C : String) (T : u_T) (N : Nat), cls[q.1]? = some (C, T, N) ∧ Cond.methodLink own ix x ∈ lwg ∧ Cond.sameMethod x.cls owner x.name x.desc ∈ lwg ∧ Cond.selects C x (tm q.2).1 ∈ lwg ∧ Cond.instanceMethod (tm q.2).1 ∈ lwg) ∧ j_cwd (tm q.2).1 (tm q.2).2 ∧
  (owner ≠ "java/lang/invoke/MethodHandle" ∧ owner ≠ "java/lang/invoke/VarHandle") ∧ (parseMethodDescriptor x.desc).map (fun d => d.parameters.length) = some na
theorem r_invU {tb : List (Nat × Nat)} {ix na : Nat} {y0 : MethodName} {owner : String} (hv : ∀ q ∈ tb, j_ud i.1 ix na y0 owner tm q) (hdc : ∀ (A : Array Value) (U : State), (∀ w ∈ lwg, w.before A U = true) → j_K G U → va_Decl U ⟨owner, y0.name, y0.desc⟩) (hd : decode i.2.1 pc = .ok (.invokevirtual ix, 3)) : j_ok G tm i pc (j_cv tb na) := by
  intro lc st mem act ha
  unfold j_cv at ha
  split at ha
  next b r hdr =>
    split at ha
    next c fs hm =>
      split at ha
      next k hk =>
        cases hcs : Nat.ble (j_sc r) 8 && ((st.take na).length == na) with
        | false => rw [hcs] at ha; cases ha
        | true =>
          simp only [hcs, cond_true, Option.some.injEq] at ha
          subst ha
          simp only [Bool.and_eq_true, Nat.ble_eq, beq_iff_eq] at hcs
          obtain ⟨hsc, hlen⟩ := hcs
          intro d o mo x H locs cells slots Q ls hM hm1 hm2 hcx hf hl hR hH hB hc hs kk
          obtain ⟨⟨C, T, N, e1, e2, e3, e4, e5⟩, hcw, hnm, hpar⟩ := hv _ (lookup_mem hk)
          obtain ⟨hx, hb, hml, hown, hts, hK, -⟩ := hcx
          obtain ⟨h4, h5, r0, g1, cellB, q1, q2, q3, -⟩ := hR.obj hm
          have hr0 : r0 = (C, T, N) := Option.some.inj (g1.symm.trans e1)
          subst hr0
          have hcls : (js x).vm.findClass C = some cellB.cls := by rw [q2]; exact (hK.1 c _ e1).2.1
          intro T0 hT X
          obtain ⟨rD, rM, hnD, hrm, hstR, hsigR⟩ := hdc _ _ hts hK
          obtain ⟨cn, ck, r1, hcn, hck, hni, hfo, hn1⟩ := Cond.sameMethod_found (hts _ e3)
          cases hnD.symm.trans hn1
          obtain ⟨mk, methM, hnamed, hmethM, -, habM⟩ := Cond.instanceMethod_spec (hts _ e5)
          obtain ⟨c2, r2, m2, p1, p2, p3, p4, kP, hkP, hkPi⟩ := Cond.selects_spec (hts _ e4)
          cases hcls.symm.trans p1
          cases hfo.symm.trans p2
          cases hnamed.symm.trans p3
          have hselP : selectMethod (je x).platform (js x).vm cellB.cls rD = .method mk := by rw [Launch.admits_selectMethod X.admits]; exact p4
          have hsz : ls.size = (jc x).maxLocals := by rw [hml]; exact hH.1
          have hsig : ((st.take na).reverse.map (rn G)).length = rM.sig.parameters.length := by
            rw [List.length_map, List.length_reverse, hlen]
            have hsigR : parseMethodDescriptor y0.desc = some rM.sig := hsigR
            rw [hsigR] at hpar
            exact (Option.some.inj hpar).symm
          obtain ⟨vm₁, X₁, hstep₁⟩ := X.invokevirtualUp hx hown (hts _ e2) (hts _ e3) hnm hnD hrm hstR (a := adr G b) (cell := cellB) (by rw [hT]; exact q1)
            (fun z h => by rw [q3] at h; cases h) hselP hmethM habM hkP hkPi (g := F0 (jm x) pc ls (st.map (rn G))) rfl (argsL := (st.take na).reverse.map (rn G)) (rest := r.map (rn G)) hsig (j_stk hdr) (by rw [hb]; exact hd)
          obtain ⟨T', locs', X', hB', hR', hend⟩ := j_call (G := G) (x := x) (g := { F0 (jm x) pc ls (st.map (rn G)) with stack := r.map (rn G) }) X₁ hM hts hK hcw (by show j_R G mem T0.heap; rw [hT]; exact hR) hf hl hc hs rfl hsz (by rw [hb]; exact hd) (by rw [j_sc_rn]; show 2 * 0 + _ ≤ _; omega) (X₁.named hnamed) hB
          have k1 := kk T'.heap locs' hR' hB'
          cases o with
          | inl v =>
            obtain ⟨t, a1, b1⟩ := k1 T' rfl X'
            refine ⟨t, hstep₁ _ fun acts => ?_, b1⟩
            rw [doInvoke_state]
            rw [List.map_append] at a1
            exact hend.trans a1
          | inr z =>
            obtain ⟨hend, hcell⟩ := hend
            obtain ⟨t, a1, b1⟩ := k1 hcell T' rfl X'
            refine ⟨t, hstep₁ _ fun acts => ?_, b1⟩
            rw [doInvoke_state]
            exact hend.trans a1
      next => cases ha
    next => cases ha
  next => cases ha
theorem r_invS {k ix na : Nat} (hl0 : Cond.methodLink i.1 ix (tm k).1 ∈ lwg) (hst0 : Cond.static (tm k).1 ∈ lwg) (hcw : j_cwd (tm k).1 (tm k).2) (hnm : (tm k).1.cls ≠ "java/lang/invoke/MethodHandle" ∧ (tm k).1.cls ≠ "java/lang/invoke/VarHandle") (hpar : (parseMethodDescriptor (tm k).1.desc).map (fun d => d.parameters.length) = some na) (hd : decode i.2.1 pc = .ok (.invokestatic ix, 3)) : j_ok G tm i pc (j_cs k na) := by
  intro lc st mem act ha
  unfold j_cs at ha
  cases hcs : Nat.ble (j_sc (st.drop na)) 8 && ((st.take na).length == na) with
  | false => rw [hcs] at ha; cases ha
  | true =>
          simp only [hcs, cond_true, Option.some.injEq] at ha
          subst ha
          simp only [Bool.and_eq_true, Nat.ble_eq, beq_iff_eq] at hcs
          obtain ⟨hsc, hlen⟩ := hcs
          intro d o mo x H locs cells slots Q ls hM hm1 hm2 hcx hf hl hR hH hB hc hs kk
          obtain ⟨hx, hb, hml, hown, hts, hK, -⟩ := hcx
          intro T0 hT X
          obtain ⟨mk, hnamed⟩ : ∃ mk, (js x).methodNamed? (tm k).1 = some mk := by
            obtain ⟨-, -, bytes, maxL, ret, -, e | ⟨hh, e⟩⟩ := id hcw
            · exact Cond.code_named (by rw [← e]; exact hts _ hcw.1)
            · obtain ⟨m9, -, -, hn9, -⟩ := Cond.codeWith_spec (by rw [← e]; exact hts _ hcw.1)
              exact ⟨m9, hn9⟩
          obtain ⟨methM, cM, hmethM, -, -, hp⟩ := j_cwd_spec hcw (hts _ hcw.1) hnamed
          have hstatic : methM.isStatic = true := Cond.static_spec hnamed hmethM (hts _ hst0)
          obtain ⟨kP, hkP, -⟩ := className_of_methodNamed hnamed
          have hinitP : kP.init = .initialized := Cond.initialized_spec (findClass_of_methodNamed hnamed) hkP (hts _ hcw.2.1)
          have hsz : ls.size = (jc x).maxLocals := by rw [hml]; exact hH.1
          have hsig : ((st.take na).reverse.map (rn G)).length = methM.sig.parameters.length := by
            rw [List.length_map, List.length_reverse, hlen]
            rw [hp] at hpar
            exact (Option.some.inj hpar).symm
          have hstk : st.map (rn G) = (((st.take na).reverse).map (rn G)).reverse ++ (st.drop na).map (rn G) := by
            rw [← List.map_reverse, List.reverse_reverse, ← List.map_append, List.take_append_drop]
          obtain ⟨vm₁, X₁, hstep₁⟩ := X.invokestatic hx hown (hts _ hl0) hnamed hmethM hstatic hkP hinitP hnm (g := F0 (jm x) pc ls (st.map (rn G))) rfl (argsL := (st.take na).reverse.map (rn G)) (rest := (st.drop na).map (rn G)) hsig hstk (by rw [hb]; exact hd)
          obtain ⟨T', locs', X', hB', hR', hend⟩ := j_call (G := G) (x := x) (g := { F0 (jm x) pc ls (st.map (rn G)) with stack := (st.drop na).map (rn G) }) X₁ hM hts hK hcw (by show j_R G mem T0.heap; rw [hT]; exact hR) hf hl hc hs rfl hsz (by rw [hb]; exact hd) (by rw [j_sc_rn]; show 2 * 0 + _ ≤ _; omega) (X₁.named hnamed) hB
          have k1 := kk T'.heap locs' hR' hB'
          cases o with
          | inl v =>
            obtain ⟨t, a1, b1⟩ := k1 T' rfl X'
            refine ⟨t, hstep₁ _ fun acts => ?_, b1⟩
            rw [doInvoke_state]
            rw [List.map_append] at a1
            exact hend.trans a1
          | inr z =>
            obtain ⟨hend, hcell⟩ := hend
            obtain ⟨t, a1, b1⟩ := k1 hcell T' rfl X'
            refine ⟨t, hstep₁ _ fun acts => ?_, b1⟩
            rw [doInvoke_state]
            exact hend.trans a1
theorem r_invI {k ix na : Nat} (hl0 : Cond.methodLink i.1 ix (tm k).1 ∈ lwg) (hin0 : Cond.instanceMethod (tm k).1 ∈ lwg) (hy1 : (tm k).1.name = "<init>") {bytes : ByteArray} {maxL : Nat} (hw0 : (tm k).2 = .code (tm k).1 bytes maxL none) (hcw : j_cwd (tm k).1 (tm k).2) (hnm : (tm k).1.cls ≠ "java/lang/invoke/MethodHandle" ∧ (tm k).1.cls ≠ "java/lang/invoke/VarHandle") (hpar : (parseMethodDescriptor (tm k).1.desc).map (fun d => d.parameters.length) = some na) (hd : decode i.2.1 pc = .ok (.invokespecial ix, 3)) : j_ok G tm i pc (j_ci k na) := by
  intro lc st mem act ha
  unfold j_ci at ha
  split at ha
  next b r hdr =>
        cases hcs : Nat.ble (j_sc r) 8 && ((st.take na).length == na) with
        | false => rw [hcs] at ha; cases ha
        | true =>
          simp only [hcs, cond_true, Option.some.injEq] at ha
          subst ha
          simp only [Bool.and_eq_true, Nat.ble_eq, beq_iff_eq] at hcs
          obtain ⟨hsc, hlen⟩ := hcs
          intro d o mo x H locs cells slots Q ls hM hm1 hm2 hcx hf hl hR hH hB hc hs kk
          obtain ⟨hx, hb, hml, hown, hts, hK, -⟩ := hcx
          intro T0 hT X
          have hpl : (je x).platform.magicAccessors = ({} : Platform).magicAccessors := by rw [X.admits.platform]
          have hsz : ls.size = (jc x).maxLocals := by rw [hml]; exact hH.1
          have hwb : (Cond.code (tm k).1 bytes maxL none).before (ja x) (js x) = true := by rw [← hw0]; exact hts _ hcw.1
          obtain ⟨mk, methM, cM, kP, vm₁, hnamed, hmethM, hcodeM, -, hlocalsM, -, hkP, -, hW₁, hstep₁⟩ := Steps.initColdArgs (e := je x) (below := jb x) X.here hx X.warmed hpl hown hy1 hnm (hts _ hl0) (hts _ hin0) hwb (f := F0 (jm x) pc ls (st.map (rn G))) rfl (argsL := (st.take na).reverse.map (rn G)) (a := adr G b) (rest := r.map (rn G))
            (fun sig h => by
              rw [List.length_map, List.length_reverse, hlen]
              rw [h] at hpar
              exact (Option.some.inj hpar).symm) (j_stk hdr) (by rw [hb]; exact hd)
          have X₁ := X.noted hW₁
          obtain ⟨T', locs', X', hB', hR', hend⟩ := j_call (G := G) (x := x) (g := { F0 (jm x) pc ls (st.map (rn G)) with stack := r.map (rn G) }) X₁ hM hts hK hcw (by show j_R G mem T0.heap; rw [hT]; exact hR) hf hl hc hs rfl hsz (by rw [hb]; exact hd) (by rw [j_sc_rn]; show 2 * 0 + _ ≤ _; omega) (X₁.named hnamed) hB
          have k1 := kk T'.heap locs' hR' hB'
          cases o with
          | inl v =>
            obtain ⟨t, a1, b1⟩ := k1 T' rfl X'
            refine ⟨t, hstep₁ _ fun acts => ?_, b1⟩
            rw [doInvoke_state]
            rw [List.map_append] at a1
            exact hend.trans a1
          | inr z =>
            obtain ⟨hend, hcell⟩ := hend
            obtain ⟨t, a1, b1⟩ := k1 hcell T' rfl X'
            refine ⟨t, hstep₁ _ fun acts => ?_, b1⟩
            rw [doInvoke_state]
            exact hend.trans a1
  next => cases ha
end CALLR
