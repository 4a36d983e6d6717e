/-! WHAT AN INSTRUCTION OF THE SMALL MACHINE IS, AND WHEN IT IS RIGHT (own text) -/
/-- an array in the heap, as far as it is read -/
def j_ar (U : State) (H : Heap) (a : Nat) (ty : FieldType) (n : Nat) (g : Nat → Value) : Prop := ∃ cell : Cell, H[a]? = some cell ∧ U.isArrayOf cell ty ∧ cell.vm ≠ .unknown ∧ (n ≤ cell.slots.size ∧ cell.slots.size.toInt32 = Int32.ofNat n) ∧ ∀ j : Nat, j < n → cell.slots[j]? = some (g j)
theorem j_ar.moved {u U : State} {H : Heap} {a : Nat} {ty : FieldType} {n : Nat} {g : Nat → Value} (hvm : u.vm.Alike U.vm) (h : j_ar u H a ty n g) : j_ar U H a ty n g := by
  obtain ⟨cell, h1, h2, h3⟩ := h
  exact ⟨cell, h1, State.isArrayOf_alike hvm h2, h3⟩
theorem j_ar.kept {U : State} {H H1 : Heap} {a : Nat} {ty : FieldType} {n : Nat} {g : Nat → Value} (h : j_ar U H a ty n g) (hq : H1[a]? = H[a]?) : j_ar U H1 a ty n g := by
  obtain ⟨cell, h1, h2⟩ := h
  exact ⟨cell, by rw [hq]; exact h1, h2⟩
def j_old (G : j_G) (i : Nat) : Option j_C := match i with
  | 0 => some (.inl (0, G.2.2.2.2.1, .inl G.2.2.2.2.2))
  | 1 => some (.inl (0, 3, .inl (fun j => ([4, 8, 16] : List Int32).getD j 0)))
  | 2 => some (.inl (a_Obj, 0, .inr (.inr (.inr (.inr (fun _ => none))))))
  | _ => none
/-- where a static field lies, in the first heap -/
def j_LS (G : j_G) (C n ds : String) (U : State) : Prop := ∃ (c : ClassId) (k : Class) (fi : Nat) (f : Field) (a : Nat) (cell : Cell), U.vm.findClass C = some c ∧ U.fieldFound? C n ds = some (c, k, fi, f) ∧ f.isStatic = true ∧ k.statics = some a ∧ G.2.2.2.1[a]? = some cell ∧ cell.vm.isStatics = true ∧ cell.cls = c ∧ f.slot < cell.slots.size ∧ k.staticTypes[f.slot]? = some f.type
theorem j_LS.moved {G : j_G} {C n ds : String} {u U : State} (hvm : u.vm.Alike U.vm) (h : j_LS G C n ds u) : j_LS G C n ds U := by
  obtain ⟨c, k, fi, f, a, cell, h0, h1, h2, h3, h4, h5, h6, h7, h8⟩ := h
  obtain ⟨k', hi', he⟩ := State.fieldFound?_setVm hvm h1
  exact ⟨c, k', fi, f, a, cell, by rw [hvm.findClass]; exact h0, hi', h2, by rw [he]; exact h3, h4, h5, h6, h7, by rw [he]; exact h8⟩
theorem j_LS.use {G : j_G} {C n ds : String} {U : State} {A : Array Value} (h : j_LS G C n ds U) (hH : ∀ q : Nat, q < G.2.2.2.1.size → U.heap[q]? = G.2.2.2.1[q]?) : (Cond.laysStatic C n ds).before A U = true := by
  obtain ⟨c, k, fi, f, a, cell, h0, h1, h2, h3, h4, h5, h6, h7, h8⟩ := h
  exact Cond.laysStatic_of h0 h1 h2 h3 (by rw [hH a (Array.getElem?_eq_some_iff.mp h4).1]; exact h4) h5 h6 h7 h8
/-- which exception's class isn't which other -/
def xnc : List (String × String) := [(x_nm 1, x_nm 0), (x_nm 3, x_nm 0), (x_nm 3, x_nm 1), (x_nm 2, x_nm 3)]
/-- what the tables and the first heap say, at a state -/
def j_K (G : j_G) (U : State) : Prop :=
  (∀ (c : Nat) (q : vw_C), cls[c]? = some q → u_Kn U q.1 q.2.1 q.2.2 (G.1.1 c) (G.1.2 c)) ∧
  (∀ (k : Nat) (ty : FieldType), aty[k]? = some ty → ArrOfT U (G.2.1 k) ty ∧ va_RA U (G.2.1 k) ty) ∧
  j_ar U G.2.2.2.1 (G.2.2.1 0) .int G.2.2.2.2.1 (fun j => .int (G.2.2.2.2.2 j)) ∧
  j_ar U G.2.2.2.1 (G.2.2.1 1) .int 3 (fun j => .int (([4, 8, 16] : List Int32).getD j 0)) ∧
  j_ar U G.2.2.2.1 (G.2.2.1 2) (.object "java/lang/Object") 0 (fun _ => .null) ∧
  (∀ i : Nat, i < 3 → G.2.2.1 i < G.2.2.2.1.size) ∧
  va_Z "LevelTables" "ALLOWED" "[I" (.ref (G.2.2.1 1)) (fun q => G.2.2.2.1.size ≤ q) U G.2.2.2.1 ∧
  va_Z "java/util/ArrayList" "DEFAULTCAPACITY_EMPTY_ELEMENTDATA" "[Ljava/lang/Object;" (.ref (G.2.2.1 2)) (fun q => G.2.2.2.1.size ≤ q) U G.2.2.2.1 ∧
  va_Mi "[Ljava/lang/Object;" (G.2.2.1 3) U ∧
  (∃ (kA : Class) (comp : ClassId), U.vm.classes[G.2.1 7]? = some kA ∧ kA.kind = .array comp (.array .long) ∧ U.vm.findClass "[J" = some comp) ∧
  (va_Zq "java/lang/Throwable" "UNASSIGNED_STACK" "[Ljava/lang/StackTraceElement;" (fun q => G.2.2.2.1.size ≤ q) U G.2.2.2.1 ∧ j_LS G "java/lang/Throwable" "UNASSIGNED_STACK" "[Ljava/lang/StackTraceElement;" U) ∧
  (va_Zq "java/lang/Throwable" "SUPPRESSED_SENTINEL" "Ljava/util/List;" (fun q => G.2.2.2.1.size ≤ q) U G.2.2.2.1 ∧ j_LS G "java/lang/Throwable" "SUPPRESSED_SENTINEL" "Ljava/util/List;" U) ∧
  (∀ w ∈ lwn, va_Nw w U) ∧ (∀ q ∈ xnc, va_Nc q.1 q.2 U)
theorem j_K.moved {G : j_G} {u U : State} (hW : u.WarmedH U.vm) (h : j_K G u) : j_K G U := by
  have hvm := hW.alike
  obtain ⟨h1, h2, h3, h4, h5, h6, h7, h8, h9, ⟨kA, comp, q1, q2, q3⟩, ⟨h11, l11⟩, ⟨h12, l12⟩, h13, h14⟩ := h
  obtain ⟨k', hk', he⟩ := hvm.2.2 _ _ q1
  exact ⟨fun c q hq => u_Kn_moved hvm (h1 c q hq), fun k ty hk => ⟨arrOfT_moved hvm (h2 k ty hk).1, (h2 k ty hk).2.moved hvm⟩, h3.moved hvm, h4.moved hvm, h5.moved hvm, h6, h7.moved hvm, h8.moved hvm, h9.moved hvm, ⟨k', comp, hk', by rw [he]; exact q2, by rw [hvm.findClass]; exact q3⟩, ⟨h11.moved hvm, l11.moved hvm⟩, ⟨h12.moved hvm, l12.moved hvm⟩, fun w hw => lwn_ok w hw _ _ hW (h13 w hw), fun q hq => (h14 q hq).moved hvm⟩
theorem j_K.nw {G : j_G} {U : State} (h : j_K G U) {w : Cond} (hw : w ∈ lwn) : va_Nw w U := h.2.2.2.2.2.2.2.2.2.2.2.2.1 w hw
theorem j_K.use {G : j_G} {U : State} (h : j_K G U) {w : Cond} (hw : w ∈ lwn) {A : Array Value} : w.before A U = true := lwn_us w hw A U (h.nw hw)
/-- the heap holds the small machine's cells, behind the first heap, which stays -/
def j_R (G : j_G) (mem : j_M) (H : Heap) : Prop :=
  H.size + 4 = G.2.2.2.1.size + mem.1 ∧ 4 ≤ mem.1 ∧ (∀ q : Nat, q < G.2.2.2.1.size → H[q]? = G.2.2.2.1[q]?) ∧
  (∀ (i : Nat) (c : j_C), 4 ≤ i → mem.2.2 i = some c → i < mem.1 ∧ va_at G.1 cls (adr G i, rnc G c) H) ∧
  ∀ i : Nat, i < 4 → mem.2.2 i = j_old G i
def j_B (G : j_G) (locs : List Loc) : Prop := ∀ q ∈ locs, G.2.2.2.1.size ≤ q.base
/-- what is known of a method's walk -/
abbrev j_I : Type := String × ByteArray × Nat × Bool × Option FieldType × List (Nat × Nat × Nat × Nat)
def j_cx (G : j_G) (i : j_I) (x : j_X) : Prop :=
  (jp x).tables.exec = Jvm.exec ∧ (jc x).code = i.2.1 ∧ (jc x).maxLocals = i.2.2.1 ∧ (js x).vm.findClass i.1 = some (jm x).cls ∧ (∀ w ∈ lwg, w.before (ja x) (js x) = true) ∧ j_K G (js x) ∧
  (1 ≤ (jR x).frames ∧ 64 ≤ (jR x).locals) ∧ (i.2.2.2.1 = true → (jt x).name = "<init>") ∧ (jt x).sig.returnType = i.2.2.2.2.1 ∧ (jt x).locks = false ∧ (jc x).exceptionTable.toList.map (fun h => (h.startPc, h.endPc, h.handlerPc, h.catchType)) = i.2.2.2.2.2 ∧ (je x).platform.stackTraces = false
/-- a walk's end: returned or threw -/
def j_MQ (below : List Frame) (Qc : Array Value → State → Outcome → State → Prop) (a : Array Value) (s : State) (mc ms : Nat) (free : Addr → Prop) : State → Prop := fun t =>
  ∃ o, t.status = .running ∧ Ended t below o ∧ Qc a s o t ∧ ∃ L, (s.WarmedH t.vm ∧ s.sameButNew ({ t with vm := s.vm } : State) L mc ms) ∧ ∀ q ∈ L, free q.base
theorem j_MQ.of {below : List Frame} {Qc : Array Value → State → Outcome → State → Prop} {a : Array Value} {s : State} {mc ms : Nat} {free : Addr → Prop} {t : State} (h : MQ below Qc a s mc ms free t) : j_MQ below Qc a s mc ms free t := by
  obtain ⟨o, h1, h2, h3, L, h4, h5⟩ := h
  exact ⟨o, h1, h2, h3, L, h4.2, h5⟩
theorem W.mono {p : Program} {l : Launch} {e : Env} {R : Room} {s : State} {m : MethodId} {args : Array Value} {below : List Frame} {meth : Method} {c : Code} {H : Heap} {locs : List Loc} {cells slots : Nat} {Q Q' : State → Prop} {g : JFrame}
    (h : ∀ t, Q t → Q' t) (k : W p l e R s m args below meth c H locs cells slots Q g) : W p l e R s m args below meth c H locs cells slots Q' g := fun T hT X => by
  obtain ⟨t, a, b⟩ := k T hT X
  exact ⟨t, a, h t b⟩
/-- the machine with the note 'throwing' over the frame -/
def j_WT (x : j_X) (H : Heap) (locs : List Loc) (cells slots : Nat) (Q : State → Prop) (g : JFrame) (a : Addr) : Prop :=
  ∀ T : State, T.heap = H → Stand (jp x) (jl x) (je x) (jR x) (js x) (jm x) (ja x) (jb x) (jt x) (jc x) T locs cells slots → ∃ t, Steps (jp x).tables (je x) (jb x) ((T.setTop g).pushFrame (.throwing a)) t ∧ Q t
/-- a contract of the small machine: y, called with the arguments 'as' over the cells 'mem', ends so -/
def j_rm (d : Nat) (mem mo : j_M) : Room := { frames := d, cells := mo.1 - mem.1, slots := mo.2.1 - mem.2.1, locals := 64 * d }
def j_Pc (G : j_G) (as : List Value) (mem : j_M) : Array Value → State → Prop := fun v U => v = (as.map (rn G)).toArray ∧ j_R G mem U.heap ∧ j_K G U
def j_oc (G : j_G) (o : j_O) (oc : Outcome) (t : State) : Prop := match o with
  | .inl v => oc = .returned (v.map (rn G))
  | .inr x => oc = .threw (adr G x.2) ∧ ∃ (cell : Cell) (k : Class), t.heap[adr G x.2]? = some cell ∧ (∀ z, cell.vm ≠ .statics z) ∧ t.vm.findClass (x_nm x.1) = some cell.cls ∧ t.vm.classes[cell.cls]? = some k
def j_Qc (G : j_G) (o : j_O) (mo : j_M) : Array Value → State → Outcome → State → Prop := fun _ _ oc t => j_oc G o oc t ∧ j_R G mo t.heap
def j_met (G : j_G) (l : Launch) (d : Nat) (y : MethodName) (w : Cond) (as : List Value) (mem : j_M) (o : j_O) (mo : j_M) : Prop :=
  MetFree l y (headSpec (w :: lwg) (j_rm d mem mo)) (j_Pc G as mem) (fun _ _ _ _ _ => True) (fun a st oc t => j_Qc G o mo a st oc t ∧ ∃ L, (st.WarmedH t.vm ∧ st.sameButNew ({ t with vm := st.vm } : State) L (mo.1 - mem.1) (mo.2.1 - mem.2.1)) ∧ ∀ q ∈ L, G.2.2.2.1.size ≤ q.base)
/-- behind a call: it returned, or it threw -/
def j_aft (G : j_G) (x : j_X) (H : Heap) (locs : List Loc) (cells slots : Nat) (Q : State → Prop) (pc : Nat) (ls : Array Slot) (r : List Value) (o : j_O) : Prop := match o with
  | .inl v => j_W x H locs cells slots Q (F0 (jm x) (pc + 3) ls ((v.toList ++ r).map (rn G)))
  | .inr z => (∃ (cell : Cell) (k : Class), H[adr G z.2]? = some cell ∧ (∀ z, cell.vm ≠ .statics z) ∧ (js x).vm.findClass (x_nm z.1) = some cell.cls ∧ (js x).vm.classes[cell.cls]? = some k) → j_WT x H locs cells slots Q (F0 (jm x) pc ls (r.map (rn G))) (adr G z.2)
/-- an instruction's act is right -/
def j_oa (G : j_G) (tm : Nat → MethodName × Cond) (i : j_I) (pc : Nat) (lc : j_L) (st : List Value) (mem : j_M) : j_A → Prop
  | .inl (pc', lc', st', mem') => mem.1 ≤ mem'.1 ∧ mem.2.1 ≤ mem'.2.1 ∧ ∀ (x : j_X) (H : Heap) (locs : List Loc) (cells slots : Nat) (Q : State → Prop) (ls : Array Slot), j_cx G i x → j_R G mem H → j_H G ls i.2.2.1 lc → j_B G locs →
      cells + (mem'.1 - mem.1) ≤ (jR x).cells → slots + (mem'.2.1 - mem.2.1) ≤ (jR x).slots →
      (∀ (H' : Heap) (locs' : List Loc) (ls' : Array Slot), j_R G mem' H' → j_H G ls' i.2.2.1 lc' → j_B G locs' → j_W x H' locs' (cells + (mem'.1 - mem.1)) (slots + (mem'.2.1 - mem.2.1)) Q (F0 (jm x) pc' ls' (st'.map (rn G)))) →
      j_W x H locs cells slots Q (F0 (jm x) pc ls (st.map (rn G)))
  | .inr (.inl v) => ∀ (x : j_X) (H : Heap) (locs : List Loc) (cells slots : Nat) (ls : Array Slot) (Qc : Array Value → State → Outcome → State → Prop) (free : Addr → Prop), j_cx G i x →
      (∀ t : State, t.heap = H → (js x).WarmedH t.vm → Qc (ja x) (js x) (.returned (v.map (rn G))) t) → (∀ q ∈ locs, free q.base) →
      j_W x H locs cells slots (j_MQ (jb x) Qc (ja x) (js x) cells slots free) (F0 (jm x) pc ls (st.map (rn G)))
  | .inr (.inr (.inl (k, as, r))) => ∀ (d : Nat) (o : j_O) (mo : j_M) (x : j_X) (H : Heap) (locs : List Loc) (cells slots : Nat) (Q : State → Prop) (ls : Array Slot), j_met G (jl x) d (tm k).1 (tm k).2 as mem o mo → mem.1 ≤ mo.1 → mem.2.1 ≤ mo.2.1 →
      j_cx G i x → d + 1 ≤ (jR x).frames → 64 * (d + 1) ≤ (jR x).locals → j_R G mem H → j_H G ls i.2.2.1 lc → j_B G locs → cells + (mo.1 - mem.1) ≤ (jR x).cells → slots + (mo.2.1 - mem.2.1) ≤ (jR x).slots →
      (∀ (H' : Heap) (locs' : List Loc), j_R G mo H' → j_B G locs' → j_aft G x H' locs' (cells + (mo.1 - mem.1)) (slots + (mo.2.1 - mem.2.1)) Q pc ls r o) →
      j_W x H locs cells slots Q (F0 (jm x) pc ls (st.map (rn G)))
  | .inr (.inr (.inr cn)) => ∀ (x : j_X) (H : Heap) (locs : List Loc) (cells slots : Nat) (ls : Array Slot) (Qc : Array Value → State → Outcome → State → Prop) (free : Addr → Prop), j_cx G i x → j_R G mem H → j_B G locs → ls.size = i.2.2.1 → 6 ≤ (jR x).frames → 384 ≤ (jR x).locals →
      cells + 1 ≤ (jR x).cells → slots + 6 ≤ (jR x).slots → (∀ q ∈ locs, free q.base) →
      (∀ t : State, j_R G (mem.1 + 1, mem.2.1 + 6, va_up mem.2.2 mem.1 none) t.heap → (js x).WarmedH t.vm → (∃ (cell : Cell) (k : Class), t.heap[adr G mem.1]? = some cell ∧ (∀ z, cell.vm ≠ .statics z) ∧ t.vm.findClass (x_nm cn) = some cell.cls ∧ t.vm.classes[cell.cls]? = some k) → Qc (ja x) (js x) (.threw (adr G mem.1)) t) →
      j_W x H locs cells slots (j_MQ (jb x) Qc (ja x) (js x) (cells + 1) (slots + 6) free) (F0 (jm x) pc ls (st.map (rn G)))
def j_ok (G : j_G) (tm : Nat → MethodName × Cond) (i : j_I) (pc : Nat) (X : j_S) : Prop := ∀ (lc : j_L) (st : List Value) (mem : j_M) (act : j_A), X lc st mem = some act → j_oa G tm i pc lc st mem act
/-! the kinds of instruction: on the stack alone; a branch; locals -/
def j_st (f : List Value → Option (List Value)) (n : Nat) : j_S := fun lc st mem => match f st with
  | some r => some (.inl (n, lc, r, mem))
  | none => none
def j_br (f : List Value → Option (Bool × List Value)) (t n : Nat) : j_S := fun lc st mem => match f st with
  | some (b, r) => some (.inl (bif b then t else n, lc, r, mem))
  | none => none
def j_kd (t : Nat) (v : Value) : Bool := match t, v with
  | 0, .int _ => true
  | 1, .long _ => true
  | 2, .ref _ => true
  | 2, .null => true
  | _, _ => false
def j_ld (t i n : Nat) : j_S := fun lc st mem => match j_lg lc i with
  | some v => bif j_kd t v then some (.inl (n, lc, v :: st, mem)) else none
  | none => none
def j_so (t i n : Nat) : j_S := fun lc st mem => match st with
  | v :: r => bif j_kd t v then some (.inl (n, bif t == 1 then j_s2 lc i v else j_s1 lc i v, r, mem)) else none
  | [] => none
def j_ic (i : Nat) (k : Int32) (n : Nat) : j_S := fun lc st mem => match j_lg lc i with
  | some (.int a) => some (.inl (n, j_s1 lc i (.int (a + k)), st, mem))
  | _ => none
/-- a row on the stack alone -/
def j_rw (G : j_G) (i : j_I) (pc pc' : Nat) (st st' : List Value) : Prop := ∀ (x : j_X) (H : Heap) (locs : List Loc) (cells slots : Nat) (Q : State → Prop) (ls : Array Slot), j_cx G i x →
  j_W x H locs cells slots Q (F0 (jm x) pc' ls (st'.map (rn G))) → j_W x H locs cells slots Q (F0 (jm x) pc ls (st.map (rn G)))
section OKS
variable {G : j_G} {tm : Nat → MethodName × Cond} {i : j_I} {pc : Nat}
theorem j_ok_st {f : List Value → Option (List Value)} {n : Nat} (h : ∀ st st', f st = some st' → j_rw G i pc n st st') : j_ok G tm i pc (j_st f n) := by
  intro lc st mem act ha
  unfold j_st at ha
  cases hf : f st with
  | none => rw [hf] at ha; cases ha
  | some r =>
    rw [hf] at ha
    cases ha
    refine ⟨Nat.le_refl _, Nat.le_refl _, fun x H locs cells slots Q ls hc hR hH hB h1 h2 k => ?_⟩
    have k1 := k H locs ls hR hH hB
    simp only [Nat.sub_self, Nat.add_zero] at k1
    exact h st r hf x H locs cells slots Q ls hc k1
theorem j_ok_br {f : List Value → Option (Bool × List Value)} {t n : Nat} (h : ∀ st b st', f st = some (b, st') → j_rw G i pc (bif b then t else n) st st') : j_ok G tm i pc (j_br f t n) := by
  intro lc st mem act ha
  unfold j_br at ha
  cases hf : f st with
  | none => rw [hf] at ha; cases ha
  | some r =>
    obtain ⟨b, r⟩ := r
    rw [hf] at ha
    cases ha
    refine ⟨Nat.le_refl _, Nat.le_refl _, fun x H locs cells slots Q ls hc hR hH hB h1 h2 k => ?_⟩
    have k1 := k H locs ls hR hH hB
    simp only [Nat.sub_self, Nat.add_zero] at k1
    exact h st b r hf x H locs cells slots Q ls hc k1
/-- a row that reads a local -/
theorem j_ok_ld {t a n : Nat} (h : ∀ (v : Value), j_kd t v = true → ∀ (x : j_X) (H : Heap) (locs : List Loc) (cells slots : Nat) (Q : State → Prop) (ls : Array Slot) (rest : List Value), j_cx G i x → ls[a]? = some (.val (rn G v)) →
    j_W x H locs cells slots Q (F0 (jm x) n ls (rn G v :: rest)) → j_W x H locs cells slots Q (F0 (jm x) pc ls rest)) : j_ok G tm i pc (j_ld t a n) := by
  intro lc st mem act ha
  unfold j_ld at ha
  cases hf : j_lg lc a with
  | none => rw [hf] at ha; cases ha
  | some v =>
    rw [hf] at ha
    cases hk : j_kd t v with
    | false => simp [hk] at ha
    | true =>
      simp only [hk, cond_true, Option.some.injEq] at ha
      subst ha
      refine ⟨Nat.le_refl _, Nat.le_refl _, fun x H locs cells slots Q ls hc hR hH hB h1 h2 k => ?_⟩
      have k1 := k H locs ls hR hH hB
      simp only [Nat.sub_self, Nat.add_zero] at k1
      exact h v hk x H locs cells slots Q ls _ hc (hH.at hf) k1
theorem j_ok_so1 {t a n : Nat} (ht : (t == 1) = false) (h : ∀ (v : Value), j_kd t v = true → ∀ (x : j_X) (H : Heap) (locs : List Loc) (cells slots : Nat) (Q : State → Prop) (ls : Array Slot) (rest : List Value) (lv : List (Nat × Value)), j_cx G i x → lv_has ls i.2.2.1 lv →
    (∀ ls' : Array Slot, lv_has ls' i.2.2.1 ((a, rn G v) :: lv.filter (fun q => !(q.1 == a) && !(q.1 + 1 == a && q.2.category == 2))) → j_W x H locs cells slots Q (F0 (jm x) n ls' rest)) → j_W x H locs cells slots Q (F0 (jm x) pc ls (rn G v :: rest))) : j_ok G tm i pc (j_so t a n) := by
  intro lc st mem act ha
  unfold j_so at ha
  cases st with
  | nil => cases ha
  | cons v r =>
    cases hk : j_kd t v with
    | false => simp [hk] at ha
    | true =>
      simp only [hk, ht, cond_true, cond_false, Option.some.injEq] at ha
      subst ha
      refine ⟨Nat.le_refl _, Nat.le_refl _, fun x H locs cells slots Q ls hc hR hH hB h1 h2 k => ?_⟩
      refine h v hk x H locs cells slots Q ls _ _ hc hH fun ls' hl => ?_
      have k1 := k H locs ls' hR (j_H.st1 hl) hB
      simp only [Nat.sub_self, Nat.add_zero] at k1
      exact k1
theorem j_ok_so2 {a n : Nat} (h : ∀ (y : Int64) (x : j_X) (H : Heap) (locs : List Loc) (cells slots : Nat) (Q : State → Prop) (ls : Array Slot) (rest : List Value) (lv : List (Nat × Value)), j_cx G i x → lv_has ls i.2.2.1 lv →
    (∀ ls' : Array Slot, lv_has ls' i.2.2.1 ((a, Value.long y) :: lv.filter (fun q => !(q.1 == a) && (!(q.1 == a + 1) && !(q.1 + 1 == a && q.2.category == 2)))) → j_W x H locs cells slots Q (F0 (jm x) n ls' rest)) → j_W x H locs cells slots Q (F0 (jm x) pc ls (.long y :: rest))) : j_ok G tm i pc (j_so 1 a n) := by
  intro lc st mem act ha
  unfold j_so at ha
  cases st with
  | nil => cases ha
  | cons v r =>
    cases v <;> first | (simp [j_kd] at ha; done) | skip
    rename_i y
    simp only [j_kd, cond_true, Option.some.injEq] at ha
    subst ha
    refine ⟨Nat.le_refl _, Nat.le_refl _, fun x H locs cells slots Q ls hc hR hH hB h1 h2 k => ?_⟩
    refine h y x H locs cells slots Q ls _ _ hc hH fun ls' hl => ?_
    have k1 := k H locs ls' hR (j_H.st2 (v := .long y) hl) hB
    simp only [Nat.sub_self, Nat.add_zero] at k1
    exact k1
theorem j_ok_ic {a : Nat} {c : Int32} {off : Int} {n : Nat} (hd : decode i.2.1 pc = .ok (.iinc a off, 3)) (hn : pc + 3 = n) (hv : Int32.ofInt off = c) (ha0 : a < i.2.2.1) : j_ok G tm i pc (j_ic a c n) := by
  intro lc st mem act ha
  unfold j_ic at ha
  cases hf : j_lg lc a with
  | none => rw [hf] at ha; cases ha
  | some v =>
    rw [hf] at ha
    cases v <;> first | (cases ha; done) | skip
    rename_i y
    cases ha
    refine ⟨Nat.le_refl _, Nat.le_refl _, fun x H locs cells slots Q ls hc hR hH hB h1 h2 k => ?_⟩
    obtain ⟨hx, hb, -⟩ := hc
    have hm := j_prs_mem (G := G) lc 0 a (.int y) hf
    rw [Nat.zero_add] at hm
    obtain ⟨k0, hk0⟩ := List.getElem?_of_mem hm
    subst hn; subst hv
    refine lv_iinc (v := y + Int32.ofInt off) hx hb hd hH hk0 rfl ha0 rfl fun ls' hl => ?_
    have k1 := k H locs ls' hR (j_H.st1 (v := .int (y + Int32.ofInt off)) hl) hB
    simp only [Nat.sub_self, Nat.add_zero] at k1
    exact k1
end OKS
