/-! THE SMALL MACHINE'S RUNS, AND THAT THE MACHINE FOLLOWS THEM (own text) -/
/-- a method: its name and word, what is known of its walk, its code, its handlers (pc, class, where it goes on) -/
abbrev j_E : Type := (MethodName × Cond) × j_I × (Nat → j_S) × List (Nat × Nat × Nat)
/-- from here the method ends so (by rules; C: what its callees do) -/
def j_ev (d : Nat) (C : Nat → List Value → j_M → j_O → j_M → Prop) (code : Nat → j_S) (hn : List (Nat × Nat × Nat)) (o : j_O) (mo : j_M) (pc : Nat) (lc : j_L) (st : List Value) (mem : j_M) : Prop :=
  ∀ P : Nat → j_L → List Value → j_M → Prop,
    (∀ pc lc st mem pc' lc' st' mem', code pc lc st mem = some (.inl (pc', lc', st', mem')) → P pc' lc' st' mem' → P pc lc st mem) →
    (∀ pc lc st mem v, code pc lc st mem = some (.inr (.inl v)) → o = .inl v → mo = mem → P pc lc st mem) →
    (∀ pc lc st mem k as r v mem', code pc lc st mem = some (.inr (.inr (.inl (k, as, r)))) → C k as mem (.inl v) mem' → P (pc + 3) lc (v.toList ++ r) mem' → P pc lc st mem) →
    (∀ pc lc st mem k as r z mem' h, code pc lc st mem = some (.inr (.inr (.inl (k, as, r)))) → C k as mem (.inr z) mem' → (pc, z.1, h) ∈ hn → P h lc [.ref z.2] mem' → P pc lc st mem) →
    (∀ pc lc st mem k as r z, code pc lc st mem = some (.inr (.inr (.inl (k, as, r)))) → C k as mem (.inr z) mo → hn = [] → o = .inr z → P pc lc st mem) →
    (∀ pc lc st mem z, code pc lc st mem = some (.inr (.inr (.inr z))) → 6 ≤ d → hn = [] → o = .inr (z, mem.1) → mo = (mem.1 + 1, mem.2.1 + 6, va_up mem.2.2 mem.1 none) → P pc lc st mem) →
    P pc lc st mem
/-- a method, called at depth d, ends so -/
def j_ex (tb : Nat → Option j_E) : Nat → Nat → List Value → j_M → j_O → j_M → Prop
  | 0, _, _, _, _, _ => False
  | d + 1, k, as, mem, o, mo => ∃ en, tb k = some en ∧ j_sc as ≤ en.2.1.2.2.1 ∧ j_ev (d + 1) (j_ex tb d) en.2.2.1 en.2.2.2 o mo 0 (j_en en.2.1.2.2.1 as) [] mem
section EV
variable {d : Nat} {C : Nat → List Value → j_M → j_O → j_M → Prop} {code : Nat → j_S} {hn : List (Nat × Nat × Nat)} {o : j_O} {mo : j_M} {pc : Nat} {lc : j_L} {st : List Value} {mem : j_M}
theorem j_ev.go {pc' : Nat} {lc' : j_L} {st' : List Value} {mem' : j_M} (h : code pc lc st mem = some (.inl (pc', lc', st', mem'))) (k : j_ev d C code hn o mo pc' lc' st' mem') : j_ev d C code hn o mo pc lc st mem :=
  fun P h1 h2 h3 h4 h5 h6 => h1 _ _ _ _ _ _ _ _ h (k P h1 h2 h3 h4 h5 h6)
theorem j_ev.ret {v : Option Value} (h : code pc lc st mem = some (.inr (.inl v))) : j_ev d C code hn (.inl v) mem pc lc st mem :=
  fun _ _ h2 _ _ _ _ => h2 _ _ _ _ _ h rfl rfl
theorem j_ev.call {k : Nat} {as r : List Value} {v : Option Value} {mem' : j_M} (h : code pc lc st mem = some (.inr (.inr (.inl (k, as, r))))) (hc : C k as mem (.inl v) mem') (kk : j_ev d C code hn o mo (pc + 3) lc (v.toList ++ r) mem') : j_ev d C code hn o mo pc lc st mem :=
  fun P h1 h2 h3 h4 h5 h6 => h3 _ _ _ _ _ _ _ _ _ h hc (kk P h1 h2 h3 h4 h5 h6)
theorem j_ev.catch {k h' : Nat} {as r : List Value} {z : Nat × Nat} {mem' : j_M} (h : code pc lc st mem = some (.inr (.inr (.inl (k, as, r))))) (hc : C k as mem (.inr z) mem') (hh : (pc, z.1, h') ∈ hn) (kk : j_ev d C code hn o mo h' lc [.ref z.2] mem') : j_ev d C code hn o mo pc lc st mem :=
  fun P h1 h2 h3 h4 h5 h6 => h4 _ _ _ _ _ _ _ _ _ _ h hc hh (kk P h1 h2 h3 h4 h5 h6)
theorem j_ev.pass {k : Nat} {as r : List Value} {z : Nat × Nat} {mem' : j_M} (h : code pc lc st mem = some (.inr (.inr (.inl (k, as, r))))) (hc : C k as mem (.inr z) mem') : j_ev d C code [] (.inr z) mem' pc lc st mem :=
  fun _ _ _ _ _ h5 _ => h5 _ _ _ _ _ _ _ _ h hc rfl rfl
theorem j_ev.throw {z : Nat} (h : code pc lc st mem = some (.inr (.inr (.inr z)))) (hd : 6 ≤ d) : j_ev d C code [] (.inr (z, mem.1)) (mem.1 + 1, mem.2.1 + 6, va_up mem.2.2 mem.1 none) pc lc st mem :=
  fun _ _ _ _ _ _ h6 => h6 _ _ _ _ _ h hd rfl rfl rfl
end EV
/-- the locals at the entry -/
theorem j_en_prs {G : j_G} : ∀ (as : List Value) (n k : Nat) (q : Nat × Value), q ∈ j_prs G k (j_en n as) → q ∈ lv_args k (as.map (rn G))
  | [], n, k, q, h => by
    have : ∀ n k, j_prs G k (List.replicate n none) = [] := by
      intro n
      induction n with
      | zero => intro k; rfl
      | succ n ih => intro k; exact ih (k + 1)
    rw [j_en, this] at h
    cases h
  | v :: r, n, k, q, h => by
    rw [List.map_cons, lv_args, rn_cat]
    rw [j_en] at h
    by_cases hc : v.category = 2
    · have hb : (v.category == 2) = true := by rw [hc]; rfl
      rw [hb] at h
      rw [if_pos hc]
      rcases List.mem_cons.mp h with rfl | h
      · exact List.mem_cons_self
      · exact List.mem_cons_of_mem _ (j_en_prs r (n - 2) (k + 2) q h)
    · have hb : (v.category == 2) = false := by simpa using hc
      rw [hb] at h
      rw [if_neg hc]
      rcases List.mem_cons.mp h with rfl | h
      · exact List.mem_cons_self
      · exact List.mem_cons_of_mem _ (j_en_prs r (n - 1) (k + 1) q h)
theorem j_sl_len (G : j_G) (as : List Value) : (lg_sl (as.map (rn G))).length = j_sc as := by
  induction as with
  | nil => rfl
  | cons v r ih =>
    have e : lg_sl ((v :: r).map (rn G)) = (if (rn G v).category = 2 then [Slot.val (rn G v), .second] else [.val (rn G v)]) ++ lg_sl (r.map (rn G)) := rfl
    have e2 : j_sc (v :: r) = v.category + j_sc r := rfl
    rw [e, List.length_append, ih, e2, rn_cat]
    rcases lv_cat v with h | h
    · rw [h]; rfl
    · rw [h]; rfl
theorem j_H.entry (G : j_G) (as : List Value) {n : Nat} (h : j_sc as ≤ n) : j_H G ((lg_sl (as.map (rn G)) ++ List.replicate (n - (lg_sl (as.map (rn G))).length) Slot.unset).toArray) n (j_en n as) := by
  have h0 := lv_entry (as.map (rn G)) (n := n) (by rw [j_sl_len]; exact h)
  exact ⟨h0.1, h0.2.1, fun q hq => h0.2.2 q (j_en_prs as n 0 q hq)⟩
/-- a handler is right: where it says so, the machine goes on there -/
def j_hok (G : j_G) (i : j_I) (q : Nat × Nat × Nat) : Prop := ∀ (x : j_X) (H : Heap) (locs : List Loc) (cells slots : Nat) (Q : State → Prop) (ls : Array Slot) (rest : List Value) (a : Nat), j_cx G i x →
  (∃ (cell : Cell) (k : Class), H[a]? = some cell ∧ (∀ z, cell.vm ≠ .statics z) ∧ (js x).vm.findClass (x_nm q.2.1) = some cell.cls ∧ (js x).vm.classes[cell.cls]? = some k) →
  j_W x H locs cells slots Q (F0 (jm x) q.2.2 ls [.ref a]) → j_WT x H locs cells slots Q (F0 (jm x) q.1 ls rest) a
/-- a method of the table is right -/
def j_mok (G : j_G) (tm : Nat → MethodName × Cond) (en : j_E) : Prop :=
  plainName en.1.1.cls = true ∧ ((en.1.2 = .code en.1.1 en.2.1.2.1 en.2.1.2.2.1 en.2.1.2.2.2.2.1 ∧ en.2.1.2.2.2.2.2 = []) ∨ en.1.2 = .codeWith en.1.1 en.2.1.2.1 en.2.1.2.2.1 en.2.1.2.2.2.2.1 en.2.1.2.2.2.2.2) ∧
  en.2.1.1 = en.1.1.cls ∧ (en.2.1.2.2.2.1 = true → en.1.1.name = "<init>") ∧ (∀ pc, j_ok G tm en.2.1 pc (en.2.2.1 pc)) ∧ (∀ q ∈ en.2.2.2, j_hok G en.2.1 q) ∧ (en.2.2.2 = [] → en.2.1.2.2.2.2.2 = [])
set_option maxHeartbeats 1000000 in
theorem j_sim {G : j_G} {l : Launch} {tb : Nat → Option j_E} {tm : Nat → MethodName × Cond} (htm : ∀ k en, tb k = some en → tm k = en.1) (hok : ∀ k en, tb k = some en → j_mok G tm en) (hst : ∀ e, l.admits e → e.platform.stackTraces = false) :
    ∀ (d k : Nat) (as : List Value) (mem : j_M) (o : j_O) (mo : j_M), j_ex tb d k as mem o mo → mem.1 ≤ mo.1 ∧ mem.2.1 ≤ mo.2.1 ∧ j_met G l d (tm k).1 (tm k).2 as mem o mo := by
  intro d
  induction d with
  | zero => intro k as mem o mo h; exact h.elim
  | succ d ih =>
    intro k as mem0 o mo h
    obtain ⟨en, hen, hsc, hev⟩ := h
    obtain ⟨⟨y, w⟩, ⟨own, cc, nL, ii, ret, hh⟩, code, hn⟩ := en
    have htk := htm k _ hen
    obtain ⟨hy, hw, how, hii, hpc, hhn, hhe⟩ := hok k _ hen
    dsimp only at hy hw how hii hpc hhn hhe hsc hev htk
    rw [htk]
    dsimp only
    have key := hev (fun pc lc st mem => mem.1 ≤ mo.1 ∧ mem.2.1 ≤ mo.2.1 ∧ ∀ (x : j_X) (H : Heap) (locs : List Loc) (ls : Array Slot), j_cx G (own, cc, nL, ii, ret, hh) x → jl x = l → jR x = j_rm (d + 1) mem0 mo →
      mem0.1 ≤ mem.1 → mem0.2.1 ≤ mem.2.1 → j_R G mem H → j_H G ls nL lc → j_B G locs →
      j_W x H locs (mem.1 - mem0.1) (mem.2.1 - mem0.2.1) (j_MQ (jb x) (j_Qc G o mo) (ja x) (js x) (mo.1 - mem0.1) (mo.2.1 - mem0.2.1) (fun q => G.2.2.2.1.size ≤ q)) (F0 (jm x) pc ls (st.map (rn G))))
      (by
        rintro pc lc st mem pc' lc' st' mem' hc ⟨a1, a2, a3⟩
        obtain ⟨b1, b2, b3⟩ := hpc pc lc st mem _ hc
        refine ⟨Nat.le_trans b1 a1, Nat.le_trans b2 a2, fun x H locs ls hx hl hRm m1 m2 hR hH hB => ?_⟩
        have e1 : (mem.1 - mem0.1) + (mem'.1 - mem.1) = mem'.1 - mem0.1 := by omega
        have e2 : (mem.2.1 - mem0.2.1) + (mem'.2.1 - mem.2.1) = mem'.2.1 - mem0.2.1 := by omega
        refine b3 x H locs _ _ _ ls hx hR hH hB (by rw [e1, hRm]; show _ ≤ mo.1 - mem0.1; omega) (by rw [e2, hRm]; show _ ≤ mo.2.1 - mem0.2.1; omega) fun H' locs' ls' hR' hH' hB' => ?_
        rw [e1, e2]
        exact a3 x H' locs' ls' hx hl hRm (Nat.le_trans m1 b1) (Nat.le_trans m2 b2) hR' hH' hB')
      (by
        rintro pc lc st mem v hc rfl rfl
        have b3 := hpc pc lc st mo _ hc
        refine ⟨Nat.le_refl _, Nat.le_refl _, fun x H locs ls hx hl hRm m1 m2 hR hH hB => ?_⟩
        exact b3 x H locs _ _ ls (j_Qc G (.inl v) mo) (fun q => G.2.2.2.1.size ≤ q) hx (fun t ht _ => ⟨rfl, by rw [ht]; exact hR⟩) hB)
      (by
        rintro pc lc st mem k' as' r v mem' hc hC ⟨a1, a2, a3⟩
        obtain ⟨b1, b2, b3⟩ := ih k' as' mem _ mem' hC
        have b4 := hpc pc lc st mem _ hc
        refine ⟨Nat.le_trans b1 a1, Nat.le_trans b2 a2, fun x H locs ls hx hl hRm m1 m2 hR hH hB => ?_⟩
        have e1 : (mem.1 - mem0.1) + (mem'.1 - mem.1) = mem'.1 - mem0.1 := by omega
        have e2 : (mem.2.1 - mem0.2.1) + (mem'.2.1 - mem.2.1) = mem'.2.1 - mem0.2.1 := by omega
        refine b4 d _ mem' x H locs _ _ _ ls (by rw [hl]; exact b3) b1 b2 hx (by rw [hRm]; exact Nat.le_refl _) (by rw [hRm]; exact Nat.le_refl _) hR hH hB (by rw [e1, hRm]; show _ ≤ mo.1 - mem0.1; omega) (by rw [e2, hRm]; show _ ≤ mo.2.1 - mem0.2.1; omega) fun H' locs' hR' hB' => ?_
        rw [e1, e2]
        exact a3 x H' locs' ls hx hl hRm (Nat.le_trans m1 b1) (Nat.le_trans m2 b2) hR' hH hB')
      (by
        rintro pc lc st mem k' as' r z mem' h' hc hC hmem ⟨a1, a2, a3⟩
        obtain ⟨b1, b2, b3⟩ := ih k' as' mem _ mem' hC
        have b4 := hpc pc lc st mem _ hc
        refine ⟨Nat.le_trans b1 a1, Nat.le_trans b2 a2, fun x H locs ls hx hl hRm m1 m2 hR hH hB => ?_⟩
        have e1 : (mem.1 - mem0.1) + (mem'.1 - mem.1) = mem'.1 - mem0.1 := by omega
        have e2 : (mem.2.1 - mem0.2.1) + (mem'.2.1 - mem.2.1) = mem'.2.1 - mem0.2.1 := by omega
        refine b4 d _ mem' x H locs _ _ _ ls (by rw [hl]; exact b3) b1 b2 hx (by rw [hRm]; exact Nat.le_refl _) (by rw [hRm]; exact Nat.le_refl _) hR hH hB (by rw [e1, hRm]; show _ ≤ mo.1 - mem0.1; omega) (by rw [e2, hRm]; show _ ≤ mo.2.1 - mem0.2.1; omega) fun H' locs' hR' hB' => ?_
        intro hex
        rw [e1, e2]
        exact hhn _ hmem x H' locs' _ _ _ ls _ _ hx hex (a3 x H' locs' ls hx hl hRm (Nat.le_trans m1 b1) (Nat.le_trans m2 b2) hR' hH hB'))
      (by
        rintro pc lc st mem k' as' r z hc hC hne rfl
        obtain ⟨b1, b2, b3⟩ := ih k' as' mem _ mo hC
        have b4 := hpc pc lc st mem _ hc
        refine ⟨b1, b2, fun x H locs ls hx hl hRm m1 m2 hR hH hB => ?_⟩
        have e1 : (mem.1 - mem0.1) + (mo.1 - mem.1) = mo.1 - mem0.1 := by omega
        have e2 : (mem.2.1 - mem0.2.1) + (mo.2.1 - mem.2.1) = mo.2.1 - mem0.2.1 := by omega
        refine b4 d _ mo x H locs _ _ _ ls (by rw [hl]; exact b3) b1 b2 hx (by rw [hRm]; exact Nat.le_refl _) (by rw [hRm]; exact Nat.le_refl _) hR hH hB (by rw [e1, hRm]; show _ ≤ mo.1 - mem0.1; omega) (by rw [e2, hRm]; show _ ≤ mo.2.1 - mem0.2.1; omega) fun H' locs' hR' hB' => ?_
        intro hex
        rw [e1, e2]
        obtain ⟨cell, kc, c1, c2, c3, c4⟩ := hex
        intro T hT X
        have htab := hx.2.2.2.2.2.2.2.2.2.2.1
        dsimp only at htab
        rw [hhe hne] at htab
        have hout : ∀ z ∈ (jc x).exceptionTable.toList, covers z pc = false := by
          intro z' hz
          rw [List.map_eq_nil_iff.mp htab] at hz
          cases hz
        obtain ⟨w1, w2, w3, w4, w5⟩ := X.leaveThrown (adr G z.2) (g := F0 (jm x) pc ls (r.map (rn G))) rfl rfl rfl hout hx.2.2.2.2.2.2.2.2.2.1
        refine ⟨_, w1, _, w2, w3, ⟨⟨rfl, ?_⟩, ?_⟩, locs', ⟨w4, w5⟩, hB'⟩
        · have al : (js x).vm.Alike (T.setFrames (.throwing (adr G z.2) :: jb x)).vm := X.warmed.alike
          obtain ⟨k'', hk'', -⟩ := al.2.2 _ _ c4
          exact ⟨cell, k'', by show T.heap[adr G z.2]? = some cell; rw [hT]; exact c1, c2, by rw [al.findClass]; exact c3, hk''⟩
        · show j_R G mo T.heap
          rw [hT]
          exact hR')
      (by
        rintro pc lc st mem z hc h6 hne rfl rfl
        have b4 := hpc pc lc st mem _ hc
        refine ⟨Nat.le_succ _, Nat.le_add_right _ _, fun x H locs ls hx hl hRm m1 m2 hR hH hB => ?_⟩
        have e1 : (mem.1 + 1, mem.2.1 + 6, va_up mem.2.2 mem.1 none).1 - mem0.1 = (mem.1 - mem0.1) + 1 := by show mem.1 + 1 - mem0.1 = _; omega
        have e2 : (mem.1 + 1, mem.2.1 + 6, va_up mem.2.2 mem.1 none).2.1 - mem0.2.1 = (mem.2.1 - mem0.2.1) + 6 := by show mem.2.1 + 6 - mem0.2.1 = _; omega
        rw [e1, e2]
        refine b4 x H locs _ _ ls (j_Qc G (.inr (z, mem.1)) (mem.1 + 1, mem.2.1 + 6, va_up mem.2.2 mem.1 none)) (fun q => G.2.2.2.1.size ≤ q) hx hR hB hH.1 (by rw [hRm]; exact h6) (by rw [hRm]; show _ ≤ 64 * (d + 1); omega)
          (by rw [hRm]; show _ ≤ mem.1 + 1 - mem0.1; omega) (by rw [hRm]; show _ ≤ mem.2.1 + 6 - mem0.2.1; omega) hB (fun t hRt hWt hex => ⟨⟨rfl, hex⟩, hRt⟩))
    obtain ⟨k1, k2, k3⟩ := key
    refine ⟨k1, k2, ?_⟩
    refine MetFree.of_bodyS (code := cc) (maxLocals := nL) (ret := ret) hy ?_ ?_
    · intro args s m hpre hnm
      have hwb : w.before args s = true := atoms_spec (ws := w :: lwg) hpre _ List.mem_cons_self
      rcases hw with ⟨rfl, -⟩ | rfl
      · obtain ⟨meth, c, h1, h2, h3, h4, h5, h6, -, -⟩ := Cond.code_spec hnm hwb
        exact ⟨meth, c, h1, h2, h3, h4, h5, h6⟩
      · obtain ⟨m9, meth, c, hn9, h1, h2, h3, h4, -, h5, h6, -⟩ := Cond.codeWith_spec hwb
        cases hnm.symm.trans hn9
        exact ⟨meth, c, h1, h2, h3, h4, h5, h6⟩
    · intro p e s m args below meth c s₁ B hml hP _
      have hh0 : s₁.heap = s.heap := by rw [B.state]; rfl
      obtain ⟨rfl, hR, hK⟩ := hP
      have hts : ∀ w' ∈ w :: lwg, w'.before (as.map (rn G)).toArray s = true := atoms_spec (ws := w :: lwg) B.pre
      have htab : c.exceptionTable.toList.map (fun h => (h.startPc, h.endPc, h.handlerPc, h.catchType)) = hh := by
        have hwb := hts _ List.mem_cons_self
        rcases hw with ⟨rfl, rfl⟩ | rfl
        · have hno := BodyLoose.noHandlers B hwb
          have : c.exceptionTable = #[] := by simpa using hno
          rw [this]
          rfl
        · obtain ⟨m9, meth', c', hn9, h1, h2, -, -, h5, -⟩ := Cond.codeWith_spec hwb
          cases B.named.symm.trans hn9
          cases B.method.symm.trans h1
          cases (Stand.of_body B).code.symm.trans h2
          exact h5
      have hcx : j_cx G (own, cc, nL, ii, ret, hh) (p, l, e, j_rm (d + 1) mem0 mo, s, m, (as.map (rn G)).toArray, below, meth, c) :=
        ⟨B.exec, B.bytes, hml, by show s.vm.findClass own = _; rw [how]; exact findClass_of_methodNamed B.named, fun w' hw' => hts w' (List.mem_cons_of_mem _ hw'), hK, ⟨by show 1 ≤ d + 1; omega, by show 64 ≤ 64 * (d + 1); omega⟩,
          fun hi => ((name_of_methodNamed B.named B.method).1).trans (hii hi), B.returns, B.notSynchronized, htab, hst e B.admits⟩
      have hH := j_H.entry G as (n := nL) hsc
      have k4 := k3 (p, l, e, j_rm (d + 1) mem0 mo, s, m, (as.map (rn G)).toArray, below, meth, c) s.heap [] _ hcx rfl rfl (Nat.le_refl _) (Nat.le_refl _) hR hH (fun q hq => by cases hq)
      simp only [Nat.sub_self] at k4
      have k5 : W p l e (j_rm (d + 1) mem0 mo) s m (as.map (rn G)).toArray below meth c s.heap [] 0 0 (j_MQ below (j_Qc G o mo) (as.map (rn G)).toArray s (mo.1 - mem0.1) (mo.2.1 - mem0.2.1) (fun q => G.2.2.2.1.size ≤ q)) (entryFrame m (as.map (rn G)).toArray nL) := by
        rw [lg_entry_eq]
        exact k4
      obtain ⟨t, a1, oc, b1, b2, b3, b4⟩ := k5 s₁ hh0 (Stand.of_body B)
      exact ⟨t, oc, a1, b1, b2, b3, b4⟩
