/-! THROWS AND HANDLERS (own text) -/
/-- the walk, begun anew where it stands -/
theorem j_rebase {p : Program} {l : Launch} {e : Env} {R : Room} {s : State} {m : MethodId} {args : Array Value} {below : List Frame} {meth : Method} {c : Code} {T : State} {locs : List Loc} {cells slots : Nat}
    (X : Stand p l e R s m args below meth c T locs cells slots) (hc : cells ≤ R.cells) (hs : slots ≤ R.slots) :
    Stand p l e { R with cells := R.cells - cells, slots := R.slots - slots } (T.setFrames (.invoking m args :: below)) m args below meth c T [] 0 0 := by
  obtain ⟨g₀, hfr⟩ := X.frames_eq
  have hcur : T.cur < T.threads.size := State.cur_lt_of_frames hfr
  obtain ⟨th, hth, -⟩ := State.frames_cons hfr
  have hf' : (T.setFrames (.invoking m args :: below)).frames = .invoking m args :: below := State.frames_setFrames _ hcur
  have hm' : T.vm.method? m = some meth := X.method'
  have hlim : e.platform.stackLimits (T.setFrames (.invoking m args :: below)).me = e.platform.stackLimits s.me := by rw [State.stackLimits_setFrames]; exact X.limits
  have hby : (T.setFrames (.invoking m args :: below)).me.stackBytes = s.me.stackBytes := by rw [State.stackBytes_setFrames]; exact X.bytes
  have hroom : (T.setFrames (.invoking m args :: below)).hasRoom e.platform { R with cells := R.cells - cells, slots := R.slots - slots } = true := by
    have h := X.room
    have hh := X.heapHas (a := R.cells - cells) (b := R.slots - slots) (by omega) (by omega)
    have hb := X.book
    have l1 := State.localsInUse_invoking X.frames X.method X.code
    have l2 := State.localsInUse_invoking (s := T.setFrames (.invoking m args :: below)) hf' hm' X.code
    simp only [State.hasRoom, Bool.and_eq_true, decide_eq_true_eq] at h ⊢
    rw [l2, hf', hlim, hby]
    rw [l1, X.frames] at h
    exact ⟨⟨⟨⟨h.1.1.1.1, h.1.1.1.2⟩, hh.1⟩, hh.2⟩, hb⟩
  have hhears : (T.setFrames (.invoking m args :: below)).hears m below = true := by
    have h := X.hears
    have al := X.warmed.alike
    cases below with
    | nil =>
      simp only [State.hears] at h ⊢
      show (T.vm.method? m).any _ = true
      rw [hm']
      rw [X.method] at h
      exact h
    | cons f r =>
      cases f <;> simp only [State.hears] at h ⊢
      all_goals first
        | rfl
        | (rename_i g; rw [State.code?_eq] at h ⊢; show ((T.vm.method? g.method).bind _ |>.bind _).isSome = true; rw [al.method?]; exact h)
        | (show (T.vm.method? m).any _ = true; rw [hm']; rw [X.method] at h; exact h)
  refine ⟨X.admits, X.cas, X.clock, hf', hroom, hhears, hm', X.code, X.here, X.tail, State.WarmedH.refl (T.setFrames (.invoking m args :: below)), by rw [State.stackLimits_setFrames], by rw [State.stackBytes_setFrames], ?_⟩
  obtain ⟨th', hth', -⟩ := State.frames_cons hf'
  have h := (State.sameButNew.refl (T.setFrames (.invoking m args :: below)) hth').setFrames T.frames (State.cur_lt_of_frames hf')
  have e1 : (T.setFrames (.invoking m args :: below)).setFrames T.frames = T := by rw [State.setFrames_setFrames, State.setFrames_self hth]
  rw [e1] at h
  exact h
/-- the atoms of an exception's making, but its constructor's link -/
def j_xat (E : String) : List Cond := Jvm.Bundle.throwableAtoms ++ Jvm.Bundle.chain0Atoms E ["java/lang/RuntimeException", "java/lang/Exception"] ++
  [.instantiable E 6, .castable E E, .selects E Jvm.Bundle.tFill0 Jvm.Bundle.tFill0, .selects E Jvm.Bundle.tFill Jvm.Bundle.tFill,
   .lays E Jvm.Bundle.tN "cause" "Ljava/lang/Throwable;", .lays E Jvm.Bundle.tN "stackTrace" Jvm.Bundle.steD, .lays E Jvm.Bundle.tN "suppressedExceptions" Jvm.Bundle.listD, .lays E Jvm.Bundle.tN "detailMessage" "Ljava/lang/String;",
   .isRef (.static Jvm.Bundle.tN "UNASSIGNED_STACK" Jvm.Bundle.steD), .isRef (.static Jvm.Bundle.tN "SUPPRESSED_SENTINEL" Jvm.Bundle.listD),
   .fieldLink Jvm.Bundle.tN 198 Jvm.Bundle.tN "backtrace" "Ljava/lang/Object;", .lays Jvm.Bundle.tN Jvm.Bundle.tN "backtrace" "Ljava/lang/Object;", .lays E Jvm.Bundle.tN "backtrace" "Ljava/lang/Object;"]
def j_xok (E : String) : Prop := ∀ a ∈ j_xat E, a ∈ lwg ∨ a ∈ lwn ∨ a = .isRef (.static Jvm.Bundle.tN "UNASSIGNED_STACK" Jvm.Bundle.steD) ∨ a = .isRef (.static Jvm.Bundle.tN "SUPPRESSED_SENTINEL" Jvm.Bundle.listD) ∨ a = .laysStatic Jvm.Bundle.tN "UNASSIGNED_STACK" Jvm.Bundle.steD ∨ a = .laysStatic Jvm.Bundle.tN "SUPPRESSED_SENTINEL" Jvm.Bundle.listD
theorem j_xat_of {own E : String} {ic : Nat} {a : Cond} (h : a ∈ Jvm.Bundle.ownAtoms0 own ic E ["java/lang/RuntimeException", "java/lang/Exception"]) : a = .methodLink own ic (Jvm.Bundle.init0 E) ∨ a ∈ j_xat E := by
  unfold Jvm.Bundle.ownAtoms0 at h
  unfold j_xat
  simp only [List.mem_append, List.mem_cons] at h ⊢
  rcases h with (h | h) | h
  · exact Or.inr (Or.inl (Or.inl h))
  · exact Or.inr (Or.inl (Or.inr h))
  · rcases h with h | h
    · exact Or.inl h
    · exact Or.inr (Or.inr h)
theorem j_isref {C n d : String} {A : Nat → Prop} {U : State} {args : Array Value} (h : va_Zq C n d A U U.heap) : (Cond.isRef (.static C n d)).before args U = true := by
  rcases h with h | ⟨u, h⟩
  · obtain ⟨cf, kf, fi, f, a, cell, h1, h2, h3, h4, h5, h6, h7, h8⟩ := h
    simp [Cond.before, Cond.holds, Cond.value, Term.eval, State.fieldNamed?, h1, h2, h4, h5, h6, h7]
  · obtain ⟨cf, kf, fi, f, a, cell, h1, h2, h3, h4, h5, h6, h7, h8⟩ := h
    simp [Cond.before, Cond.holds, Cond.value, Term.eval, State.fieldNamed?, h1, h2, h4, h5, h6, h7]
/-- nothing old has changed -/
theorem j_same_old {s t : State} {k n : Nat} (h : s.sameButNew t [] k n) {q : Nat} (hq : q < s.heap.size) : t.heap[q]? = s.heap[q]? := by
  obtain ⟨-, -, -, -, -, h6⟩ := h
  have hc : s.heap[q]? = some s.heap[q] := Array.getElem?_eq_getElem hq
  obtain ⟨c', g1, g2, g3, g4⟩ := h6 q _ hc
  rw [g1, hc]
  congr 1
  rw [g2]
  have : c'.slots = (s.heap[q]).slots := Array.ext_getElem? (fun i => g4 i (by simp))
  rw [this]
def j_th (cn : Nat) : j_S := fun _ st _ => bif Nat.ble (j_sc st) 8 then some (.inr (.inr (.inr cn))) else none
section THROW
variable {G : j_G} {tm : Nat → MethodName × Cond} {i : j_I} {pc : Nat}
theorem r_throw {cn ix ic : Nat} {E : String} (hE : x_nm cn = E) (hfE : Jvm.Bundle.fit E = true) (hat : j_xok E) (hini : Cond.initialized E ∈ lwg) (hins : Cond.instantiable E 6 ∈ lwg) (hl : Cond.classLink i.1 ix E ∈ lwg) (hm : Cond.methodLink i.1 ic (Jvm.Bundle.init0 E) ∈ lwg) (hno : i.2.2.2.2.2 = [])
    (d0 : decode i.2.1 pc = .ok (.new ix, 3)) (d1 : decode i.2.1 (pc + 3) = .ok (.dup, 1)) (d2 : decode i.2.1 (pc + 4) = .ok (.invokespecial ic, 3)) (d3 : decode i.2.1 (pc + 7) = .ok (.athrow, 1)) : j_ok G tm i pc (j_th cn) := by
  intro lc st mem act ha
  unfold j_th at ha
  cases hcs : Nat.ble (j_sc st) 8 with
  | false => rw [hcs] at ha; cases ha
  | true =>
    rw [hcs] at ha
    cases ha
    have hsc := Nat.le_of_ble_eq_true hcs
    intro x H locs cells slots ls Qc free hc hR hB hls hf6 hl384 hc1 hs6 hfree hq
    obtain ⟨hx, hb, hml, hown, hts, hK, hrm, -, hret, hlk, htab, hstr⟩ := hc
    intro T hT X
    have X0 := j_rebase X (by omega) (by omega)
    generalize hs' : T.setFrames (.invoking (jm x) (ja x) :: jb x) = s' at X0
    have hvm' : s'.vm = T.vm := by rw [← hs']; rfl
    have hheap' : s'.heap = T.heap := by rw [← hs']; rfl
    have hWs : (js x).WarmedH s'.vm := by rw [hvm']; exact X.warmed
    have hts' : ∀ w ∈ lwg, w.before (ja x) s' = true := fun w hw => j_wd_at hWs hw (hts w hw)
    have hK' : j_K G s' := hK.moved hWs
    have hown' : s'.vm.findClass i.1 = some (jm x).cls := by rw [hWs.alike.findClass]; exact hown
    have hH' : ∀ q : Nat, q < G.2.2.2.1.size → ¬ (fun q => G.2.2.2.1.size ≤ q) q → s'.heap[q]? = G.2.2.2.1[q]? := fun q hq _ => by rw [hheap', hT]; exact hR.2.2.1 q hq
    have hatoms : ∀ a ∈ Jvm.Bundle.ownAtoms0 i.1 ic E ["java/lang/RuntimeException", "java/lang/Exception"], a.before (ja x) s' = true := by
      intro a ha
      rcases j_xat_of ha with rfl | ha
      · exact hts' _ hm
      · rcases hat a ha with h | h | rfl | rfl | rfl | rfl
        · exact hts' _ h
        · exact hK'.use h
        · exact j_isref (hK'.2.2.2.2.2.2.2.2.2.2.1.1.kept hH')
        · exact j_isref (hK'.2.2.2.2.2.2.2.2.2.2.2.1.1.kept hH')
        · exact hK'.2.2.2.2.2.2.2.2.2.2.1.2.use (fun q hq => hH' q hq (by omega))
        · exact hK'.2.2.2.2.2.2.2.2.2.2.2.1.2.use (fun q hq => hH' q hq (by omega))
    obtain ⟨cE, kE, hfc, hkE, -⟩ := Cond.instantiable_spec (hts' _ hins)
    have w : W (jp x) (jl x) (je x) { jR x with cells := (jR x).cells - cells, slots := (jR x).slots - slots } s' (jm x) (ja x) (jb x) (jt x) (jc x) T.heap [] 0 0
        (fun t => t.status = .running ∧ Ended t (jb x) (.threw T.heap.size) ∧ s'.WarmedH t.vm ∧ s'.sameButNew ({ t with vm := s'.vm } : State) [] 1 6 ∧ ∃ ce, t.heap[T.heap.size]? = some ce ∧ Jvm.Bundle.OwnCell (ja x) s' E T.heap.size .null ce) (F0 (jm x) pc ls (st.map (rn G))) := by
      refine W.newcK hx hb hown' (hts' _ hl) (hts' _ hins) (hts' _ hini) rfl d0 (by show 0 + 1 ≤ (jR x).cells - cells; omega) (by show 0 + 6 ≤ (jR x).slots - slots; omega) hfc rfl fun H1 kC hkC z1 z2 z3 => ?_
      refine lv_dup hx hb d1 rfl ?_
      intro T2 hT2 X2
      obtain ⟨U, u1, u2, u3, u4, u5, ce, u6, u7⟩ := X2.ctorThrow0 (W := T2) hx hstr hown' hfE (names := ["java/lang/RuntimeException", "java/lang/Exception"]) (by decide +kernel) hatoms (fun y hy => by cases hy) (a := T.heap.size) hfc hkC (by rw [hT2]; exact z1) (by rw [hheap']; exact Nat.le_refl _)
        (g := F0 (jm x) (pc + 3 + 1) ls (.ref T.heap.size :: .ref T.heap.size :: st.map (rn G))) rfl (by rw [hml]; exact hls) rfl rfl rfl (by rw [hb]; exact d2) (by rw [hb]; exact d3) (by
          rw [hno] at htab
          intro z hz
          rw [List.map_eq_nil_iff.mp htab] at hz
          cases hz) (by show 2 + 3 < (jR x).frames; omega) (by
          have e := j_sc_rn G st
          show 2 * 0 + (1 + ((st.map (rn G)).map fun v => v.category).sum) + _ ≤ (jR x).locals
          rw [e]
          show _ + (13 * (2 + 1) + 41) ≤ _
          omega) hlk
      exact ⟨U, u1, u2, u3, u4, u5, ce, u6, u7⟩
    obtain ⟨t, a1, b1, b2, b3, b4, ce, b5, b6⟩ := w T rfl X0
    have htop : adr G mem.1 = T.heap.size := by rw [hT]; exact hR.top
    have hW2 : T.WarmedH t.vm := by rw [← hs'] at b3; exact b3
    have hWt : (js x).WarmedH t.vm := State.WarmedH.trans X.warmed hW2
    have hsame : T.sameButNew ({ t with vm := T.vm } : State) [] 1 6 := by
      rw [← hs'] at b4
      obtain ⟨e1, r⟩ := b4
      refine ⟨?_, r⟩
      rw [State.setFrames_setFrames] at e1
      exact e1
    have hold : ∀ q : Nat, q < H.size → t.heap[q]? = H[q]? := fun q hq => by
      have := j_same_old hsame (q := q) (by rw [hT]; exact hq)
      rw [← hT]
      exact this
    have hsz : t.heap.size = H.size + 1 := by
      have g1 : t.heap.size ≤ T.heap.size + 1 := hsame.2.2.1
      have g2 : T.heap.size < t.heap.size := (Array.getElem?_eq_some_iff.mp b5).1
      rw [hT] at g1 g2
      omega
    have hRt : j_R G (mem.1 + 1, mem.2.1 + 6, va_up mem.2.2 mem.1 none) t.heap := hR.push (n := 6) (oc := none) hsz hold (fun c h => by cases h)
    refine ⟨t, a1, .threw (adr G mem.1), b1, by rw [htop]; exact b2, hq t hRt hWt ?_, locs, ⟨hWt, ?_⟩, hfree⟩
    · have hcl := b6.cls
      have al : s'.vm.Alike t.vm := b3.alike
      obtain ⟨k', hk', -⟩ := Vm.findClass_spec (show t.vm.findClass E = some ce.cls by rw [al.findClass]; exact hcl)
      exact ⟨ce, k', by rw [htop]; exact b5, (fun z h => by rw [b6.vm] at h; cases h), by rw [hE, al.findClass]; exact hcl, hk'⟩
    · have h2 := X.same.trans (hsame.setVm (js x).vm)
      rw [List.append_nil] at h2
      exact h2
end THROW
