/-! WHAT HOLDS AT THE LAW'S START (own text) -/
def s_ext (b al em mi : Nat) : Nat → Nat := fun i => match i with
  | 0 => b
  | 1 => al
  | 2 => em
  | _ => mi
theorem s_cls {args : Array Value} {s : State} (hts : ∀ w ∈ lwg, w.before args s = true) : ∃ (dC : Nat → ClassId) (dI : Nat → Nat → Nat), ∀ (c : Nat) (q : vw_C), cls[c]? = some q → u_Kn s q.1 q.2.1 q.2.2 (dC c) (dI c) := by
  have h : ∀ c : Nat, ∃ p : ClassId × (Nat → Nat), ∀ q, cls[c]? = some q → u_Kn s q.1 q.2.1 q.2.2 p.1 p.2 := by
    intro c
    have go : ∀ (C : String) (T : u_T) (N : Nat), (∀ w ∈ u_ws C T N, w ∈ lwg) → Cond.instantiable C N ∈ lwg → cls[c]? = some (C, T, N) → ∃ p : ClassId × (Nat → Nat), ∀ q, cls[c]? = some q → u_Kn s q.1 q.2.1 q.2.2 p.1 p.2 := by
      intro C T N h1 h2 h3
      obtain ⟨cC, iS, hK⟩ := u_known (C := C) (T := T) (N := N) (n := N) hts h1 (hts _ h2)
      exact ⟨(cC, iS), fun q hq => by cases h3.symm.trans hq; exact hK⟩
    match c with
    | 0 => exact go _ _ _ w_LT k_n0 rfl
    | 1 => exact go _ _ _ w_Tp k_n1 rfl
    | 2 => exact go _ _ _ w_Vi k_n2 rfl
    | 3 => exact go _ _ _ w_Ch k_n3 rfl
    | 4 => exact go _ _ _ w_Me k_n4 rfl
    | 5 => exact go _ _ _ w_Lv k_n5 rfl
    | 6 => exact go _ _ _ w_Wk k_n6 rfl
    | 7 => exact go _ _ _ w_Wr k_n7 rfl
    | 8 => exact go _ _ _ w_Ve k_n8 rfl
    | 9 => exact go _ _ _ w_Tb k_n9 rfl
    | 10 => exact go _ _ _ w_AL k_n10 rfl
    | 11 => exact go _ _ _ w_Mo k_n11 rfl
    | n + 12 => exact ⟨(0, fun _ => 0), fun q hq => by simp [cls] at hq⟩
  exact ⟨fun c => (Classical.choose (h c)).1, fun c => (Classical.choose (h c)).2, fun c q hq => Classical.choose_spec (h c) q hq⟩
theorem s_arr {args : Array Value} {s : State} (hts : ∀ w ∈ lwg, w.before args s = true) (htn : ∀ w ∈ lwn, w.before args s = true) : ∃ dA : Nat → ClassId, (∀ (k : Nat) (ty : FieldType), aty[k]? = some ty → ArrOfT s (dA k) ty ∧ va_RA s (dA k) ty) ∧ (∃ (kA : Class) (comp : ClassId), s.vm.classes[dA 7]? = some kA ∧ kA.kind = .array comp (.array .long) ∧ s.vm.findClass "[J" = some comp) := by
  have prim : ∀ ty : FieldType, Cond.arrayClass ty ∈ lwg → ∃ cA : ClassId, ArrOfT s cA ty ∧ s.vm.findClass ("[" ++ ty.toString) = some cA := by
    intro ty hw
    obtain ⟨c, k, comp, h1, h2, h3⟩ := Cond.arrayClass_spec (hts _ hw)
    exact ⟨c, fun n z => ⟨fun k h => (by cases h), k, h2, comp, h3⟩, h1⟩
  have obj : ∀ C : String, Cond.arrayOver (.object C) ∈ lwn → ∃ cA : ClassId, ArrOfT s cA (.object C) ∧ va_RA s cA (.object C) := by
    intro C hw
    obtain ⟨comp, c, k, h1, -, h3, h4, h5⟩ := Cond.arrayOver_spec (htn _ hw)
    exact ⟨c, fun n z => ⟨fun k h => (by cases h), k, h3, comp, h4⟩, k, comp, h3, h4, h1, h5⟩
  obtain ⟨comp7, c7, k7, a1, -, a3, a4, a5⟩ := arrayOverA_spec (htn _ k_aoJ)
  have h : ∀ k : Nat, ∃ cA : ClassId, (k = 7 → cA = c7) ∧ ∀ ty, aty[k]? = some ty → ArrOfT s cA ty ∧ va_RA s cA ty := by
    intro k
    match k with
    | 0 => obtain ⟨c, q1, q2⟩ := prim .int k_acI; exact ⟨c, fun h => by omega, fun ty ht => by cases ht; exact ⟨q1, q2⟩⟩
    | 1 => obtain ⟨c, q1, q2⟩ := prim .long k_acJ; exact ⟨c, fun h => by omega, fun ty ht => by cases ht; exact ⟨q1, q2⟩⟩
    | 2 => obtain ⟨c, q1, q2⟩ := prim .byte k_acB; exact ⟨c, fun h => by omega, fun ty ht => by cases ht; exact ⟨q1, q2⟩⟩
    | 3 => obtain ⟨c, q1, q2⟩ := obj _ k_aoV; exact ⟨c, fun h => by omega, fun ty ht => by cases ht; exact ⟨q1, q2⟩⟩
    | 4 => obtain ⟨c, q1, q2⟩ := obj _ k_aoR; exact ⟨c, fun h => by omega, fun ty ht => by cases ht; exact ⟨q1, q2⟩⟩
    | 5 => obtain ⟨c, q1, q2⟩ := obj _ k_aoL; exact ⟨c, fun h => by omega, fun ty ht => by cases ht; exact ⟨q1, q2⟩⟩
    | 6 => obtain ⟨c, q1, q2⟩ := obj _ k_aoO; exact ⟨c, fun h => by omega, fun ty ht => by cases ht; exact ⟨q1, q2⟩⟩
    | 7 => exact ⟨c7, fun _ => rfl, fun ty ht => by cases ht; exact ⟨fun n z => ⟨fun k h => (by cases h), k7, a3, comp7, a4⟩, a5⟩⟩
    | 8 => obtain ⟨c, q1, q2⟩ := prim .boolean k_acZ; exact ⟨c, fun h => by omega, fun ty ht => by cases ht; exact ⟨q1, q2⟩⟩
    | n + 9 => exact ⟨0, fun h => by omega, fun ty ht => by simp [aty] at ht⟩
  refine ⟨fun k => Classical.choose (h k), fun k ty hk => (Classical.choose_spec (h k)).2 ty hk, k7, comp7, ?_, a4, a1⟩
  show s.vm.classes[Classical.choose (h 7)]? = some k7
  rw [(Classical.choose_spec (h 7)).1 rfl]
  exact a3
theorem s_refOf {args : Array Value} {s : State} {C n d : String} (h : (Cond.isRef (.static C n d)).before args s = true) : (∃ a, (Term.static C n d).eval args s none [] s = some (.ref a)) ∨ (Term.static C n d).eval args s none [] s = some .null := by
  obtain ⟨v, hv, hr⟩ := Cond.isRef_spec h
  cases v <;> first | exact Or.inl ⟨_, hv⟩ | exact Or.inr hv | (cases hr)
theorem s_LS {args : Array Value} {s : State} {G : j_G} (hG : G.2.2.2.1 = s.heap) {C n d : String} (h : (Cond.laysStatic C n d).before args s = true) : j_LS G C n d s := by
  obtain ⟨c, k, i, f, a, cell, hc, hi, hst, ha, hcell, hs, hcls, hlt, hty⟩ := Cond.laysStatic_spec h
  exact ⟨c, k, i, f, a, cell, hc, hi, hst, ha, by rw [hG]; exact hcell, hs, hcls, hlt, hty⟩
set_option maxRecDepth 100000 in
theorem s_flat {args : Array Value} {s : State} (h : (Jvm.Cond.and given_1 narrow_1).before args s = true) :
    ((Cond.isRef (.static "LevelTables" "ALLOWED" "[I")).before args s = true ∧ (Cond.arrayOf (.static "LevelTables" "ALLOWED" "[I") .int).before args s = true ∧ (Cond.eq (.length (.static "LevelTables" "ALLOWED" "[I")) (.int 3)).before args s = true ∧
      (Cond.eq (.elem (.static "LevelTables" "ALLOWED" "[I") (.int 0)) (.int 4)).before args s = true ∧ (Cond.eq (.elem (.static "LevelTables" "ALLOWED" "[I") (.int 1)) (.int 8)).before args s = true ∧ (Cond.eq (.elem (.static "LevelTables" "ALLOWED" "[I") (.int 2)) (.int 16)).before args s = true) ∧
    ((Cond.arrayOf (.static "java/util/ArrayList" "DEFAULTCAPACITY_EMPTY_ELEMENTDATA" "[Ljava/lang/Object;") (.object "java/lang/Object")).before args s = true ∧ (Cond.eq (.length (.static "java/util/ArrayList" "DEFAULTCAPACITY_EMPTY_ELEMENTDATA" "[Ljava/lang/Object;")) (.int 0)).before args s = true) ∧
    ((Cond.isRef (.static "java/lang/Throwable" "UNASSIGNED_STACK" "[Ljava/lang/StackTraceElement;")).before args s = true ∧ (Cond.isRef (.static "java/lang/Throwable" "SUPPRESSED_SENTINEL" "Ljava/util/List;")).before args s = true) ∧
    (Cond.isRef (.mirror "[Ljava/lang/Object;")).before args s = true ∧
    ((Cond.not (.castable (x_nm 1) (x_nm 0))).before args s = true ∧ (Cond.not (.castable (x_nm 3) (x_nm 0))).before args s = true ∧ (Cond.not (.castable (x_nm 3) (x_nm 1))).before args s = true ∧ (Cond.not (.castable (x_nm 2) (x_nm 3))).before args s = true) := by
  have hs := flat_of_before _ h
  exact ⟨⟨hs _ (by decide +kernel), hs _ (by decide +kernel), hs _ (by decide +kernel), hs _ (by decide +kernel), hs _ (by decide +kernel), hs _ (by decide +kernel)⟩, ⟨hs _ (by decide +kernel), hs _ (by decide +kernel)⟩, ⟨hs _ (by decide +kernel), hs _ (by decide +kernel)⟩, hs _ (by decide +kernel), ⟨hs _ (by decide +kernel), hs _ (by decide +kernel), hs _ (by decide +kernel), hs _ (by decide +kernel)⟩⟩
/-- at the law's entry the small machine stands: nothing made yet, the four old cells -/
theorem s_start {args : Array Value} {s : State} {b L : Nat} {xs : Nat → Int32} (htl : ∀ w ∈ lw_tbl, w.before args s = true) (hX : va_X b L xs s s.heap) (hbl : b < s.heap.size) (hgv : (Jvm.Cond.and given_1 narrow_1).before args s = true) :
    ∃ G : j_G, G.2.2.2.1 = s.heap ∧ G.2.2.1 0 = b ∧ G.2.2.2.2 = (L, xs) ∧ j_K G s ∧ j_R G (4, 0, j_old G) s.heap := by
  have hts : ∀ w ∈ lwg, w.before args s = true := fun w hw => htl w (lwg_tbl w hw)
  have htn : ∀ w ∈ lwn, w.before args s = true := fun w hw => htl w (lwn_in w hw)
  obtain ⟨⟨f1, f2, f3, f4, f5, f6⟩, ⟨f7, f8⟩, ⟨f9, f10⟩, f11, ⟨f12, f13, f14, f15⟩⟩ := s_flat hgv
  obtain ⟨dC, dI, hC⟩ := s_cls hts
  obtain ⟨dA, hA, h7⟩ := s_arr hts htn
  have hout : ∀ a : Nat, a < s.heap.size → ¬ (fun q => s.heap.size ≤ q) a := fun a h1 h2 => by omega
  obtain ⟨al, hal, hTA⟩ := va_Tof (A := fun q => s.heap.size ≤ q) (N := 3) (f := fun j => .int (([4, 8, 16] : List Int32).getD j 0)) (by omega) f2 (va_eqt f3) (fun j hj => by
    have : j = 0 ∨ j = 1 ∨ j = 2 := by omega
    rcases this with rfl | rfl | rfl
    · exact va_eqt f4
    · exact va_eqt f5
    · exact va_eqt f6) hout
  obtain ⟨em, hem, hTE⟩ := va_Tof (A := fun q => s.heap.size ≤ q) (N := 0) (f := fun _ => .null) (by omega) f7 (va_eqt f8) (fun j hj => by omega) hout
  obtain ⟨mi, hmi⟩ := va_Mi.of f11
  have hT : ∀ {ty : FieldType} {t N : Nat} {f : Nat → Value}, va_T ty t N f (fun q => s.heap.size ≤ q) s s.heap → j_ar s s.heap t ty N f := by
    intro ty t N f h
    obtain ⟨cell, h1, h2, h3, h4, h5, h6, -⟩ := h
    exact ⟨cell, h1, h2, h3, ⟨h4, h5⟩, h6⟩
  have hlt : ∀ {ty : FieldType} {t N : Nat} {f : Nat → Value}, j_ar s s.heap t ty N f → t < s.heap.size := by
    intro ty t N f h
    obtain ⟨cell, h1, -⟩ := h
    exact (Array.getElem?_eq_some_iff.mp h1).1
  have hX' : j_ar s s.heap b .int L (fun j => .int (xs j)) := by
    obtain ⟨scr, h1, h2, h3, h4, h5⟩ := hX
    exact ⟨scr, h1, h2, h3, ⟨by rw [h4]; exact Nat.le_refl _, by rw [h4]⟩, h5⟩
  have hzq : ∀ {C n d : String}, (Cond.laysStatic C n d).before args s = true → (Cond.initialized C).before args s = true → (Cond.isRef (.static C n d)).before args s = true → va_Zq C n d (fun q => s.heap.size ≤ q) s s.heap := by
    intro C n d h1 h2 h3
    rcases s_refOf h3 with ⟨a, ha⟩ | ha
    · exact Or.inr ⟨a, va_Zof h1 h2 ha hout⟩
    · exact Or.inl (va_Zof h1 h2 ha hout)
  refine ⟨((dC, dI), dA, s_ext b al em mi, s.heap, L, xs), rfl, rfl, rfl, ?_, ?_⟩
  · refine ⟨hC, hA, hX', hT hTA, hT hTE, fun i hi => ?_, va_Zof (htl _ z_lsA) (hts _ k_inLT) hal hout, va_Zof (htl _ z_lsE) (hts _ k_inAL) hem hout, hmi, h7, ⟨hzq (htl _ z_lsU) (hts _ k_inTh) f9, s_LS rfl (htl _ z_lsU)⟩, ⟨hzq (htl _ z_lsS) (hts _ k_inTh) f10, s_LS rfl (htl _ z_lsS)⟩, fun w hw => lwn_mk w hw _ _ (htn w hw), j_all_mem ⟨va_Nc.of f12, va_Nc.of f13, va_Nc.of f14, va_Nc.of f15, trivial⟩⟩
    have : i = 0 ∨ i = 1 ∨ i = 2 := by omega
    rcases this with rfl | rfl | rfl
    · exact hbl
    · exact hlt (hT hTA)
    · exact hlt (hT hTE)
  · refine ⟨rfl, Nat.le_refl _, fun q hq => rfl, fun i c hi hc => ?_, fun i hi => rfl⟩
    have hc : j_old _ i = some c := hc
    match i, hi, hc with
    | n + 4, _, hc => cases hc
