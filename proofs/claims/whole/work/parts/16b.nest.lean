/-! constructors of nest mates (own text) -/
section NEST
variable {G : j_G} {tm : Nat → MethodName × Cond} {i : j_I} {pc : Nat}
theorem r_invIN {k ix na : Nat} {host : String} (hl0 : Cond.methodLinkNest i.1 ix (tm k).1 host ∈ lwn) (hin0 : Cond.instanceMethod (tm k).1 ∈ lwg) (hy1 : (tm k).1.name = "<init>") {bytes : ByteArray} {maxL : Nat} (hw0 : (tm k).2 = .code (tm k).1 bytes maxL none) (hcw : j_cwd (tm k).1 (tm k).2) (hnm : (tm k).1.cls ≠ "java/lang/invoke/MethodHandle" ∧ (tm k).1.cls ≠ "java/lang/invoke/VarHandle") (hpar : (parseMethodDescriptor (tm k).1.desc).map (fun d => d.parameters.length) = some na) (hd : decode i.2.1 pc = .ok (.invokespecial ix, 3)) : j_ok G tm i pc (j_ci k na) := by
  intro lc st mem act ha
  unfold j_ci at ha
  split at ha
  next b r hdr =>
        cases hcs : Nat.ble (j_sc r) 8 && ((st.take na).length == na) with
        | false => rw [hcs] at ha; cases ha
        | true =>
          simp only [hcs, cond_true, Option.some.injEq] at ha
          subst ha
          simp only [Bool.and_eq_true, Nat.ble_eq, beq_iff_eq] at hcs
          obtain ⟨hsc, hlen⟩ := hcs
          intro d o mo x H locs cells slots Q ls hM hm1 hm2 hcx hf hl hR hH hB hc hs kk
          obtain ⟨hx, hb, hml, hown, hts, hK, -⟩ := hcx
          intro T0 hT X
          have hpl : (je x).platform.magicAccessors = ({} : Platform).magicAccessors := by rw [X.admits.platform]
          have hsz : ls.size = (jc x).maxLocals := by rw [hml]; exact hH.1
          have hwb : (Cond.code (tm k).1 bytes maxL none).before (ja x) (js x) = true := by rw [← hw0]; exact hts _ hcw.1
          obtain ⟨mk, methM, cM, kP, vm₁, hnamed, hmethM, hcodeM, -, hlocalsM, -, hkP, -, hW₁, hstep₁⟩ := Steps.initColdArgsNest (e := je x) (below := jb x) X.here hx X.warmed hpl hown hy1 hnm (hK.use hl0) (hts _ hin0) hwb (f := F0 (jm x) pc ls (st.map (rn G))) rfl (argsL := (st.take na).reverse.map (rn G)) (a := adr G b) (rest := r.map (rn G))
            (fun sig h => by
              rw [List.length_map, List.length_reverse, hlen]
              rw [h] at hpar
              exact (Option.some.inj hpar).symm) (j_stk hdr) (by rw [hb]; exact hd)
          have X₁ := X.noted hW₁
          obtain ⟨T', locs', X', hB', hR', hend⟩ := j_call (G := G) (x := x) (g := { F0 (jm x) pc ls (st.map (rn G)) with stack := r.map (rn G) }) X₁ hM hts hK hcw (by show j_R G mem T0.heap; rw [hT]; exact hR) hf hl hc hs rfl hsz (by rw [hb]; exact hd) (by rw [j_sc_rn]; show 2 * 0 + _ ≤ _; omega) (X₁.named hnamed) hB
          have k1 := kk T'.heap locs' hR' hB'
          cases o with
          | inl v =>
            obtain ⟨t, a1, b1⟩ := k1 T' rfl X'
            refine ⟨t, hstep₁ _ fun acts => ?_, b1⟩
            rw [doInvoke_state]
            rw [List.map_append] at a1
            exact hend.trans a1
          | inr z =>
            obtain ⟨hend, hcell⟩ := hend
            obtain ⟨t, a1, b1⟩ := k1 hcell T' rfl X'
            refine ⟨t, hstep₁ _ fun acts => ?_, b1⟩
            rw [doInvoke_state]
            exact hend.trans a1
  next => cases ha
end NEST
