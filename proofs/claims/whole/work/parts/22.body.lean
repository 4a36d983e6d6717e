/-! THE LAW'S BODY AS A RUN OF THE SMALL MACHINE (own text) -/
set_option maxHeartbeats 1000000 in
theorem j_body {G : j_G} {l : Launch} {d : Nat} {o : j_O} {mem0 mo : j_M} {x : j_X} (hst : ∀ e, l.admits e → e.platform.stackTraces = false) (hl : jl x = l) (hx : j_cx G i_law x) (hf : d + 1 ≤ (jR x).frames) (hlo : 64 * (d + 1) ≤ (jR x).locals) (hcl : mo.1 - mem0.1 ≤ (jR x).cells) (hsl : mo.2.1 - mem0.2.1 ≤ (jR x).slots)
    {v : Option Value} (ho : o = .inl v) (hev : ∀ P : Nat → j_L → List Value → j_M → Prop,
    (∀ pc lc st mem pc' lc' st' mem', j_tab q_law pc lc st mem = some (.inl (pc', lc', st', mem')) → P pc' lc' st' mem' → P pc lc st mem) →
    (∀ pc lc st mem v, j_tab q_law pc lc st mem = some (.inr (.inl v)) → o = .inl v → mo = mem → P pc lc st mem) →
    (∀ pc lc st mem k as r v mem', j_tab q_law pc lc st mem = some (.inr (.inr (.inl (k, as, r)))) → j_ex tb d k as mem (.inl v) mem' → P (pc + 3) lc (v.toList ++ r) mem' → P pc lc st mem) → P 0 (j_en 8 [.ref 0]) [] mem0)
    {H : Heap} (hR : j_R G mem0 H) {ls : Array Slot} (hH : j_H G ls 8 (j_en 8 [.ref 0])) :
    j_W x H [] 0 0 (j_MQ (jb x) (j_Qc G o mo) (ja x) (js x) (mo.1 - mem0.1) (mo.2.1 - mem0.2.1) (fun q => G.2.2.2.1.size ≤ q)) (F0 (jm x) 0 ls []) := by
  have key := hev (fun pc lc st mem => mem.1 ≤ mo.1 ∧ mem.2.1 ≤ mo.2.1 ∧ ∀ (H : Heap) (locs : List Loc) (ls : Array Slot),
      mem0.1 ≤ mem.1 → mem0.2.1 ≤ mem.2.1 → j_R G mem H → j_H G ls 8 lc → j_B G locs →
      j_W x H locs (mem.1 - mem0.1) (mem.2.1 - mem0.2.1) (j_MQ (jb x) (j_Qc G o mo) (ja x) (js x) (mo.1 - mem0.1) (mo.2.1 - mem0.2.1) (fun q => G.2.2.2.1.size ≤ q)) (F0 (jm x) pc ls (st.map (rn G))))
      (by
        rintro pc lc st mem pc' lc' st' mem' hc ⟨a1, a2, a3⟩
        obtain ⟨b1, b2, b3⟩ := o_law G pc lc st mem _ hc
        refine ⟨Nat.le_trans b1 a1, Nat.le_trans b2 a2, fun H locs ls m1 m2 hR hH hB => ?_⟩
        have e1 : (mem.1 - mem0.1) + (mem'.1 - mem.1) = mem'.1 - mem0.1 := by omega
        have e2 : (mem.2.1 - mem0.2.1) + (mem'.2.1 - mem.2.1) = mem'.2.1 - mem0.2.1 := by omega
        refine b3 x H locs _ _ _ ls hx hR hH hB (by rw [e1]; omega) (by rw [e2]; omega) fun H' locs' ls' hR' hH' hB' => ?_
        rw [e1, e2]
        exact a3 H' locs' ls' (Nat.le_trans m1 b1) (Nat.le_trans m2 b2) hR' hH' hB')
      (by
        rintro pc lc st mem w hc hw rfl
        subst hw
        have b3 := o_law G pc lc st mo _ hc
        refine ⟨Nat.le_refl _, Nat.le_refl _, fun H locs ls m1 m2 hR hH hB => ?_⟩
        exact b3 x H locs _ _ ls (j_Qc G (.inl w) mo) (fun q => G.2.2.2.1.size ≤ q) hx (fun t ht _ => ⟨rfl, by rw [ht]; exact hR⟩) hB)
      (by
        rintro pc lc st mem k' as' r v' mem' hc hC ⟨a1, a2, a3⟩
        obtain ⟨b1, b2, b3⟩ := sim G (l := l) hst hC
        have b4 := o_law G pc lc st mem _ hc
        refine ⟨Nat.le_trans b1 a1, Nat.le_trans b2 a2, fun H locs ls m1 m2 hR hH hB => ?_⟩
        have e1 : (mem.1 - mem0.1) + (mem'.1 - mem.1) = mem'.1 - mem0.1 := by omega
        have e2 : (mem.2.1 - mem0.2.1) + (mem'.2.1 - mem.2.1) = mem'.2.1 - mem0.2.1 := by omega
        refine b4 d _ mem' x H locs _ _ _ ls (by rw [hl]; exact b3) b1 b2 hx hf hlo hR hH hB (by rw [e1]; omega) (by rw [e2]; omega) fun H' locs' hR' hB' => ?_
        rw [e1, e2]
        exact a3 H' locs' ls (Nat.le_trans m1 b1) (Nat.le_trans m2 b2) hR' hH hB')
  obtain ⟨k1, k2, k3⟩ := key
  have k4 := k3 H [] ls (Nat.le_refl _) (Nat.le_refl _) hR hH (fun q hq => by cases hq)
  simp only [Nat.sub_self] at k4
  exact k4
/-- a run of the law's body (no call of it throws) -/
def j_lv (d : Nat) (o : j_O) (mo : j_M) (pc : Nat) (lc : j_L) (st : List Value) (mem : j_M) : Prop := ∀ P : Nat → j_L → List Value → j_M → Prop,
    (∀ pc lc st mem pc' lc' st' mem', j_tab q_law pc lc st mem = some (.inl (pc', lc', st', mem')) → P pc' lc' st' mem' → P pc lc st mem) →
    (∀ pc lc st mem v, j_tab q_law pc lc st mem = some (.inr (.inl v)) → o = .inl v → mo = mem → P pc lc st mem) →
    (∀ pc lc st mem k as r v mem', j_tab q_law pc lc st mem = some (.inr (.inr (.inl (k, as, r)))) → j_ex tb d k as mem (.inl v) mem' → P (pc + 3) lc (v.toList ++ r) mem' → P pc lc st mem) → P pc lc st mem
