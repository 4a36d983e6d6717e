/-! LEVELS CHANGE AMONG THE REST (own text) -/
/-- five lists of tables (the fifth the writer's): what F says of them is all different -/
def Dj (F : TG → List Nat) (LV : Nat → List TG) : Prop := (∀ k, k < 5 → ((LV k).flatMap F).Nodup) ∧ ∀ k k', k < 5 → k' < 5 → k ≠ k' → ∀ b ∈ (LV k).flatMap F, b ∉ (LV k').flatMap F
def fB (τ : TG) : List Nat := τ.1.2.2.1
def fC (τ : TG) : List Nat := [τ.1.1]
theorem ubs_f (l : List TG) : ubs l = l.flatMap fB := rfl
theorem fC_map (l : List TG) : l.flatMap fC = (lfs l).map (fun τ => τ.1) := by
  induction l with
  | nil => rfl
  | cons τ l ih =>
    show [τ.1.1] ++ l.flatMap fC = τ.1.1 :: (lfs l).map (fun τ => τ.1)
    rw [ih]
    rfl
theorem cutT {l : List TG} {a b : Nat} (hab : a ≤ b) : l = l.take a ++ ((l.take b).drop a ++ l.drop b) := by
  have h1 : (l.take b) = (l.take b).take a ++ (l.take b).drop a := (List.take_append_drop a _).symm
  rw [List.take_take, Nat.min_eq_left hab] at h1
  rw [← List.append_assoc, ← h1, List.take_append_drop]
theorem Dj_rem {F : TG → List Nat} {LV : Nat → List TG} {k a b : Nat} (h : Dj F LV) (hab : a ≤ b) : Dj F (va_up LV k ((LV k).take a ++ (LV k).drop b)) := by
  have sub : ∀ x, x ∈ ((LV k).take a ++ (LV k).drop b).flatMap F → x ∈ (LV k).flatMap F := fun x hx => by
    obtain ⟨τ, h1, h2⟩ := List.mem_flatMap.mp hx
    refine List.mem_flatMap.mpr ⟨τ, ?_, h2⟩
    rcases List.mem_append.mp h1 with q | q
    · exact List.mem_of_mem_take q
    · exact List.mem_of_mem_drop q
  have sub2 : ∀ j x, x ∈ (va_up LV k ((LV k).take a ++ (LV k).drop b) j).flatMap F → x ∈ (LV j).flatMap F := fun j x hx => by
    by_cases c : j = k
    · subst c
      rw [va_up_self] at hx
      exact sub x hx
    · rw [va_up_ne _ _ c] at hx
      exact hx
  refine ⟨fun j hj => ?_, fun j j' hj hj' hne x hx hx' => h.2 j j' hj hj' hne x (sub2 j x hx) (sub2 j' x hx')⟩
  by_cases c : j = k
  · subst c
    rw [va_up_self]
    have q := h.1 j hj
    rw [cutT (l := LV j) hab, List.flatMap_append, List.flatMap_append] at q
    rw [List.flatMap_append]
    have q1 := List.nodup_append.mp q
    have q2 := List.nodup_append.mp q1.2.1
    exact List.nodup_append.mpr ⟨q1.1, q2.2.1, fun x hx y hy => q1.2.2 x hx y (List.mem_append_right _ hy)⟩
  · rw [va_up_ne _ _ c]
    exact h.1 j hj
theorem Dj_ins {F : TG → List Nat} {LV : Nat → List TG} {k a : Nat} (h : Dj F LV) (hk : k < 4) : Dj F (va_up (va_up LV k ((LV k).take a ++ LV 4 ++ (LV k).drop a)) 4 []) := by
  have e4 : ∀ j, j ≠ 4 → j ≠ k → va_up (va_up LV k ((LV k).take a ++ LV 4 ++ (LV k).drop a)) 4 [] j = LV j := fun j h1 h2 => by rw [va_up_ne _ _ h1, va_up_ne _ _ h2]
  have ek : va_up (va_up LV k ((LV k).take a ++ LV 4 ++ (LV k).drop a)) 4 [] k = (LV k).take a ++ LV 4 ++ (LV k).drop a := by rw [va_up_ne _ _ (by omega), va_up_self]
  have e44 : va_up (va_up LV k ((LV k).take a ++ LV 4 ++ (LV k).drop a)) 4 [] 4 = [] := va_up_self _ _ _
  have memk : ∀ x, x ∈ ((LV k).take a ++ LV 4 ++ (LV k).drop a).flatMap F → x ∈ (LV k).flatMap F ∨ x ∈ (LV 4).flatMap F := fun x hx => by
    obtain ⟨τ, h1, h2⟩ := List.mem_flatMap.mp hx
    rcases List.mem_append.mp h1 with q | q
    · rcases List.mem_append.mp q with q | q
      · exact Or.inl (List.mem_flatMap.mpr ⟨τ, List.mem_of_mem_take q, h2⟩)
      · exact Or.inr (List.mem_flatMap.mpr ⟨τ, q, h2⟩)
    · exact Or.inl (List.mem_flatMap.mpr ⟨τ, List.mem_of_mem_drop q, h2⟩)
  refine ⟨fun j hj => ?_, fun j j' hj hj' hne x hx hx' => ?_⟩
  · by_cases c4 : j = 4
    · subst c4
      rw [e44]
      exact List.Pairwise.nil
    · by_cases c : j = k
      · subst c
        rw [ek, List.flatMap_append, List.flatMap_append]
        have q := h.1 j hj
        rw [← List.take_append_drop a (LV j), List.flatMap_append] at q
        have q1 := List.nodup_append.mp q
        have p : ∀ x ∈ (LV j).flatMap F, x ∉ (LV 4).flatMap F := h.2 j 4 hj (by omega) (by omega)
        have i1 : ∀ x ∈ ((LV j).take a).flatMap F, x ∈ (LV j).flatMap F := fun x hx => by
          obtain ⟨τ, h1, h2⟩ := List.mem_flatMap.mp hx
          exact List.mem_flatMap.mpr ⟨τ, List.mem_of_mem_take h1, h2⟩
        have i2 : ∀ x ∈ ((LV j).drop a).flatMap F, x ∈ (LV j).flatMap F := fun x hx => by
          obtain ⟨τ, h1, h2⟩ := List.mem_flatMap.mp hx
          exact List.mem_flatMap.mpr ⟨τ, List.mem_of_mem_drop h1, h2⟩
        refine List.nodup_append.mpr ⟨List.nodup_append.mpr ⟨q1.1, h.1 4 (by omega), fun x hx y hy e => p x (i1 x hx) (by rw [e]; exact hy)⟩, q1.2.1, fun x hx y hy e => ?_⟩
        rcases List.mem_append.mp hx with w | w
        · exact q1.2.2 x w y hy e
        · exact p y (i2 y hy) (by rw [← e]; exact w)
      · rw [e4 j c4 c]
        exact h.1 j hj
  · by_cases c4 : j = 4
    · subst c4
      rw [e44] at hx
      cases hx
    · by_cases c4' : j' = 4
      · subst c4'
        rw [e44] at hx'
        cases hx'
      · by_cases c : j = k
        · subst c
          rw [ek] at hx
          rw [e4 j' c4' (by omega)] at hx'
          rcases memk x hx with w | w
          · exact h.2 j j' hj hj' hne x w hx'
          · exact h.2 4 j' (by omega) hj' (by omega) x w hx'
        · by_cases c' : j' = k
          · subst c'
            rw [ek] at hx'
            rw [e4 j c4 c] at hx
            rcases memk x hx' with w | w
            · exact h.2 j j' hj hj' hne x hx w
            · exact h.2 j 4 hj (by omega) (by omega) x hx w
          · rw [e4 j c4 c] at hx
            rw [e4 j' c4' c'] at hx'
            exact h.2 j j' hj hj' hne x hx hx'
/-- blocks in use are taken, others are not -/
def Tk (LV : Nat → List TG) (T : Nat → Int32) : Prop := (∀ k, k < 5 → ∀ b ∈ ubs (LV k), b < 1000 ∧ T b = 1) ∧ ∀ b, b < 1000 → (∀ k, k < 5 → b ∉ ubs (LV k)) → T b = 0
theorem Tk_rem {LV : Nat → List TG} {T : Nat → Int32} {k a b : Nat} (h : Tk LV T) (hD : Dj fB LV) (hk : k < 5) (hab : a ≤ b) : Tk (va_up LV k ((LV k).take a ++ (LV k).drop b)) (mk T (ubs (((LV k).take b).drop a)) 0) := by
  have cut : ∀ x, x ∈ ubs (LV k) ↔ x ∈ ubs ((LV k).take a ++ (LV k).drop b) ∨ x ∈ ubs (((LV k).take b).drop a) := fun x => by
    have e : ubs (LV k) = ubs ((LV k).take a) ++ (ubs (((LV k).take b).drop a) ++ ubs ((LV k).drop b)) := by rw [← ubs_app, ← ubs_app, ← cutT hab]
    rw [e, ubs_app]
    simp only [List.mem_append]
    constructor
    · rintro (q | q | q)
      · exact Or.inl (Or.inl q)
      · exact Or.inr q
      · exact Or.inl (Or.inr q)
    · rintro ((q | q) | q)
      · exact Or.inl q
      · exact Or.inr (Or.inr q)
      · exact Or.inr (Or.inl q)
  have dis : ∀ x, x ∈ ubs ((LV k).take a ++ (LV k).drop b) → x ∉ ubs (((LV k).take b).drop a) := fun x hx hx' => by
    have e : ubs (LV k) = ubs ((LV k).take a) ++ (ubs (((LV k).take b).drop a) ++ ubs ((LV k).drop b)) := by rw [← ubs_app, ← ubs_app, ← cutT hab]
    have q := hD.1 k hk
    rw [← ubs_f, e] at q
    have q1 := List.nodup_append.mp q
    have q2 := List.nodup_append.mp q1.2.1
    rw [ubs_app] at hx
    rcases List.mem_append.mp hx with w | w
    · exact q1.2.2 x w x (List.mem_append_left _ hx') rfl
    · exact q2.2.2 x hx' x w rfl
  refine ⟨fun j hj x hx => ?_, fun x hx hn => ?_⟩
  · by_cases c : j = k
    · subst c
      rw [va_up_self] at hx
      have := h.1 j hj x ((cut x).mpr (Or.inl hx))
      refine ⟨this.1, ?_⟩
      unfold mk
      rw [if_neg (dis x hx)]
      exact this.2
    · rw [va_up_ne _ _ c] at hx
      have := h.1 j hj x hx
      refine ⟨this.1, ?_⟩
      unfold mk
      rw [if_neg (fun q => hD.2 j k hj hk c x hx ((cut x).mpr (Or.inr q)))]
      exact this.2
  · unfold mk
    split
    · rfl
    · rename_i q
      refine h.2 x hx (fun j hj w => ?_)
      by_cases c : j = k
      · subst c
        rcases (cut x).mp w with w | w
        · have := hn j hj
          rw [va_up_self] at this
          exact this w
        · exact q w
      · have := hn j hj
        rw [va_up_ne _ _ c] at this
        exact this w
theorem Tk_ins {LV : Nat → List TG} {T : Nat → Int32} {k a : Nat} (h : Tk LV T) (hk : k < 4) : Tk (va_up (va_up LV k ((LV k).take a ++ LV 4 ++ (LV k).drop a)) 4 []) T := by
  have ek : va_up (va_up LV k ((LV k).take a ++ LV 4 ++ (LV k).drop a)) 4 [] k = (LV k).take a ++ LV 4 ++ (LV k).drop a := by rw [va_up_ne _ _ (by omega), va_up_self]
  have e44 : va_up (va_up LV k ((LV k).take a ++ LV 4 ++ (LV k).drop a)) 4 [] 4 = [] := va_up_self _ _ _
  have cut : ∀ x, x ∈ ubs ((LV k).take a ++ LV 4 ++ (LV k).drop a) ↔ x ∈ ubs (LV k) ∨ x ∈ ubs (LV 4) := fun x => by
    have e : ubs (LV k) = ubs ((LV k).take a) ++ ubs ((LV k).drop a) := by rw [← ubs_app, List.take_append_drop]
    rw [e, ubs_app, ubs_app]
    simp only [List.mem_append]
    constructor
    · rintro ((q | q) | q)
      · exact Or.inl (Or.inl q)
      · exact Or.inr q
      · exact Or.inl (Or.inr q)
    · rintro ((q | q) | q)
      · exact Or.inl (Or.inl q)
      · exact Or.inr q
      · exact Or.inl (Or.inr q)
  refine ⟨fun j hj x hx => ?_, fun x hx hn => h.2 x hx (fun j hj w => ?_)⟩
  · by_cases c4 : j = 4
    · subst c4
      rw [e44] at hx
      cases hx
    · by_cases c : j = k
      · subst c
        rw [ek] at hx
        rcases (cut x).mp hx with w | w
        · exact h.1 j hj x w
        · exact h.1 4 (by omega) x w
      · rw [va_up_ne _ _ c4, va_up_ne _ _ c] at hx
        exact h.1 j hj x hx
  · by_cases c4 : j = 4
    · subst c4
      have := hn k (by omega)
      rw [ek] at this
      exact this ((cut x).mpr (Or.inr w))
    · by_cases c : j = k
      · subst c
        have := hn j hj
        rw [ek] at this
        exact this ((cut x).mpr (Or.inl w))
      · have := hn j hj
        rw [va_up_ne _ _ c4, va_up_ne _ _ c] at this
        exact this w
theorem Lw_fr2 {mem mem' : j_M} {L e cap : Nat} {ts : List TR} (h : Lw mem L e cap ts) (h1 : mem'.2.2 L = mem.2.2 L) (h2 : mem'.2.2 (L + 3) = mem.2.2 (L + 3)) (he : mem'.2.2 e = mem.2.2 e) (h4 : ∀ τ ∈ ts, mem'.2.2 τ.1 = mem.2.2 τ.1 ∧ mem'.2.2 τ.2.1 = mem.2.2 τ.2.1) : Lw mem' L e cap ts := by
  obtain ⟨a1, _, ⟨md, E, b1, b2, b3, b4⟩, a4⟩ := h
  refine ⟨by rw [h1]; exact a1, trivial, ⟨md, E, by rw [h2]; exact b1, by rw [he]; exact b2, b3, b4⟩, fun j hj => ?_⟩
  have hm := h4 _ (trD_mem hj)
  exact TbX_fr (a4 j hj) hm.1 hm.2
theorem Lr_le {mem mem' : j_M} {e cap : Nat} {ts : List TR} (h : Lr mem e cap ts) (hm : mem.1 ≤ mem'.1) : Lr mem' e cap ts := ⟨⟨h.1.1, fun c => by have := h.1.2 c; omega⟩, fun τ hτ => by have := h.2 τ hτ; omega⟩
/-- the fixed cells that a level's change leaves -/
def Ot (mem mem' : j_M) (k : Nat) : Prop := ∀ c, c < 78 → c ≠ 12 → c ≠ 32 + 4 * k → c ≠ 35 + 4 * k → mem'.2.2 c = mem.2.2 c
/-- the writer's tables, in memory -/
def Fst (mem : j_M) (fs : List TG) : Prop := ∀ τ ∈ fs, (∃ st, TbX mem τ.1 st) ∧ 78 ≤ τ.1.1 ∧ τ.1.1 < mem.1 ∧ 78 ≤ τ.1.2.1 ∧ τ.1.2.1 < mem.1
/-- all lists' arrays are different; e is the writer's -/
def Ed (E C : Nat → Nat) (e cap : Nat) : Prop := (∀ k, k < 4 → C k ≠ 0 → cap ≠ 0 → E k ≠ e) ∧ ∀ k k', k < 4 → k' < 4 → k ≠ k' → C k ≠ 0 → C k' ≠ 0 → E k ≠ E k'
section OPS
variable {mem : j_M} {G : Nat → Nat → Int64} {mm : List Nat} {R : Nat → Int64} {E C : Nat → Nat} {LV : Nat → List TG} {B : Nat → Option Nat} {Wn T U : Nat → Int32} {D : Nat → Nat → Int64} {e cap k a b : Nat} {xs : List Nat}
theorem Lv_of (hb : Bs mem G mm R E C LV B Wn T U D) (hV : Vs mem) (hk : k < 4) : ∃ fm, Lv mem (32 + 4 * k) (E k) (C k) (lfs (LV k)) fm := by
  obtain ⟨⟨l1, _, l3, l4⟩, -⟩ := hb.2.2.2.1 k hk
  obtain ⟨f, hf⟩ := hV (32 + 4 * k + 1) (by unfold vcell; omega)
  exact ⟨f, l1, hf, l3, l4⟩
theorem lfs_mem {l : List TG} {τ : TR} (h : τ ∈ lfs l) : ∃ σ ∈ l, σ.1 = τ := List.mem_map.mp h
theorem op_rem (d : Nat) (hb : Bs mem G mm R E C LV B Wn T U D) (hV : Vs mem) (hk : k < 4) (h78 : 78 ≤ mem.1) (hDc : Dj fC LV) (hF : Fst mem (LV 4)) (hE : Ed E C e cap) (hA : Al mem 67 e cap xs) (hAe : Ale mem e cap) (hab : a ≤ b) (hbl : b ≤ (LV k).length) :
    ∃ mem', j_ex tb (d + 5) m_Lv_remove [.ref (32 + 4 * k), .int (nI a), .int (nI b)] mem (.inl none) mem' ∧ Bs mem' G mm R E C (va_up LV k ((LV k).take a ++ (LV k).drop b)) B Wn (mk T (ubs (((LV k).take b).drop a)) 0) U D ∧ Vs mem' ∧ Fst mem' (LV 4) ∧ Al mem' 67 e cap xs ∧ Ale mem' e cap ∧ mem'.1 = mem.1 ∧ mem'.2.1 = mem.2.1 ∧ Ot mem mem' k := by
  obtain ⟨fm, hLv⟩ := Lv_of hb hV hk
  obtain ⟨b1, b2, b3, b4, b5, b6, b7⟩ := hb
  obtain ⟨l1, l2, l3, l4⟩ := b4 k hk
  have hk4 : k = 0 ∨ k = 1 ∨ k = 2 ∨ k = 3 := by omega
  have hW : ∀ τ ∈ lfs (LV k), Wt B τ := fun τ hτ => by
    obtain ⟨σ, h1, rfl⟩ := lfs_mem hτ
    exact (b7 k hk σ h1).1
  have hnd : ((lfs (LV k)).map (fun τ => τ.1)).Nodup := by rw [← fC_map]; exact hDc.1 k (by omega)
  obtain ⟨mem', r1, r2, r3, r4, r5, r6⟩ := x_Lv_remove d hLv l2 hnd (by omega) b5 hW l3 l4 hab (by rw [lfs_len]; exact hbl)
  have el : (lfs (LV k)).take a ++ (lfs (LV k)).drop b = lfs ((LV k).take a ++ (LV k).drop b) := by
    unfold lfs
    rw [List.map_append, List.map_take, List.map_drop]
  have eb : (((lfs (LV k)).take b).drop a).flatMap (fun τ => τ.2.2.1) = ubs (((LV k).take b).drop a) := by
    unfold lfs ubs
    rw [← List.map_take, ← List.map_drop, List.flatMap_map]
  rw [el] at r2
  rw [eb] at r3
  obtain ⟨_, _, ⟨mdk, Efk, qk1, qk2, qk3, qk4⟩, _⟩ := l1
  -- cells that stay
  have notab : ∀ c v, mem.2.2 c = some v → (∀ z, v ≠ .inr (9, z)) → ∀ τ ∈ lfs (LV k), c ≠ τ.1 := fun c v hc h9 τ hτ ec => by
    obtain ⟨j, hj, hjj⟩ := List.mem_iff_getElem.mp hτ
    have t := hLv.2.2.2 j hj
    rw [List.getD_eq_getElem?_getD, List.getElem?_eq_getElem hj] at t
    have t1 : mem.2.2 ((lfs (LV k))[j]).1 = _ := t.1
    rw [hjj, ← ec, hc] at t1
    cases t1
    exact h9 _ rfl
  have noarr : ∀ c v, mem.2.2 c = some v → (∀ z, v ≠ .inl (6, z)) → c ≠ E k := fun c v hc h6 ec => by
    rw [ec, qk2] at hc
    cases hc
    exact h6 _ rfl
  have small : Ot mem mem' k := fun c c1 c2 c3 c4 => by
    refine r6 c c3 (by omega) ?_ c2 (fun τ hτ ec => by have := (l2.2 τ hτ).1; omega)
    by_cases cc : C k = 0
    · have := l2.1.1 cc
      omega
    · have := (l2.1.2 cc).1
      omega
  have big : ∀ c v, 78 ≤ c → mem.2.2 c = some v → (∀ z, v ≠ .inl (6, z)) → (∀ z, v ≠ .inr (9, z)) → mem'.2.2 c = mem.2.2 c := fun c v c1 hc h6 h9 => r6 c (by omega) (by omega) (Or.inl (noarr c v hc h6)) (by omega) (notab c v hc h9)
  have tabs : ∀ k', k' < 5 → k' ≠ k → ∀ τ ∈ LV k', (∃ st, TbX mem τ.1 st) → 78 ≤ τ.1.1 → 78 ≤ τ.1.2.1 → mem'.2.2 τ.1.1 = mem.2.2 τ.1.1 ∧ mem'.2.2 τ.1.2.1 = mem.2.2 τ.1.2.1 := fun k' hk' hne τ hτ ⟨st, t⟩ t1 t2 => by
    constructor
    · refine r6 _ (by omega) (by omega) (Or.inl (noarr _ _ t.1 (fun z q => by cases q))) (by omega) (fun σ hσ ec => ?_)
      obtain ⟨ρ, hρ, rfl⟩ := lfs_mem hσ
      refine hDc.2 k' k hk' (by omega) hne τ.1.1 (List.mem_flatMap.mpr ⟨τ, hτ, by simp [fC]⟩) (List.mem_flatMap.mpr ⟨ρ, hρ, by simp [fC, ec]⟩)
    · obtain ⟨f, f1, f2⟩ := t.2
      exact big _ _ t2 f1 (fun z q => by cases q) (fun z q => by cases q)
  have arr : ∀ c cap' xs' l', (∃ (md : Int32) (Ef : Nat → Option Nat), mem.2.2 l' = some (.inr (10, [.int md, .ref c, .int (nI xs')])) ∧ mem.2.2 c = some (.inl (6, cap', .inr (.inr (.inr (.inr Ef)))))) → Ale mem c cap' → (C k ≠ 0 → cap' ≠ 0 → c ≠ E k) → mem'.2.2 c = mem.2.2 c := fun c cap' xs' l' ⟨md, Ef, z1, z2⟩ hA' hne => by
    by_cases cc : cap' = 0
    · rw [hA'.1 cc]
      exact small 2 (by omega) (by omega) (by omega) (by omega)
    · have h1 := (hA'.2 cc).1
      refine r6 c (by omega) (by omega) ?_ (by omega) (notab c _ z2 (fun z q => by cases q))
      by_cases ck : C k = 0
      · have := l2.1.1 ck
        exact Or.inl (by omega)
      · exact Or.inl (hne ck cc)
  obtain ⟨md, Ef, al1, al2, al3, al4⟩ := hA
  refine ⟨mem', r1, ⟨⟨(small 14 (by omega) (by omega) (by omega) (by omega)).trans b1.1, trivial, (small 17 (by omega) (by omega) (by omega) (by omega)).trans b1.2.2⟩, b2, b3, fun k' hk' => ?_, r3, ?_, fun k' hk' τ hτ => ?_⟩, ?_, fun τ hτ => ?_, ⟨md, Ef, (small 67 (by omega) (by omega) (by omega) (by omega)).trans al1, (arr e cap _ 67 ⟨md, Ef, al1, al2⟩ hAe (fun q1 q2 q => hE.1 k hk q1 q2 q.symm)).trans al2, al3, al4⟩, ⟨hAe.1, by rw [r4]; exact hAe.2⟩, r4, r5, small⟩
  · by_cases c : k' = k
    · subst c
      show Lw mem' (32 + 4 * k') (E k') (C k') (lfs (va_up LV k' ((LV k').take a ++ (LV k').drop b) k')) ∧ Lr mem' (E k') (C k') (lfs (va_up LV k' ((LV k').take a ++ (LV k').drop b) k')) ∧ C k' < 2 ^ 20 ∧ sta (lfs (va_up LV k' ((LV k').take a ++ (LV k').drop b) k')) (lfs (va_up LV k' ((LV k').take a ++ (LV k').drop b) k')).length < 2 ^ 20
      rw [va_up_self]
      refine ⟨Lv_Lw r2, ⟨⟨l2.1.1, by rw [r4]; exact l2.1.2⟩, fun τ hτ => ?_⟩, l3, ?_⟩
      · rw [r4]
        rw [← el] at hτ
        exact l2.2 τ (rem_sub hτ)
      · have h1 : ∀ τ ∈ LV k', τ.2.length = τ.1.2.2.2.1 := fun τ hτ => (b7 k' hk τ hτ).2.1
        have h2 : ∀ τ ∈ (LV k').take a ++ (LV k').drop b, τ.2.length = τ.1.2.2.2.1 := fun τ hτ => h1 τ ((List.mem_append.mp hτ).elim List.mem_of_mem_take List.mem_of_mem_drop)
        rw [sta_all h1] at l4
        rw [sta_all h2]
        have e3 : (lms (LV k')).flatten.length = (lms ((LV k').take a)).flatten.length + ((lms (((LV k').take b).drop a)).flatten.length + (lms ((LV k').drop b)).flatten.length) := by
          conv => lhs; rw [cutT (l := LV k') hab]
          rw [lms_app, lms_app, List.flatten_append, List.flatten_append, List.length_append, List.length_append]
        rw [lms_app, List.flatten_append, List.length_append]
        omega
    · obtain ⟨p1, p2, p3, p4⟩ := b4 k' hk'
      show Lw mem' (32 + 4 * k') (E k') (C k') (lfs (va_up LV k ((LV k).take a ++ (LV k).drop b) k')) ∧ Lr mem' (E k') (C k') (lfs (va_up LV k ((LV k).take a ++ (LV k).drop b) k')) ∧ C k' < 2 ^ 20 ∧ sta (lfs (va_up LV k ((LV k).take a ++ (LV k).drop b) k')) (lfs (va_up LV k ((LV k).take a ++ (LV k).drop b) k')).length < 2 ^ 20
      rw [va_up_ne _ _ c]
      refine ⟨Lw_fr2 p1 (small _ (by omega) (by omega) (by omega) (by omega)) (small _ (by omega) (by omega) (by omega) (by omega)) ?_ (fun τ hτ => ?_), Lr_le p2 (by omega), p3, p4⟩
      · obtain ⟨_, _, ⟨md', Ef', z1, z2, z3, z4⟩, _⟩ := p1
        exact arr _ _ _ _ ⟨md', Ef', z1, z2⟩ p2.1 (fun q1 q2 => hE.2 k' k hk' hk c q2 q1)
      · obtain ⟨σ, hσ, rfl⟩ := lfs_mem hτ
        have hr := p2.2 _ hτ
        refine tabs k' (by omega) c σ hσ ?_ hr.1 hr.2.2.1
        obtain ⟨j, hj, hjj⟩ := List.mem_iff_getElem.mp hτ
        have t := p1.2.2.2 j hj
        rw [List.getD_eq_getElem?_getD, List.getElem?_eq_getElem hj] at t
        have t' : TbX mem ((lfs (LV k'))[j]) _ := t
        rw [hjj] at t'
        exact ⟨_, t'⟩
  · refine ⟨fun x y q => ?_, b6.2⟩
    obtain ⟨q1, q2, q3⟩ := b6.1 x y q
    exact ⟨q1, by omega, (big y _ q1 q3 (fun z q => by cases q) (fun z q => by cases q)).trans q3⟩
  · by_cases c : k' = k
    · subst c
      rw [va_up_self] at hτ
      exact b7 k' hk τ ((List.mem_append.mp hτ).elim List.mem_of_mem_take List.mem_of_mem_drop)
    · rw [va_up_ne _ _ c] at hτ
      exact b7 k' hk' τ hτ
  · intro v hv
    by_cases c : v = 32 + 4 * k + 1
    · subst c
      exact ⟨fm, r2.2.1⟩
    · obtain ⟨f, h2⟩ := hV v hv
      unfold vcell at hv
      exact ⟨f, (small v (by omega) (by omega) (by omega) (by omega)).trans h2.1, (small (v + 1) (by omega) (by omega) (by omega) (by omega)).trans h2.2⟩
  · obtain ⟨⟨st, t⟩, t1, t2, t3, t4⟩ := hF τ hτ
    have q := tabs 4 (by omega) (by omega) τ hτ ⟨st, t⟩ t1 t3
    exact ⟨⟨st, TbX_fr t q.1 q.2⟩, t1, by omega, t3, by omega⟩
/-- the writer's tables go into a level -/
theorem op_ins (d : Nat) (hb : Bs mem G mm R E C LV B Wn T U D) (hV : Vs mem) (hk : k < 4) (h78 : 78 ≤ mem.1) (hDc : Dj fC LV) (hF : Fst mem (LV 4)) (hFt : ∀ τ ∈ LV 4, Tok B D G τ) (hE : Ed E C e cap) (hA : Al mem 67 e cap ((lfs (LV 4)).map (fun τ => τ.1))) (hAe : Ale mem e cap) (hcap : cap < 2 ^ 20) (hC : C k < 2000) (hl : (LV k).length + (LV 4).length < 900) (hst : (lms (LV k)).flatten.length + (lms (LV 4)).flatten.length < 2 ^ 20) (ha : a ≤ (LV k).length) :
    ∃ e' cap' mem', j_ex tb (d + 6) m_Lv_insert [.ref (32 + 4 * k), .int (nI a), .ref 67] mem (.inl none) mem' ∧ Bs mem' G mm R (va_up E k e') (va_up C k cap') (va_up (va_up LV k ((LV k).take a ++ LV 4 ++ (LV k).drop a)) 4 []) B Wn T U D ∧ Vs mem' ∧ (∃ xs, Al mem' 67 e cap xs) ∧ Ale mem' e cap ∧ Ed (va_up E k e') (va_up C k cap') e cap ∧ Gr mem mem' (C k) cap' ∧ (cap' = C k ∨ cap' ≤ 2 * ((LV k).length + (LV 4).length) + 10) ∧ Ot mem mem' k := by
  obtain ⟨fm, hLv⟩ := Lv_of hb hV hk
  obtain ⟨b1, b2, b3, b4, b5, b6, b7⟩ := hb
  obtain ⟨l1, l2, l3, l4⟩ := b4 k hk
  have hk4 : k = 0 ∨ k = 1 ∨ k = 2 ∨ k = 3 := by omega
  have el : (lfs (LV k)).take a ++ lfs (LV 4) ++ (lfs (LV k)).drop a = lfs ((LV k).take a ++ LV 4 ++ (LV k).drop a) := by
    unfold lfs
    rw [List.map_append, List.map_append, List.map_take, List.map_drop]
  have hDn := Dj_ins (a := a) hDc hk
  have hnd : (((lfs (LV k)).take a ++ lfs (LV 4) ++ (lfs (LV k)).drop a).map (fun τ => τ.1)).Nodup := by
    rw [el, ← fC_map]
    have := hDn.1 k (by omega)
    rwa [va_up_ne _ _ (by omega), va_up_self] at this
  have hfT : ∀ τ ∈ lfs (LV 4), ∃ st, TbX mem τ st := fun τ hτ => by
    obtain ⟨σ, h1, rfl⟩ := lfs_mem hτ
    exact (hF σ h1).1
  have hfr : ∀ τ ∈ lfs (LV 4), 78 ≤ τ.1 ∧ τ.1 < mem.1 ∧ 78 ≤ τ.2.1 ∧ τ.2.1 < mem.1 := fun τ hτ => by
    obtain ⟨σ, h1, rfl⟩ := lfs_mem hτ
    exact (hF σ h1).2
  have hne : C k ≠ 0 → E k ≠ e := fun q => by
    by_cases cc : cap = 0
    · have h1 := hAe.1 cc
      have h2 := (l2.1.2 q).1
      omega
    · exact hE.1 k hk q cc
  obtain ⟨e', cap', mem', r1, r2, r3, r4, r5, r6, r7⟩ := x_Lv_insert d hLv l2 (by omega) h78 hA hAe hne hfT hfr hnd (by rw [lfs_len, lfs_len]; exact ⟨hC, hl⟩) hcap (by rw [lfs_len]; exact ha)
  rw [el] at r2 r3
  rw [lfs_len, lfs_len] at r5
  have hm := r4.2.1
  obtain ⟨_, _, ⟨mdk, Efk, qk1, qk2, qk3, qk4⟩, _⟩ := l1
  have isT : ∀ τ, τ ∈ lfs (LV k) ∨ τ ∈ lfs (LV 4) → ∃ fs, mem.2.2 τ.1 = some (.inr (9, fs)) := fun τ hτ => by
    rcases hτ with hτ | hτ
    · obtain ⟨j, hj, hjj⟩ := List.mem_iff_getElem.mp hτ
      have t := hLv.2.2.2 j hj
      rw [List.getD_eq_getElem?_getD, List.getElem?_eq_getElem hj] at t
      have t1 : mem.2.2 ((lfs (LV k))[j]).1 = _ := t.1
      rw [hjj] at t1
      exact ⟨_, t1⟩
    · obtain ⟨st, t⟩ := hfT τ hτ
      exact ⟨_, t.1⟩
  have ge78 : ∀ τ, τ ∈ lfs (LV k) ∨ τ ∈ lfs (LV 4) → 78 ≤ τ.1 := fun τ hτ => by
    rcases hτ with hτ | hτ
    · exact (l2.2 τ hτ).1
    · exact (hfr τ hτ).1
  have notab : ∀ c v, mem.2.2 c = some v → (∀ z, v ≠ .inr (9, z)) → ∀ τ, τ ∈ lfs (LV k) ∨ τ ∈ lfs (LV 4) → c ≠ τ.1 := fun c v hc h9 τ hτ ec => by
    obtain ⟨fs, t1⟩ := isT τ hτ
    rw [← ec, hc] at t1
    cases t1
    exact h9 _ rfl
  have noarr : ∀ c v, mem.2.2 c = some v → (∀ z, v ≠ .inl (6, z)) → c ≠ E k := fun c v hc h6 ec => by
    rw [ec, qk2] at hc
    cases hc
    exact h6 _ rfl
  have small : Ot mem mem' k := fun c c1 c2 c3 c4 => by
    refine r7 c (by omega) c3 (by omega) ?_ (fun τ hτ ec => by have := ge78 τ hτ; omega)
    by_cases cc : C k = 0
    · have := l2.1.1 cc
      omega
    · have := (l2.1.2 cc).1
      omega
  have t12 : mem'.2.2 12 = mem.2.2 12 := by
    refine r7 12 (by omega) (by omega) (by omega) ?_ (fun τ hτ ec => by have := ge78 τ hτ; omega)
    by_cases cc : C k = 0
    · have := l2.1.1 cc
      omega
    · have := (l2.1.2 cc).1
      omega
  have big : ∀ c v, 78 ≤ c → c < mem.1 → mem.2.2 c = some v → (∀ z, v ≠ .inl (6, z)) → (∀ z, v ≠ .inr (9, z)) → mem'.2.2 c = mem.2.2 c := fun c v c1 c2 hc h6 h9 => r7 c c2 (by omega) (by omega) (Or.inl (noarr c v hc h6)) (notab c v hc h9)
  have arr : ∀ c cap' xs' l', (∃ (md : Int32) (Ef : Nat → Option Nat), mem.2.2 l' = some (.inr (10, [.int md, .ref c, .int (nI xs')])) ∧ mem.2.2 c = some (.inl (6, cap', .inr (.inr (.inr (.inr Ef)))))) → Ale mem c cap' → (C k ≠ 0 → cap' ≠ 0 → c ≠ E k) → mem'.2.2 c = mem.2.2 c := fun c cap' xs' l' ⟨md, Ef, z1, z2⟩ hA' hne => by
    by_cases cc : cap' = 0
    · rw [hA'.1 cc]
      exact small 2 (by omega) (by omega) (by omega) (by omega)
    · have h1 := hA'.2 cc
      refine r7 c (by omega) (by omega) (by omega) ?_ (notab c _ z2 (fun z q => by cases q))
      by_cases ck : C k = 0
      · have := l2.1.1 ck
        exact Or.inl (by omega)
      · exact Or.inl (hne ck cc)
  obtain ⟨md, Ef, al1, al2, al3, al4⟩ := hA
  have hC' : Cp mem' B Wn T U := ⟨(small 9 (by omega) (by omega) (by omega) (by omega)).trans b5.1, (small 10 (by omega) (by omega) (by omega) (by omega)).trans b5.2.1, (small 11 (by omega) (by omega) (by omega) (by omega)).trans b5.2.2.1, t12.trans b5.2.2.2.1, (small 13 (by omega) (by omega) (by omega) (by omega)).trans b5.2.2.2.2⟩
  have hlk : va_up (va_up LV k ((LV k).take a ++ LV 4 ++ (LV k).drop a)) 4 [] k = (LV k).take a ++ LV 4 ++ (LV k).drop a := by rw [va_up_ne _ _ (by omega), va_up_self]
  have hlo : ∀ k', k' ≠ k → k' < 4 → va_up (va_up LV k ((LV k).take a ++ LV 4 ++ (LV k).drop a)) 4 [] k' = LV k' := fun k' h1 h2 => by rw [va_up_ne _ _ (by omega), va_up_ne _ _ h1]
  have newT : ∀ τ ∈ (LV k).take a ++ LV 4 ++ (LV k).drop a, Tok B D G τ := fun τ hτ => by
    rcases List.mem_append.mp hτ with q | q
    · rcases List.mem_append.mp q with q | q
      · exact b7 k hk τ (List.mem_of_mem_take q)
      · exact hFt τ q
    · exact b7 k hk τ (List.mem_of_mem_drop q)
  refine ⟨e', cap', mem', r1, ⟨⟨(small 14 (by omega) (by omega) (by omega) (by omega)).trans b1.1, trivial, (small 17 (by omega) (by omega) (by omega) (by omega)).trans b1.2.2⟩, b2, b3, fun k' hk' => ?_, hC', ?_, fun k' hk' τ hτ => ?_⟩, ?_, ⟨_, md, Ef, (small 67 (by omega) (by omega) (by omega) (by omega)).trans al1, (arr e cap _ 67 ⟨md, Ef, al1, al2⟩ hAe (fun q1 q2 q => hE.1 k hk q1 q2 q.symm)).trans al2, al3, al4⟩, ⟨hAe.1, fun c => by have := hAe.2 c; omega⟩, ⟨fun k' hk' c1 c2 => ?_, fun k1 k2 h1 h2 hne2 c1 c2 => ?_⟩, r4, r5, small⟩
  · by_cases c : k' = k
    · subst c
      show Lw mem' (32 + 4 * k') (va_up E k' e' k') (va_up C k' cap' k') (lfs (va_up _ 4 [] k')) ∧ Lr mem' (va_up E k' e' k') (va_up C k' cap' k') (lfs (va_up _ 4 [] k')) ∧ va_up C k' cap' k' < 2 ^ 20 ∧ sta (lfs (va_up _ 4 [] k')) (lfs (va_up _ 4 [] k')).length < 2 ^ 20
      rw [hlk, va_up_self, va_up_self]
      refine ⟨Lv_Lw r2, r3, by omega, ?_⟩
      rw [sta_all (fun τ hτ => (newT τ hτ).2.1)]
      have e3 : (lms (LV k')).flatten.length = (lms ((LV k').take a)).flatten.length + (lms ((LV k').drop a)).flatten.length := by
        conv => lhs; rw [← List.take_append_drop a (LV k')]
        rw [lms_app, List.flatten_append, List.length_append]
      rw [lms_app, lms_app, List.flatten_append, List.flatten_append, List.length_append, List.length_append]
      omega
    · obtain ⟨p1, p2, p3, p4⟩ := b4 k' hk'
      show Lw mem' (32 + 4 * k') (va_up E k e' k') (va_up C k cap' k') (lfs (va_up _ 4 [] k')) ∧ Lr mem' (va_up E k e' k') (va_up C k cap' k') (lfs (va_up _ 4 [] k')) ∧ va_up C k cap' k' < 2 ^ 20 ∧ sta (lfs (va_up _ 4 [] k')) (lfs (va_up _ 4 [] k')).length < 2 ^ 20
      rw [hlo k' c hk', va_up_ne _ _ c, va_up_ne _ _ c]
      refine ⟨Lw_fr2 p1 (small _ (by omega) (by omega) (by omega) (by omega)) (small _ (by omega) (by omega) (by omega) (by omega)) ?_ (fun τ hτ => ?_), Lr_le p2 (by omega), p3, p4⟩
      · obtain ⟨_, _, ⟨md', Ef', z1, z2, z3, z4⟩, _⟩ := p1
        exact arr _ _ _ _ ⟨md', Ef', z1, z2⟩ p2.1 (fun q1 q2 => hE.2 k' k hk' hk c q2 q1)
      · obtain ⟨σ, hσ, rfl⟩ := lfs_mem hτ
        have hr := p2.2 _ hτ
        have ht : ∃ st, TbX mem σ.1 st := by
          obtain ⟨j, hj, hjj⟩ := List.mem_iff_getElem.mp hτ
          have t := p1.2.2.2 j hj
          rw [List.getD_eq_getElem?_getD, List.getElem?_eq_getElem hj] at t
          have t' : TbX mem ((lfs (LV k'))[j]) _ := t
          rw [hjj] at t'
          exact ⟨_, t'⟩
        obtain ⟨st, t⟩ := ht
        constructor
        · refine r7 _ hr.2.1 (by omega) (by omega) (Or.inl (noarr _ _ t.1 (fun z q => by cases q))) (fun ρ hρ ec => ?_)
          have hin : σ.1.1 ∈ (LV k').flatMap fC := List.mem_flatMap.mpr ⟨σ, hσ, by simp [fC]⟩
          rcases hρ with hρ | hρ
          · obtain ⟨π, hπ, rfl⟩ := lfs_mem hρ
            exact hDc.2 k' k (by omega) (by omega) c _ hin (List.mem_flatMap.mpr ⟨π, hπ, by simp [fC, ec]⟩)
          · obtain ⟨π, hπ, rfl⟩ := lfs_mem hρ
            exact hDc.2 k' 4 (by omega) (by omega) (by omega) _ hin (List.mem_flatMap.mpr ⟨π, hπ, by simp [fC, ec]⟩)
        · obtain ⟨f, f1, f2⟩ := t.2
          exact big _ _ hr.2.2.1 hr.2.2.2 f1 (fun z q => by cases q) (fun z q => by cases q)
  · refine ⟨fun x y q => ?_, b6.2⟩
    obtain ⟨q1, q2, q3⟩ := b6.1 x y q
    exact ⟨q1, by omega, (big y _ q1 q2 q3 (fun z q => by cases q) (fun z q => by cases q)).trans q3⟩
  · by_cases c : k' = k
    · subst c
      rw [hlk] at hτ
      exact newT τ hτ
    · rw [hlo k' c hk'] at hτ
      exact b7 k' hk' τ hτ
  · intro v hv
    by_cases c : v = 32 + 4 * k + 1
    · subst c
      exact ⟨fm, r2.2.1⟩
    · obtain ⟨f, h2⟩ := hV v hv
      unfold vcell at hv
      exact ⟨f, (small v (by omega) (by omega) (by omega) (by omega)).trans h2.1, (small (v + 1) (by omega) (by omega) (by omega) (by omega)).trans h2.2⟩
  · by_cases c : k' = k
    · subst c
      rw [va_up_self] at c1 ⊢
      rcases r6 with q | q
      · rw [q.1]
        rw [q.2] at c1
        exact hE.1 k' hk c1 c2
      · have := hAe.2 c2
        omega
    · rw [va_up_ne _ _ c] at c1 ⊢
      exact hE.1 k' hk' c1 c2
  · by_cases ck1 : k1 = k
    · subst ck1
      rw [va_up_self] at c1 ⊢
      rw [va_up_ne _ _ (by omega)] at c2 ⊢
      rcases r6 with q | q
      · rw [q.1]
        rw [q.2] at c1
        exact hE.2 k1 k2 h1 h2 hne2 c1 c2
      · have := ((b4 k2 h2).2.1.1.2 c2).2
        omega
    · rw [va_up_ne _ _ ck1] at c1 ⊢
      by_cases ck2 : k2 = k
      · subst ck2
        rw [va_up_self] at c2 ⊢
        rcases r6 with q | q
        · rw [q.1]
          rw [q.2] at c2
          exact hE.2 k1 k2 h1 h2 hne2 c1 c2
        · have := ((b4 k1 h1).2.1.1.2 c1).2
          omega
      · rw [va_up_ne _ _ ck2] at c2 ⊢
        exact hE.2 k1 k2 h1 h2 hne2 c1 c2
end OPS
