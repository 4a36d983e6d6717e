/-! LEVEL: load, searches (own text) -/
/-- a table has the blocks that it wants -/
def Wt (B : Nat → Option Nat) (τ : TR) : Prop := 1 ≤ τ.2.2.2.1 ∧ τ.2.2.1.length = (τ.2.2.2.1 + 7) / 8 ∧ ∀ b ∈ τ.2.2.1, b < 1000 ∧ ∃ a, B b = some a
/-- the words of a table's version p, of a level's version i -/
def tat (D : Nat → Nat → Int64) (τ : TR) (p : Nat) : Nat → Int64 := fun x => D (τ.2.2.1.getD (p / 8) 0) (p % 8 * 6 + x)
def lat (D : Nat → Nat → Int64) : List TR → Nat → Nat → Int64
  | [], _ => fun _ => 0
  | τ :: r, i => if i < τ.2.2.2.1 then tat D τ i else lat D r (i - τ.2.2.2.1)
theorem sta_cons (τ : TR) (r : List TR) (j : Nat) : sta (τ :: r) (j + 1) = τ.2.2.2.1 + sta r j := by
  unfold sta
  rw [List.take_succ_cons, List.map_cons, List.sum_cons]
theorem lat_at {D : Nat → Nat → Int64} : ∀ (ts : List TR) (i j : Nat), j < ts.length → sta ts j ≤ i → i < sta ts (j + 1) → lat D ts i = tat D (ts.getD j tz) (i - sta ts j)
  | [], _, _, h, _, _ => by cases h
  | τ :: r, i, 0, _, _, h2 => by
    rw [sta_cons, sta_0, Nat.add_zero] at h2
    rw [lat, if_pos h2]
    rfl
  | τ :: r, i, j + 1, h, h1, h2 => by
    rw [sta_cons] at h1 h2
    rw [lat, if_neg (by omega), lat_at r (i - τ.2.2.2.1) j (by rw [List.length_cons] at h; omega) (by omega) (by omega), sta_cons]
    congr 1
    omega
/-- where a level's things lie -/
def Lr (mem : j_M) (e cap : Nat) (ts : List TR) : Prop := Ale mem e cap ∧ ∀ τ ∈ ts, 78 ≤ τ.1 ∧ τ.1 < mem.1 ∧ 78 ≤ τ.2.1 ∧ τ.2.1 < mem.1
theorem trD_mem {ts : List TR} {j : Nat} (h : j < ts.length) : ts.getD j tz ∈ ts := by
  rw [List.getD_eq_getElem?_getD, List.getElem?_eq_getElem h]
  exact List.getElem_mem _
theorem TbX_fr {mem mem' : j_M} {τ : TR} {st : Nat} (h : TbX mem τ st) (h1 : mem'.2.2 τ.1 = mem.2.2 τ.1) (h2 : mem'.2.2 τ.2.1 = mem.2.2 τ.2.1) : TbX mem' τ st := by
  obtain ⟨a, f, b, c⟩ := h
  exact ⟨by rw [h1]; exact a, f, by rw [h2]; exact b, c⟩
theorem Lv_fr {mem mem' : j_M} {L e cap : Nat} {ts : List TR} {fm fm' : Nat → Int64} (h : Lv mem L e cap ts fm) (hr : Lr mem e cap ts) (h1 : mem'.2.2 L = mem.2.2 L) (h2 : mem'.2.2 (L + 3) = mem.2.2 (L + 3)) (hv : Ve mem' (L + 1) (L + 2) fm') (h3 : mem'.2.2 2 = mem.2.2 2) (h4 : ∀ c, 78 ≤ c → c < mem.1 → mem'.2.2 c = mem.2.2 c) : Lv mem' L e cap ts fm' := by
  obtain ⟨a1, a2, ⟨md, E, b1, b2, b3, b4⟩, a4⟩ := h
  have he : mem'.2.2 e = mem.2.2 e := by
    by_cases c : cap = 0
    · rw [hr.1.1 c]; exact h3
    · exact h4 e (hr.1.2 c).1 (hr.1.2 c).2
  refine ⟨by rw [h1]; exact a1, hv, ⟨md, E, by rw [h2]; exact b1, by rw [he]; exact b2, b3, b4⟩, fun j hj => ?_⟩
  have hm := hr.2 _ (trD_mem hj)
  exact TbX_fr (a4 j hj) (h4 _ hm.1 hm.2.1) (h4 _ hm.2.2.1 hm.2.2.2)
theorem Rw_fr {mem mem' : j_M} {B : Nat → Option Nat} {D : Nat → Nat → Int64} (h : Rw mem B D) (h1 : mem.1 ≤ mem'.1) (h4 : ∀ c, 78 ≤ c → c < mem.1 → mem'.2.2 c = mem.2.2 c) : Rw mem' B D :=
  ⟨fun b a hB => by
    obtain ⟨q1, q2, q3⟩ := h.1 b a hB
    exact ⟨q1, by omega, by rw [h4 a q1 q2]; exact q3⟩, h.2⟩
section LOAD
variable {mem : j_M} {L e cap : Nat} {ts : List TR} {fm : Nat → Int64} {B : Nat → Option Nat} {Wn T U : Nat → Int32} {D : Nat → Nat → Int64}
theorem x_Lv_load (d : Nat) {i v w : Nat} {f : Nat → Int64} (h : Lw mem L e cap ts) (hC : Cp mem B Wn T U) (hR : Rw mem B D) (hW : ∀ τ ∈ ts, Wt B τ) (hc : cap < 2 ^ 20) (hn : sta ts ts.length < 2 ^ 20) (hi : i < sta ts ts.length) (hv : Ve mem v w f) (hw : 4 ≤ w) :
    ∃ f', sw f' (lat D ts i) ∧ j_ex tb (d + 5) m_Lv_load [.ref L, .int (nI i), .ref v] mem (.inl none) (j_set mem w (vW f')) := by
  obtain ⟨j, _, kj, kt⟩ := x_Lv_tableWith d h hc (by omega) (show i < 2 ^ 30 by omega)
  obtain ⟨j1, j2, j3⟩ := kj hi
  have hT := h.2.2.2 j j1
  have hWt := hW _ (trD_mem j1)
  rw [sta_s j1] at j3
  have hlat := lat_at (D := D) ts i j j1 j2 (by rw [sta_s j1]; exact j3)
  generalize hτ : ts.getD j tz = τ at *
  generalize hs : sta ts j = s0 at *
  have hb8 : (i - s0) / 8 < τ.2.2.1.length := by rw [hWt.2.1]; omega
  obtain ⟨hb1, a, hB⟩ := hWt.2.2 _ (getD_mem hb8)
  obtain ⟨f', r1, r2⟩ := x_Ch_read (d + 2) (p := (i - s0) % 8 * 6) hC hR hb1 hB (by omega) hv hw
  refine ⟨f', by rw [hlat]; exact r1, ?_⟩
  have h1 := h.1
  have hl := Al_len h.2.2.1
  obtain ⟨md, E, a1, a2, a3, a4⟩ := h.2.2.1
  have t1 := hT.1
  have c9 := hC.1
  have kb := x_Tb_blockOf (d + 3) (i := i - s0) hT hb8 (by omega) (by rw [hWt.2.1]; have := sta_mono (ts := ts) (i := j + 1) (j := ts.length) (by omega) (Nat.le_refl _); rw [sta_s j1, hτ] at this; omega)
  have e1 : nI i - nI s0 = nI (i - s0) := pk_sub j2
  have e2 : (nI (i - s0) - nI (i - s0) / 8 * 8) * 6 = nI ((i - s0) % 8 * 6) := by
    rw [show nI (i - s0) - nI (i - s0) / 8 * 8 = nI ((i - s0) % 8) from pk_rem (d := 8) (by omega) (by omega) (by omega)]
    exact pk_mul _ 6
  rw [← e2, ← e1] at r2
  rw [← e1] at kb
  have kg := x_ALg (d + 1) h.2.2.1 j1 hc
  rw [hτ] at kg
  refine ⟨e_Lv_load, rfl, Nat.le_of_ble_eq_true rfl, ?_⟩
  repeat (first | refine ev_go rfl (by rfl) ?_ | refine ev_gf rfl (by assumption) (by rfl) (by rfl) ?_)
  refine ev_cv (as := [.int (nI i)]) rfl rfl rfl (by assumption) (by rfl) (by rfl) (kt) ?_
  repeat (first | refine ev_go rfl (by rfl) ?_ | refine ev_gf rfl (by assumption) (by rfl) (by rfl) ?_)
  refine ev_ifF rfl (by exact b_nlt (a := j) (b := 0) (by omega) (by omega) (by omega)) ?_
  repeat (first | refine ev_go rfl (by rfl) ?_ | refine ev_gf rfl (by assumption) (by rfl) (by rfl) ?_)
  refine ev_cv (as := []) rfl rfl rfl (by assumption) (by rfl) (by rfl) (x_ALs (d + 3) h.2.2.1) ?_
  refine ev_icF rfl (by exact b_nle (a := ts.length) (b := j) (by omega) (by omega) (by omega)) ?_
  repeat (first | refine ev_go rfl (by rfl) ?_ | refine ev_gf rfl (by assumption) (by rfl) (by rfl) ?_)
  refine ev_cv (as := [.int (nI j)]) rfl rfl rfl (by assumption) (by rfl) (by rfl) (kg) ?_
  refine ev_cco rfl (by assumption) (by rfl) ?_
  repeat (first | refine ev_go rfl (by rfl) ?_ | refine ev_gf rfl (by assumption) (by rfl) (by rfl) ?_)
  refine ev_cv (as := []) rfl rfl rfl (by assumption) (by rfl) (by rfl) (x_Tb_start (d + 3) hT) ?_
  repeat (first | refine ev_go rfl (by rfl) ?_ | refine ev_gf rfl (by assumption) (by rfl) (by rfl) ?_)
  refine ev_cv (as := [.int (nI i - nI s0)]) rfl rfl rfl (by assumption) (by rfl) (by rfl) (kb) ?_
  repeat (first | refine ev_go rfl (by rfl) ?_ | refine ev_gf rfl (by assumption) (by rfl) (by rfl) ?_)
  refine ev_cv (as := [.int (nI (τ.2.2.1.getD ((i - s0) / 8) 0)), .int ((nI i - nI s0 - (nI i - nI s0) / 8 * 8) * 6), .ref v]) rfl rfl rfl (by assumption) (by rfl) (by rfl) (r2) ?_
  exact j_ev.ret rfl
theorem x_Lv_fnb (d : Nat) {vt wt : Nat} {ft : Nat → Int64} (h : Lv mem L e cap ts fm) (hr : Lr mem e cap ts) (hL : 14 ≤ L ∧ L + 3 < 78) (hC : Cp mem B Wn T U) (hR : Rw mem B D) (hW : ∀ τ ∈ ts, Wt B τ) (hc : cap < 2 ^ 20) (hn : sta ts ts.length < 2 ^ 20) (ht : Ve mem vt wt ft) (n1 : wt ≠ L + 2) (n2 : vt ≠ L + 2)
    (hs : ∀ i j, i < j → j < sta ts ts.length → v_ord (lat D ts i) ≤ v_ord (lat D ts j)) :
    ∃ k f'', k ≤ sta ts ts.length ∧ (∀ i, i < k → v_ord (lat D ts i) < v_ord ft) ∧ (∀ i, k ≤ i → i < sta ts ts.length → v_ord ft ≤ v_ord (lat D ts i)) ∧ j_ex tb (d + 8) m_Ru_firstNotBefore [.ref L, .ref vt] mem (.inl (some (.int (nI k)))) (j_set mem (L + 2) (vW f'')) := by
  refine x_Ru_fnb d (c := 5) (vm := L + 1) (wm := L + 2) (lat D ts) (Or.inr rfl) h.1 h.2.1 ht n1 n2 (by omega) (by omega) (by omega) hs (x_Lv_count (d + 6) h) ?_
  intro g i hi
  have fr : ∀ c, c ≠ L + 2 → (j_set mem (L + 2) (vW g)).2.2 c = mem.2.2 c := fun c hc => st_ne _ _ hc
  have hV : Ve (j_set mem (L + 2) (vW g)) (L + 1) (L + 2) g := ⟨by rw [fr _ (by omega)]; exact h.2.1.1, st_same _ _ _⟩
  have h' : Lv (j_set mem (L + 2) (vW g)) L e cap ts g := Lv_fr h hr (fr _ (by omega)) (fr _ (by omega)) hV (fr _ (by omega)) (fun c c1 _ => fr _ (by omega))
  have hC' : Cp (j_set mem (L + 2) (vW g)) B Wn T U := ⟨by rw [fr _ (by omega)]; exact hC.1, by rw [fr _ (by omega)]; exact hC.2.1, by rw [fr _ (by omega)]; exact hC.2.2.1, by rw [fr _ (by omega)]; exact hC.2.2.2.1, by rw [fr _ (by omega)]; exact hC.2.2.2.2⟩
  have hR' : Rw (j_set mem (L + 2) (vW g)) B D := Rw_fr hR (Nat.le_refl _) (fun c c1 _ => fr _ (by omega))
  obtain ⟨f', a1, a2⟩ := x_Lv_load (d + 2) (Lv_Lw h') hC' hR' hW hc hn hi hV (by omega)
  exact ⟨f', a1, by rw [st_st] at a2; exact a2⟩
/-- a version with its moment set, nothing else said -/
def v_at (f : Nat → Int64) (m : Nat) : Nat → Int64 := vp_updL f 5 (lN (v_pk (v_len f) m 0 0 0))
theorem x_Lv_reach (d : Nat) {v w : Nat} {f : Nat → Int64} (h : Lv mem L e cap ts fm) (hr : Lr mem e cap ts) (hL : 32 ≤ L ∧ L + 3 < 78) (hC : Cp mem B Wn T U) (hR : Rw mem B D) (hW : ∀ τ ∈ ts, Wt B τ) (hc : cap < 2 ^ 20) (hn : sta ts ts.length < 2 ^ 20) (hv : Ve mem v w f) (n1 : 18 ≤ v ∧ v < 32) (n2 : 18 ≤ w ∧ w < 32) (n3 : v ≠ w)
    (hs : ∀ i j, i < j → j < sta ts ts.length → v_ord (lat D ts i) ≤ v_ord (lat D ts j)) :
    ∃ j k f'', k ≤ sta ts ts.length ∧ (∀ i, i < k → v_ord (lat D ts i) < v_ord (v_at f 0)) ∧ (∀ i, k ≤ i → i < sta ts ts.length → v_ord (v_at f 0) ≤ v_ord (lat D ts i)) ∧ (sta ts ts.length ≤ k → j = ts.length) ∧ (k < sta ts ts.length → j < ts.length ∧ sta ts j ≤ k ∧ k < sta ts (j + 1)) ∧
      j_ex tb (d + 9) m_Lv_firstTableReaching [.ref L, .ref v] mem (.inl (some (.int (nI j)))) (j_set (j_set mem w (vW (v_at f 0))) (L + 2) (vW f'')) := by
  have ks := x_Ve_setMoment (d + 5) (m := 0) hv (by omega) (by omega)
  have fr : ∀ c, c ≠ w → (j_set mem w (vW (v_at f 0))).2.2 c = mem.2.2 c := fun c hc => st_ne _ _ hc
  have hV0 : Ve (j_set mem w (vW (v_at f 0))) (L + 1) (L + 2) fm := ⟨by rw [fr _ (by omega)]; exact h.2.1.1, by rw [fr _ (by omega)]; exact h.2.1.2⟩
  have h0 : Lv (j_set mem w (vW (v_at f 0))) L e cap ts fm := Lv_fr h hr (fr _ (by omega)) (fr _ (by omega)) hV0 (fr _ (by omega)) (fun c c1 _ => fr _ (by omega))
  have hr0 : Lr (j_set mem w (vW (v_at f 0))) e cap ts := hr
  have hC0 : Cp (j_set mem w (vW (v_at f 0))) B Wn T U := ⟨by rw [fr _ (by omega)]; exact hC.1, by rw [fr _ (by omega)]; exact hC.2.1, by rw [fr _ (by omega)]; exact hC.2.2.1, by rw [fr _ (by omega)]; exact hC.2.2.2.1, by rw [fr _ (by omega)]; exact hC.2.2.2.2⟩
  have hR0 : Rw (j_set mem w (vW (v_at f 0))) B D := Rw_fr hR (Nat.le_refl _) (fun c c1 _ => fr _ (by omega))
  have hv0 : Ve (j_set mem w (vW (v_at f 0))) v w (v_at f 0) := ⟨by rw [fr _ n3]; exact hv.1, st_same _ _ _⟩
  obtain ⟨k, f'', b1, b2, b3, b4⟩ := x_Lv_fnb d h0 hr0 (by omega) hC0 hR0 hW hc hn hv0 (by omega) (by omega) hs
  generalize hm : j_set mem w (vW (v_at f 0)) = m1 at *
  have hV2 : Ve (j_set m1 (L + 2) (vW f'')) (L + 1) (L + 2) f'' := ⟨by rw [st_ne _ _ (by omega)]; exact h0.2.1.1, st_same _ _ _⟩
  have h2 : Lv (j_set m1 (L + 2) (vW f'')) L e cap ts f'' := Lv_fr h0 hr0 (st_ne _ _ (by omega)) (st_ne _ _ (by omega)) hV2 (st_ne _ _ (by omega)) (fun c c1 _ => st_ne _ _ (by omega))
  obtain ⟨j, j1, j2, j3⟩ := x_Lv_tableWith (d + 4) (i := k) (Lv_Lw h2) hc (by omega) (by omega)
  refine ⟨j, k, f'', b1, b2, b3, j1, j2, ?_⟩
  have hv1 := hv.1
  have l1 := h0.1
  have l2 := h2.1
  have l3 := h.1
  refine ⟨e_Lv_firstTableReaching, rfl, Nat.le_of_ble_eq_true rfl, ?_⟩
  repeat (first | refine ev_go rfl (by rfl) ?_ | refine ev_gf rfl (by assumption) (by rfl) (by rfl) ?_)
  refine ev_cv (as := [.int (nI 0)]) rfl rfl rfl (by assumption) (by rfl) (by rfl) (ks) ?_
  refine ev_m hm ?_
  repeat (first | refine ev_go rfl (by rfl) ?_ | refine ev_gf rfl (by assumption) (by rfl) (by rfl) ?_)
  refine ev_cv (as := [.ref v]) rfl rfl rfl (by assumption) (by rfl) (by rfl) (b4) ?_
  refine ev_cv (as := [.int (nI k)]) rfl rfl rfl (by assumption) (by rfl) (by rfl) (j3) ?_
  exact j_ev.ret rfl
theorem x_Lv_beyond (d : Nat) {v w : Nat} {f : Nat → Int64} (h : Lv mem L e cap ts fm) (hr : Lr mem e cap ts) (hL : 32 ≤ L ∧ L + 3 < 78) (hC : Cp mem B Wn T U) (hR : Rw mem B D) (hW : ∀ τ ∈ ts, Wt B τ) (hc : cap < 2 ^ 20) (hn : sta ts ts.length < 2 ^ 20) (hv : Ve mem v w f) (n1 : 18 ≤ v ∧ v < 32) (n2 : 18 ≤ w ∧ w < 32) (n3 : v ≠ w)
    (hs : ∀ i j, i < j → j < sta ts ts.length → v_ord (lat D ts i) ≤ v_ord (lat D ts j)) :
    ∃ j k f'', k ≤ sta ts ts.length ∧ (∀ i, i < k → v_ord (lat D ts i) < v_ord (v_at f 1023)) ∧ (∀ i, k ≤ i → i < sta ts ts.length → v_ord (v_at f 1023) ≤ v_ord (lat D ts i)) ∧ (k = 0 → j = 0) ∧ (0 < k → 1 ≤ j ∧ j ≤ ts.length ∧ sta ts (j - 1) < k ∧ k ≤ sta ts j) ∧
      j_ex tb (d + 9) m_Lv_firstTableBeyond [.ref L, .ref v] mem (.inl (some (.int (nI j)))) (j_set (j_set mem w (vW (v_at f 1023))) (L + 2) (vW f'')) := by
  have ks := x_Ve_setMoment (d + 5) (m := 1023) hv (by omega) (by omega)
  have fr : ∀ c, c ≠ w → (j_set mem w (vW (v_at f 1023))).2.2 c = mem.2.2 c := fun c hc => st_ne _ _ hc
  have hV0 : Ve (j_set mem w (vW (v_at f 1023))) (L + 1) (L + 2) fm := ⟨by rw [fr _ (by omega)]; exact h.2.1.1, by rw [fr _ (by omega)]; exact h.2.1.2⟩
  have h0 : Lv (j_set mem w (vW (v_at f 1023))) L e cap ts fm := Lv_fr h hr (fr _ (by omega)) (fr _ (by omega)) hV0 (fr _ (by omega)) (fun c c1 _ => fr _ (by omega))
  have hr0 : Lr (j_set mem w (vW (v_at f 1023))) e cap ts := hr
  have hC0 : Cp (j_set mem w (vW (v_at f 1023))) B Wn T U := ⟨by rw [fr _ (by omega)]; exact hC.1, by rw [fr _ (by omega)]; exact hC.2.1, by rw [fr _ (by omega)]; exact hC.2.2.1, by rw [fr _ (by omega)]; exact hC.2.2.2.1, by rw [fr _ (by omega)]; exact hC.2.2.2.2⟩
  have hR0 : Rw (j_set mem w (vW (v_at f 1023))) B D := Rw_fr hR (Nat.le_refl _) (fun c c1 _ => fr _ (by omega))
  have hv0 : Ve (j_set mem w (vW (v_at f 1023))) v w (v_at f 1023) := ⟨by rw [fr _ n3]; exact hv.1, st_same _ _ _⟩
  obtain ⟨k, f'', b1, b2, b3, b4⟩ := x_Lv_fnb d h0 hr0 (by omega) hC0 hR0 hW hc hn hv0 (by omega) (by omega) hs
  generalize hm : j_set mem w (vW (v_at f 1023)) = m1 at *
  have hV2 : Ve (j_set m1 (L + 2) (vW f'')) (L + 1) (L + 2) f'' := ⟨by rw [st_ne _ _ (by omega)]; exact h0.2.1.1, st_same _ _ _⟩
  have h2 : Lv (j_set m1 (L + 2) (vW f'')) L e cap ts f'' := Lv_fr h0 hr0 (st_ne _ _ (by omega)) (st_ne _ _ (by omega)) hV2 (st_ne _ _ (by omega)) (fun c c1 _ => st_ne _ _ (by omega))
  have hv1 := hv.1
  have l1 := h0.1
  have l2 := h2.1
  have l3 := h.1
  by_cases c0 : k = 0
  · subst c0
    refine ⟨0, 0, f'', b1, b2, b3, fun _ => rfl, fun q => by omega, ?_⟩
    refine ⟨e_Lv_firstTableBeyond, rfl, Nat.le_of_ble_eq_true rfl, ?_⟩
    repeat (first | refine ev_go rfl (by rfl) ?_ | refine ev_gf rfl (by assumption) (by rfl) (by rfl) ?_)
    refine ev_cv (as := [.int (nI 1023)]) rfl rfl rfl (by assumption) (by rfl) (by rfl) (ks) ?_
    refine ev_m hm ?_
    repeat (first | refine ev_go rfl (by rfl) ?_ | refine ev_gf rfl (by assumption) (by rfl) (by rfl) ?_)
    refine ev_cv (as := [.ref v]) rfl rfl rfl (by assumption) (by rfl) (by rfl) (b4) ?_
    repeat (first | refine ev_go rfl (by rfl) ?_ | refine ev_gf rfl (by assumption) (by rfl) (by rfl) ?_)
    exact j_ev.ret rfl
  · obtain ⟨j, j1, j2, j3⟩ := x_Lv_tableWith (d + 4) (i := k - 1) (Lv_Lw h2) hc (by omega) (by omega)
    obtain ⟨j4, j5, j6⟩ := j2 (by omega)
    refine ⟨j + 1, k, f'', b1, b2, b3, fun q => by omega, fun _ => ⟨by omega, by omega, by rw [Nat.add_sub_cancel]; omega, by omega⟩, ?_⟩
    have ek : nI k - 1 = nI (k - 1) := pk_sub (b := 1) (by omega)
    rw [← ek] at j3
    rw [← nI_1 j]
    refine ⟨e_Lv_firstTableBeyond, rfl, Nat.le_of_ble_eq_true rfl, ?_⟩
    repeat (first | refine ev_go rfl (by rfl) ?_ | refine ev_gf rfl (by assumption) (by rfl) (by rfl) ?_)
    refine ev_cv (as := [.int (nI 1023)]) rfl rfl rfl (by assumption) (by rfl) (by rfl) (ks) ?_
    refine ev_m hm ?_
    repeat (first | refine ev_go rfl (by rfl) ?_ | refine ev_gf rfl (by assumption) (by rfl) (by rfl) ?_)
    refine ev_cv (as := [.ref v]) rfl rfl rfl (by assumption) (by rfl) (by rfl) (b4) ?_
    repeat (first | refine ev_go rfl (by rfl) ?_ | refine ev_gf rfl (by assumption) (by rfl) (by rfl) ?_)
    refine ev_ifT rfl (by exact b_ne (a := k) (b := 0) (by omega) (by omega) (by omega)) ?_
    repeat (first | refine ev_go rfl (by rfl) ?_ | refine ev_gf rfl (by assumption) (by rfl) (by rfl) ?_)
    refine ev_cv (as := [.int (nI k - 1)]) rfl rfl rfl (by assumption) (by rfl) (by rfl) (j3) ?_
    repeat (first | refine ev_go rfl (by rfl) ?_ | refine ev_gf rfl (by assumption) (by rfl) (by rfl) ?_)
    exact j_ev.ret rfl
end LOAD
