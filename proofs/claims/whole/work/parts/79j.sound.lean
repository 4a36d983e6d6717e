/-! LEVEL: isWhole, isSound; LEVELTABLES: isSound, check (own text) -/
theorem lg_self (x : Int64) : lg_cmp x x = 0 := by
  unfold lg_cmp
  simp
theorem fl_get {ts : List (List Nat)} : ∀ {j i : Nat}, j < ts.length → i < (ts.getD j []).length → ts.flatten.getD (stl ts j + i) 0 = (ts.getD j []).getD i 0 := by
  induction ts with
  | nil => intro j i hj; cases hj
  | cons l ts ih =>
    intro j i hj hi
    cases j with
    | zero =>
      show (l ++ ts.flatten).getD (0 + i) 0 = l.getD i 0
      have hi' : i < l.length := hi
      rw [Nat.zero_add, List.getD_eq_getElem?_getD, List.getElem?_append_left hi', ← List.getD_eq_getElem?_getD]
    | succ j =>
      have e : stl (l :: ts) (j + 1) = l.length + stl ts j := by
        unfold stl
        rw [List.take_succ_cons, List.flatten_cons, List.length_append]
      rw [e]
      show (l ++ ts.flatten).getD (l.length + stl ts j + i) 0 = (ts.getD j []).getD i 0
      rw [List.getD_eq_getElem?_getD, List.getElem?_append_right (by omega), show l.length + stl ts j + i - l.length = stl ts j + i by omega, ← List.getD_eq_getElem?_getD]
      exact ih (by simpa using hj) hi
/-- what the checks change: uses, low, high -/
def Kf (mem mem' : j_M) : Prop := mem'.1 = mem.1 ∧ mem'.2.1 = mem.2.1 ∧ ∀ c, c ≠ 13 → c ≠ 27 → c ≠ 29 → mem'.2.2 c = mem.2.2 c
theorem Kf_refl (mem : j_M) : Kf mem mem := ⟨rfl, rfl, fun _ _ _ _ => rfl⟩
theorem Kf_trans {m1 m2 m3 : j_M} (h : Kf m1 m2) (h' : Kf m2 m3) : Kf m1 m3 := ⟨h'.1.trans h.1, h'.2.1.trans h.2.1, fun c a b e => (h'.2.2 c a b e).trans (h.2.2 c a b e)⟩
theorem Kf_set (mem : j_M) {a : Nat} (x : j_C) (h : a = 13 ∨ a = 27 ∨ a = 29) : Kf mem (j_set mem a x) := ⟨rfl, rfl, fun c a1 a2 a3 => st_ne _ _ (by omega)⟩
section SOUND
variable {mem mem' : j_M} {G : Nat → Nat → Int64} {P : Nat} {s : Nat → Option Nat} {sh lv : Int32} {mm : List Nat} {R : Nat → Int64} {E C : Nat → Nat} {LV : Nat → List TG} {B : Nat → Option Nat} {Wn T U U' : Nat → Int32} {D : Nat → Nat → Int64} {J Q k : Nat}
theorem Bs_kf (hb : Bs mem G mm R E C LV B Wn T U D) (h : Kf mem mem') (hU : mem'.2.2 13 = some (.inl (0, 1000, .inl U'))) : Bs mem' G mm R E C LV B Wn T U' D := by
  obtain ⟨b1, b2, b3, b4, b5, b6, b7⟩ := hb
  have q : ∀ c, rcell c → c ≠ 13 → mem'.2.2 c = mem.2.2 c := fun c hc h13 => h.2.2 c h13 (by unfold rcell at hc; omega) (by unfold rcell at hc; omega)
  have h1 := h.1
  refine ⟨⟨by rw [q _ (by unfold rcell; omega) (by omega)]; exact b1.1, trivial, by rw [q _ (by unfold rcell; omega) (by omega)]; exact b1.2.2⟩, b2, b3, fun k hk => ?_, ⟨by rw [q _ (by unfold rcell; omega) (by omega)]; exact b5.1, by rw [q _ (by unfold rcell; omega) (by omega)]; exact b5.2.1, by rw [q _ (by unfold rcell; omega) (by omega)]; exact b5.2.2.1, by rw [q _ (by unfold rcell; omega) (by omega)]; exact b5.2.2.2.1, hU⟩, Rw_fr b6 (by omega) (fun c c1 _ => q c (by unfold rcell; omega) (by omega)), b7⟩
  obtain ⟨l1, l2, l3, l4⟩ := b4 k hk
  have hk4 : k = 0 ∨ k = 1 ∨ k = 2 ∨ k = 3 := by omega
  exact ⟨Lw_fr l1 l2 (q _ (by unfold rcell; omega) (by omega)) (q _ (by unfold rcell; omega) (by omega)) (q _ (by unfold rcell; omega) (by omega)) (fun c c1 _ => q c (by unfold rcell; omega) (by omega)), Lr_le l2 (by omega), l3, l4⟩
theorem lfsD (l : List TG) {j : Nat} (h : j < l.length) : (lfs l).getD j tz = (l[j]).1 := by
  unfold lfs
  rw [List.getD_eq_getElem?_getD, List.getElem?_map, List.getElem?_eq_getElem h]
  rfl
theorem lmsD (l : List TG) {j : Nat} (h : j < l.length) : (lms l).getD j [] = (l[j]).2 := by
  unfold lms
  rw [List.getD_eq_getElem?_getD, List.getElem?_map, List.getElem?_eq_getElem h]
  rfl
/-- a level's version is loaded into high -/
theorem sd_load (d : Nat) {j i : Nat} (hb : Bs mem G mm R E C LV B Wn T U D) (hV : Vs mem) (hk : k < 4) (hj : j < (LV k).length) (hi : i < ((LV k)[j]).2.length) :
    ∃ f', sw f' (G (((LV k)[j]).2.getD i 0)) ∧ j_ex tb (d + 5) m_Lv_load [.ref (32 + 4 * k), .int (nI (stl (lms (LV k)) j + i)), .ref 28] mem (.inl none) (j_set mem 29 (vW f')) ∧ Vs (j_set mem 29 (vW f')) ∧ Ve (j_set mem 29 (vW f')) 28 29 f' := by
  have hjl : j < (lms (LV k)).length := by rw [lms_len]; exact hj
  have hil : i < ((lms (LV k)).getD j []).length := by rw [lmsD _ hj]; exact hi
  have hlt : stl (lms (LV k)) j + i < (lms (LV k)).flatten.length := by
    have h1 := stl_s hjl
    have h2 : stl (lms (LV k)) (j + 1) ≤ stl (lms (LV k)) (lms (LV k)).length := by
      unfold stl
      rw [List.take_length]
      conv => rhs; rw [← List.take_append_drop (j + 1) (lms (LV k)), List.flatten_append, List.length_append]
      omega
    rw [stl_all] at h2
    omega
  obtain ⟨f', q1, q2, q3, q4, q5⟩ := gh_load d (r := k + 1) (i := stl (lms (LV k)) j + i) (v := 28) hb hV (by omega) hlt (by omega)
  rw [rL_s, ra_s] at q2
  refine ⟨f', ?_, q2, q4, q5⟩
  have e : (rms mm LV (k + 1)).getD (stl (lms (LV k)) j + i) 0 = ((LV k)[j]).2.getD i 0 := by
    show (lms (LV k)).flatten.getD (stl (lms (LV k)) j + i) 0 = _
    rw [fl_get hjl hil, lmsD _ hj]
  rw [e] at q1
  exact q1
theorem x_Lv_whole (d : Nat) {j : Nat} (hp : Pu G P mm LV) (hb : Bs mem G mm R E C LV B Wn T U D) (hV : Vs mem) (hk : k < 4) (hj : j < (LV k).length) :
    ∃ mem' fl, j_ex tb (d + 6) m_Lv_isWhole [.ref (32 + 4 * k), .ref ((LV k)[j]).1.1, .ref 26, .ref 28] mem (.inl (some (.int 1))) mem' ∧ Kf mem mem' ∧ mem'.2.2 13 = mem.2.2 13 ∧ Vs mem' ∧ Ve mem' 26 27 fl ∧ sw fl (G (((LV k)[j]).2.getD (((LV k)[j]).2.length - 1) 0)) := by
  obtain ⟨⟨w1, w2, w3⟩, t2, t3, t4⟩ := hb.2.2.2.2.2.2 k hk (LV k)[j] (List.getElem_mem hj)
  have htm := hp.2.1.1 (k + 1) (by omega)
  have hsτ : So (gK G) ((LV k)[j]).2 := So_sub htm (List.sublist_flatten_of_mem (List.mem_map.mpr ⟨_, List.getElem_mem hj, rfl⟩))
  have hmem : ∀ i, i < ((LV k)[j]).2.length → ((LV k)[j]).2.getD i 0 < 1023 := fun i hi => by
    have : ((LV k)[j]).2.getD i 0 ∈ rms mm LV (k + 1) := by
      show _ ∈ (lms (LV k)).flatten
      exact List.mem_flatten.mpr ⟨_, List.mem_map.mpr ⟨_, List.getElem_mem hj, rfl⟩, getD_mem hi⟩
    have := (hp.2.1.2.1 (k + 1) (by omega) _ this).2
    omega
  have htb : TbX mem ((LV k)[j]).1 (stl (lms (LV k)) j) := by
    have := (hb.2.2.2.1 k hk).1.2.2.2 j (by rw [lfs_len]; exact hj)
    rw [lfsD _ hj, sta_stl _ (fun τ hτ => (hb.2.2.2.2.2.2 k hk τ hτ).2.1)] at this
    exact this
  have hr := (hb.2.2.2.1 k hk).2.1.2 ((LV k)[j]).1 (List.mem_map.mpr ⟨_, List.getElem_mem hj, rfl⟩)
  have hn500 : ((LV k)[j]).2.length ≤ 500 := by
    refine pgr (a := 1) (So_nd hsτ) (fun x hx => ?_)
    have : x ∈ rms mm LV (k + 1) := List.mem_flatten.mpr ⟨_, List.mem_map.mpr ⟨_, List.getElem_mem hj, rfl⟩, hx⟩
    have := hp.2.1.2.1 (k + 1) (by omega) x this
    omega
  generalize hτ : (LV k)[j] = τ at *
  have hst : stl (lms (LV k)) j < 2 ^ 20 := by
    have h4 := (hb.2.2.2.1 k hk).2.2.2
    rw [sta_all (fun τ hτ => (hb.2.2.2.2.2.2 k hk τ hτ).2.1)] at h4
    have h2 : stl (lms (LV k)) j ≤ (lms (LV k)).flatten.length := by
      unfold stl
      conv => rhs; rw [← List.take_append_drop j (lms (LV k)), List.flatten_append, List.length_append]
      omega
    omega
  have loop : ∀ (g i : Nat) (m1 : j_M), i + g = τ.2.length → Kf mem m1 → m1.2.2 13 = mem.2.2 13 → Vs m1 → (0 < i → ∃ fl, Ve m1 26 27 fl ∧ sw fl (G (τ.2.getD (i - 1) 0))) →
      ∃ mem' fl, j_ev (d + 6) (j_ex tb (d + 5)) (j_tab q_Lv_isWhole) [] (.inl (some (.int 1))) (mem') 6 [some (.ref (32 + 4 * k)), some (.ref τ.1.1), some (.ref 26), some (.ref 28), some (.long (tsm G (τ.2.take i))), none, some (.int (nI i))] [] m1 ∧ Kf mem mem' ∧ mem'.2.2 13 = mem.2.2 13 ∧ Vs mem' ∧ Ve mem' 26 27 fl ∧ sw fl (G (τ.2.getD (τ.2.length - 1) 0)) := by
    intro g
    induction g with
    | zero =>
      intro i m1 hi g1 g2 g3 g4
      have hi : i = τ.2.length := by omega
      subst hi
      have hpos : 0 < τ.2.length := by omega
      obtain ⟨fl, l1, l2⟩ := g4 hpos
      have htb1 : TbX m1 τ.1 (stl (lms (LV k)) j) := TbX_fr htb (g1.2.2 _ (by omega) (by omega) (by omega)) (g1.2.2 _ (by omega) (by omega) (by omega))
      have kc := x_Tb_count (d + 4) htb1
      have ks := x_Tb_sum (d + 4) htb1
      rw [← t2] at kc
      rw [t3] at ks
      have o1 := htb1.1
      refine ⟨m1, fl, ?_, g1, g2, g3, l1, l2⟩
      rw [List.take_length]
      repeat (first | refine ev_go rfl (by rfl) ?_ | refine ev_gf rfl (by assumption) (by rfl) (by rfl) ?_)
      refine ev_cv (as := []) rfl rfl rfl (by assumption) (by rfl) (by rfl) (kc) ?_
      refine ev_icT rfl (by exact b_le (a := τ.2.length) (b := τ.2.length) (by omega) (by omega) (by omega)) ?_
      repeat (first | refine ev_go rfl (by rfl) ?_ | refine ev_gf rfl (by assumption) (by rfl) (by rfl) ?_)
      refine ev_cv (as := []) rfl rfl rfl (by assumption) (by rfl) (by rfl) (ks) ?_
      refine j_ev.go rfl ?_
      refine ev_vi (lg_self _) ?_
      repeat (first | refine ev_go rfl (by rfl) ?_ | refine ev_gf rfl (by assumption) (by rfl) (by rfl) ?_)
      exact j_ev.ret rfl
    | succ g ih =>
      intro i m1 hi g1 g2 g3 g4
      have hil : i < τ.2.length := by omega
      have htb1 : TbX m1 τ.1 (stl (lms (LV k)) j) := TbX_fr htb (g1.2.2 _ (by omega) (by omega) (by omega)) (g1.2.2 _ (by omega) (by omega) (by omega))
      have kc := x_Tb_count (d + 4) htb1
      have kst := x_Tb_start (d + 4) htb1
      rw [← t2] at kc
      have o1 := htb1.1
      have hb1 : Bs m1 G mm R E C LV B Wn T U D := Bs_kf hb g1 (g2.trans hb.2.2.2.2.1.2.2.2.2)
      have hoL := (hb1.2.2.2.1 k hk).1.1
      obtain ⟨f', s1, k1, v1, e1⟩ := sd_load d hb1 g3 hk hj (by rw [hτ]; exact hil)
      rw [hτ] at s1
      rw [← nI_add (stl (lms (LV k)) j) i] at k1
      obtain ⟨flo, hlo⟩ := v1 26 (by unfold vcell; omega)
      have kadd := x_Ve_addTo (d + 4) e1 (tsm G (τ.2.take i))
      rw [vsum_sw s1] at kadd
      have htk : vsum (G (τ.2.getD i 0)) (tsm G (τ.2.take i)) = tsm G (τ.2.take (i + 1)) := by
        rw [← tsm_app, take_snoc _ hil]
      rw [htk] at kadd
      have kcp := x_Ve_copy (d + 4) hlo e1 (by omega) (by omega)
      have swc : sw (va_cpy f' flo 0 0 6) (G (τ.2.getD i 0)) := fun x hx => (v_cpy hx).trans (s1 x hx)
      change j_ex tb (d + 4 + 1) m_Ve_copy [.ref 26, .ref 28] (j_set m1 29 (vW f')) (.inl none) (j_set (j_set m1 29 (vW f')) 27 (vW (va_cpy f' flo 0 0 6))) at kcp
      generalize va_cpy f' flo 0 0 6 = fl' at kcp swc
      have hv2 : Vs (j_set (j_set m1 29 (vW f')) 27 (vW fl')) := Vs_set (v := 26) v1 (by unfold vcell; omega) fl'
      obtain ⟨mem', fl, z1, z2⟩ := ih (i + 1) (j_set (j_set m1 29 (vW f')) 27 (vW fl')) (by omega) (Kf_trans g1 (Kf_trans (Kf_set _ _ (by omega)) (Kf_set _ _ (by omega)))) (by rw [st_ne _ _ (by omega), st_ne _ _ (by omega)]; exact g2) hv2 (fun _ => ⟨fl', ⟨by rw [st_ne _ _ (by omega)]; exact hlo.1, st_same _ _ _⟩, swc⟩)
      refine ⟨mem', fl, ?_, z2⟩
      have v28 : (j_set m1 29 (vW f')).2.2 28 = _ := e1.1
      have v26 : (j_set m1 29 (vW f')).2.2 26 = _ := hlo.1
      have tail : j_ev (d + 6) (j_ex tb (d + 5)) (j_tab q_Lv_isWhole) [] (.inl (some (.int 1))) (mem') 42 [some (.ref (32 + 4 * k)), some (.ref τ.1.1), some (.ref 26), some (.ref 28), some (.long (tsm G (τ.2.take i))), none, some (.int (nI i))] [] (j_set m1 29 (vW f')) := by
        rw [← nI_1 i] at z1
        repeat (first | refine ev_go rfl (by rfl) ?_ | refine ev_gf rfl (by assumption) (by rfl) (by rfl) ?_)
        refine ev_cv (as := [.long (tsm G (τ.2.take i))]) rfl rfl rfl (by assumption) (by rfl) (by rfl) (kadd) ?_
        repeat (first | refine ev_go rfl (by rfl) ?_ | refine ev_gf rfl (by assumption) (by rfl) (by rfl) ?_)
        refine ev_cv (as := [.ref 28]) rfl rfl rfl (by assumption) (by rfl) (by rfl) (kcp) ?_
        repeat (first | exact z1 | refine ev_go rfl (by rfl) ?_ | refine ev_gf rfl (by assumption) (by rfl) (by rfl) ?_)
      rcases Nat.eq_zero_or_pos i with c | c
      · subst c
        repeat (first | refine ev_go rfl (by rfl) ?_ | refine ev_gf rfl (by assumption) (by rfl) (by rfl) ?_)
        refine ev_cv (as := []) rfl rfl rfl (by assumption) (by rfl) (by rfl) (kc) ?_
        refine ev_icF rfl (by exact b_nle (a := τ.2.length) (b := 0) (by omega) (by omega) (by omega)) ?_
        repeat (first | refine ev_go rfl (by rfl) ?_ | refine ev_gf rfl (by assumption) (by rfl) (by rfl) ?_)
        refine ev_cv (as := []) rfl rfl rfl (by assumption) (by rfl) (by rfl) (kst) ?_
        repeat (first | refine ev_go rfl (by rfl) ?_ | refine ev_gf rfl (by assumption) (by rfl) (by rfl) ?_)
        refine ev_cv (as := [.int (nI (stl (lms (LV k)) j) + nI 0), .ref 28]) rfl rfl rfl (by assumption) (by rfl) (by rfl) (k1) ?_
        repeat (first | exact tail | refine ev_go rfl (by rfl) ?_ | refine ev_gf rfl (by assumption) (by rfl) (by rfl) ?_)
      · obtain ⟨fl0, l1, l2⟩ := g4 c
        have l1' : Ve (j_set m1 29 (vW f')) 26 27 fl0 := ⟨by rw [st_ne _ _ (by omega)]; exact l1.1, by rw [st_ne _ _ (by omega)]; exact l1.2⟩
        have kb := x_Ve_isBefore (d + 2) l1' e1
        have hlt : v_ord fl0 < v_ord f' := by
          have h1 := hmem (i - 1) (by omega)
          have h2 := hmem i hil
          rw [sw_ord l2, sw_ord s1, gO hp.1 (by omega), gO hp.1 (by omega)]
          exact So_get hsτ (by omega) hil
        rw [if_pos hlt] at kb
        repeat (first | refine ev_go rfl (by rfl) ?_ | refine ev_gf rfl (by assumption) (by rfl) (by rfl) ?_)
        refine ev_cv (as := []) rfl rfl rfl (by assumption) (by rfl) (by rfl) (kc) ?_
        refine ev_icF rfl (by exact b_nle (a := τ.2.length) (b := i) (by omega) (by omega) (by omega)) ?_
        repeat (first | refine ev_go rfl (by rfl) ?_ | refine ev_gf rfl (by assumption) (by rfl) (by rfl) ?_)
        refine ev_cv (as := []) rfl rfl rfl (by assumption) (by rfl) (by rfl) (kst) ?_
        repeat (first | refine ev_go rfl (by rfl) ?_ | refine ev_gf rfl (by assumption) (by rfl) (by rfl) ?_)
        refine ev_cv (as := [.int (nI (stl (lms (LV k)) j) + nI i), .ref 28]) rfl rfl rfl (by assumption) (by rfl) (by rfl) (k1) ?_
        repeat (first | refine ev_go rfl (by rfl) ?_ | refine ev_gf rfl (by assumption) (by rfl) (by rfl) ?_)
        refine ev_ifF rfl (by exact b_nle (a := i) (b := 0) (by omega) (by omega) (by omega)) ?_
        repeat (first | refine ev_go rfl (by rfl) ?_ | refine ev_gf rfl (by assumption) (by rfl) (by rfl) ?_)
        refine ev_cv (as := [.ref 28]) rfl rfl rfl (by assumption) (by rfl) (by rfl) (kb) ?_
        repeat (first | exact tail | refine ev_go rfl (by rfl) ?_ | refine ev_gf rfl (by assumption) (by rfl) (by rfl) ?_)
  obtain ⟨mem', fl, z1, z2⟩ := loop τ.2.length 0 mem (by omega) (Kf_refl _) rfl hV (fun h => absurd h (by omega))
  refine ⟨mem', fl, ?_, z2⟩
  refine ⟨e_Lv_isWhole, rfl, Nat.le_of_ble_eq_true rfl, ?_⟩
  repeat (first | exact z1 | refine ev_go rfl (by rfl) ?_ | refine ev_gf rfl (by assumption) (by rfl) (by rfl) ?_)
end SOUND
