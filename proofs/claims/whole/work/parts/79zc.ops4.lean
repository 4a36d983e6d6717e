/-! THE LAW: word, flush, merge, check (own text) -/
theorem e8_sw {f g : Nat → Int64} (h : sw f g) (i : Nat) : ∀ t, e8 f i t = e8 g i t
  | 0 => rfl
  | t + 1 => by
    show e8 f i t * 256 + vb f (i + t) = e8 g i t * 256 + vb g (i + t)
    rw [e8_sw h i t]
    have : vb f (i + t) = vb g (i + t) := by
      unfold vb
      by_cases c : i + t < 40
      · rw [if_pos c, if_pos c, h ((i + t) / 8) (by omega)]
      · rw [if_neg c, if_neg c]
    rw [this]
def OprW (d Ls : Nat) (xs : Nat → Int32) (n : Nat) (x : Int32) (mem : j_M) : Prop := ∃ (mem1 mem2 : j_M) (kx : Nat) (bv : Int64) (g : Nat → Int64) (f1 f2 : List Value), kx < 4 ∧ j_ex tb (d + 30) m_La_word [.ref 4, .int x, .ref 77] mem (.inl (some (.int (nI kx)))) mem1 ∧ j_ex tb (d + 30) m_Mo_word [.ref 69, .int x] mem1 (.inl (some (.long bv))) mem2 ∧ j_ex tb (d + 30) m_Mo_thrown [.ref 69] mem2 (.inl (some (.int (nI kx)))) mem2 ∧ mem1.2.2 0 = some (.inl (0, Ls, .inl xs)) ∧ mem1.2.2 69 = some (.inr (11, f1)) ∧ mem2.2.2 69 = some (.inr (11, f2)) ∧ mem2.2.2 77 = some (.inl (1, 1, .inr (.inl g))) ∧ (kx = 0 → g 0 = bv) ∧ Gs Ls xs mem2 (n + 1)
section OPS6
variable {Ls : Nat} {xs : Nat → Int32} {mem : j_M} {n : Nat} {G : Nat → Nat → Int64} {P : Nat} {s : Nat → Option Nat} {sh lv at' fa : Int32} {mm mm' : List Nat} {LV LV' : Nat → List TG} {J J' Q L : Nat} {b bm : Nat → Int32} {y : Nat}
/-- word refused on both sides -/
theorem opWR (d : Nat) {kx : Nat} {x : Int32} (hkx : kx < 4 ∧ kx ≠ 0) (hcl : Cl Ls xs mem G P s sh lv mm LV J Q L b y) (hmd : Mdf mem fa G P s lv at' L bm) (h77 : O77 mem) (hpz : Pz n G P s sh lv mm LV J Q L b bm at' y)
    (wr : j_ex tb (d + 30) m_La_word [.ref 4, .int x, .ref 77] mem (.inl (some (.int (nI kx)))) (thr mem)) (model : ∀ mx K Ln Pl Sz, Mo mx fa L P lv at' → Mar mx K Ln Pl Sz → Mh K Ln Pl Sz G P → j_ex tb (d + 30) m_Mo_word [.ref 69, .int x] mx (.inl (some (.long 0))) (j_set mx 69 (moC (nI kx) L P lv at'))) : OprW d Ls xs n x mem := by
  obtain ⟨h1, h2⟩ := Cl_thr hcl
  obtain ⟨g, hg⟩ := h77
  have hg1 := (h2 77 (by omega)).trans hg
  have hmdx : Mdf (thr mem) fa G P s lv at' L bm := Mdf_fr hmd (fun c c1 c2 => h2 c (by omega))
  have hmo := hmdx
  obtain ⟨K, Ln, Pl, Sz, a1, a2, a3, a4, a5⟩ := hmo
  have k2 := model _ K Ln Pl Sz a1 a3 a4
  have k3 : Mdf (j_set (thr mem) 69 (moC (nI kx) L P lv at')) (nI kx) G P s lv at' L bm := Mdf_69 hmdx
  obtain ⟨f1, o1⟩ := Mdf_o hmdx
  obtain ⟨f2, o2⟩ := Mdf_o k3
  have h77y : (j_set (thr mem) 69 (moC (nI kx) L P lv at')).2.2 77 = some (.inl (1, 1, .inr (.inl g))) := hg1
  have kt := ex_mono _ (d + 30) _ _ _ _ _ (by omega) (Mdf_thr 0 k3)
  exact ⟨_, _, kx, 0, g, f1, f2, hkx.1, wr, k2, kt, h1.2.2.2.2, o1, o2, h77y, fun q => absurd q hkx.2, _, _, _, _, _, _, _, _, _, _, _, _, _, _, _, Cl_fr h1 rfl rfl (fun c hc => st_ne _ _ (by omega)), k3, ⟨_, h77y⟩, Pz_t hpz⟩
theorem op_word (d : Nat) (x : Int32) (hn : n < 1000) (h : Gs Ls xs mem n) : OprW d Ls xs n x mem := by
  obtain ⟨G, P, s, sh, lv, mm, LV, J, Q, L, b, bm, at', y, fa, hcl, hmd, h77, hpz⟩ := h
  obtain ⟨R, E, C, B, Wn, T, U, D, hb, hsb⟩ := Sy_bs hcl.1
  have l4 := Sy_lt hcl.1
  have hP : P ≤ 500 := by have := hpz.2.2.2.2.2.2.2.2.1; omega
  rcases hpz.2.2.2.2.2.2.2.1 with ⟨q1, q2⟩ | ⟨q1, q2, q3, q4⟩
  · subst q1
    subst q2
    have k := x_LT_wordN (d + 26) (by omega) (x := x) hsb.1
    exact opWR d (kx := 1) (by omega) hcl hmd h77 hpz (wC_word_3 (d + 29) l4 k) (fun mx K Ln Pl Sz hx _ _ => m_wordN (d + 28) hx)
  · subst q1
    subst q2
    have hsh : ∃ f, Ve mem 30 31 f ∧ sw f (G (y + 1)) := by
      rcases hcl.2.2.1 with q | q
      · exact absurd q (by decide)
      · exact q.2
    obtain ⟨f, f1, f2⟩ := hsh
    have hlen : v_len f = v_len (G (y + 1)) := by
      unfold v_len
      rw [f2 5 (by omega)]
    by_cases c : x < 0 ∨ ∃ w, x = nI w ∧ w < 2 ^ 31 ∧ v_len f ≤ w
    · have k := x_LT_wordT (d + 26) (by omega) hsb.1 f1 c
      rw [hlen] at c
      exact opWR d (kx := 2) (by omega) hcl hmd h77 hpz (wC_word_2 (d + 29) l4 k) (fun mx K Ln Pl Sz hx ha hh => m_wordT (d + 28) hP hx q3 ha hh c)
    · have hx : ∃ i, x = nI i ∧ i < v_len f := by
        rcases int_c x with q | ⟨w, e1, e2⟩
        · exact absurd (Or.inl q) c
        · refine ⟨w, e1, ?_⟩
          rcases Nat.lt_or_ge w (v_len f) with e | e
          · exact e
          · exact absurd (Or.inr ⟨w, e1, e2, e⟩) c
      obtain ⟨i, rfl, hi⟩ := hx
      have k := x_LT_word (d + 26) hsb.1 f1 hi
      rw [e8_sw f2 i 8] at k
      rw [hlen] at hi
      obtain ⟨g, hg⟩ := h77
      have k1 := wS_word (d + 29) l4 k hg
      generalize hmx : j_set mem 77 (.inl (1, 1, .inr (.inl (vp_updL g 0 (lN (e8 (G (y + 1)) i 8)))))) = mx at k1
      have fx : ∀ c, c ≠ 77 → mx.2.2 c = mem.2.2 c := fun c hc => by rw [← hmx, st_ne _ _ hc]
      have hmdx : Mdf mx fa G P s lv (nI y) L bm := Mdf_fr hmd (fun c c1 c2 => fx c (by omega))
      have hmo := hmdx
      obtain ⟨K, Ln, Pl, Sz, a1, a2, a3, a4, a5⟩ := hmo
      have k2 := m_word (d + 28) hP a1 q3 a3 a4 hi
      have k3 : Mdf (j_set mx 69 (moC 0 L P lv (nI y))) 0 G P s lv (nI y) L bm := Mdf_69 hmdx
      obtain ⟨g1, o1⟩ := Mdf_o hmdx
      obtain ⟨g2, o2⟩ := Mdf_o k3
      have h77x : mx.2.2 77 = some (.inl (1, 1, .inr (.inl (vp_updL g 0 (lN (e8 (G (y + 1)) i 8)))))) := by rw [← hmx]; exact st_same _ _ _
      have hclx : Cl Ls xs mx G P s 1 lv mm LV J Q L b y := Cl_fr hcl (by rw [← hmx]; rfl) (by rw [← hmx]; rfl) (fun c hc => fx c (by omega))
      have kt := ex_mono _ (d + 30) _ _ _ _ _ (by omega) (Mdf_thr 0 k3)
      exact ⟨mx, _, 0, _, _, g1, g2, by omega, k1, k2, kt, hclx.2.2.2.2, o1, o2, h77x, fun _ => rfl, _, _, _, _, _, _, _, _, _, _, _, _, _, _, _, Cl_fr hclx rfl rfl (fun c hc => st_ne _ _ (by omega)), k3, ⟨_, h77x⟩, Pz_s hpz⟩
/-- flush, merge, check: both answer how many live -/
def OprF (d Ls : Nat) (xs : Nat → Int32) (n kL kM : Nat) (al am : List Value) (mem : j_M) : Prop := ∃ (mem1 mem2 : j_M) (v : Int32) (f1 : List Value), j_ex tb (d + 30) kL al mem (.inl (some (.int v))) mem1 ∧ j_ex tb (d + 30) kM am mem1 (.inl (some (.int v))) mem2 ∧ mem1.2.2 0 = some (.inl (0, Ls, .inl xs)) ∧ mem1.2.2 69 = some (.inr (11, f1)) ∧ Gs Ls xs mem2 (n + 1)
theorem opF (d : Nat) {kL kM : Nat} {al am : List Value} {m1 : j_M} (hcl : Cl Ls xs mem G P s sh lv mm LV J Q L b y) (hmd : Mdf mem fa G P s lv at' L bm) (h77 : O77 mem) (hpz : Pz n G P s sh lv mm LV J Q L b bm at' y)
    (k1 : j_ex tb (d + 30) kL al mem (.inl (some (.int lv))) m1) (hsy : Sy m1 G P s sh lv mm' LV' J' Q) (hpu : Pu G P mm' LV') (hsm : Same G P s (rms mm LV) (rms mm' LV')) (ho : Ox mem m1) (hJ : J' + phi mm' LV' ≤ J + phi mm LV + 1) (model : ∀ mx, Mo mx fa L P lv at' → j_ex tb (d + 30) kM am mx (.inl (some (.int lv))) (j_set mx 69 (moC 0 L P lv at'))) : OprF d Ls xs n kL kM al am mem := by
  obtain ⟨a1, a2, a3, a4, a5⟩ := hcl
  have hcl1 : Cl Ls xs m1 G P s sh lv mm' LV' J' Q L b y := by
    refine ⟨hsy, ⟨(ho 5 (by omega)).trans a2.1, (ho 6 (by omega)).trans a2.2⟩, ?_, (ho 1 (by omega)).trans a4, (ho 0 (by omega)).trans a5⟩
    rcases a3 with q | ⟨q, f, f1, f2⟩
    · exact Or.inl q
    · exact Or.inr ⟨q, f, ⟨(ho 30 (by omega)).trans f1.1, (ho 31 (by omega)).trans f1.2⟩, f2⟩
  have hmd1 : Mdf m1 fa G P s lv at' L bm := Mdf_fr hmd (fun c c1 c2 => ho c (by omega))
  have hmo := hmd1
  obtain ⟨K, Ln, Pl, Sz, e1, -⟩ := hmo
  obtain ⟨f1, o1⟩ := Mdf_o hmd1
  obtain ⟨g, hg⟩ := h77
  have h77y : (j_set m1 69 (moC 0 L P lv at')).2.2 77 = some (.inl (1, 1, .inr (.inl g))) := (ho 77 (by omega)).trans hg
  refine ⟨m1, _, lv, f1, k1, model m1 e1, hcl1.2.2.2.2, o1, _, _, _, _, _, _, _, _, _, _, _, _, _, _, _, Cl_fr hcl1 rfl rfl (fun c hc => st_ne _ _ (by omega)), Mdf_69 hmd1, ⟨_, h77y⟩, ?_⟩
  obtain ⟨b1, b2, b3, b4, b5, b6, b7, b8, b9, b10, b11⟩ := hpz
  exact ⟨hpu, fun m hm t => (hsm m hm t).trans (b2 m hm t), b3, b4, b5, b6, b7, b8, by omega, by omega, by omega⟩
theorem op_flush (d : Nat) (hn : n < 512) (h : Gs Ls xs mem n) : OprF d Ls xs n m_LT_flush m_Mo_flush [.ref 4] [.ref 69] mem := by
  obtain ⟨G, P, s, sh, lv, mm, LV, J, Q, L, b, bm, at', y, fa, hcl, hmd, h77, hpz⟩ := h
  have hP : P ≤ 256 := by have := hpz.2.2.2.2.2.2.2.2.1; omega
  have hs : ∀ i m, s i = some m → m ≤ 500 := fun i m hi => by have := hpz.2.2.2.2.2.1 i m hi; omega
  obtain ⟨m1, mm', LV', J', k1, k2, k3, k4, k5, k6⟩ := x_LT_flush (d + 18) hP hs hcl.1 hpz.1 hcl.2.2.2.1
  exact opF d hcl hmd h77 hpz k1 k2 k3 k4 k5 k6 (fun mx hx => m_flush (d + 28) hx)
theorem op_merge (d : Nat) {z : Nat} (hz : z ≤ 1) (hn : n < 512) (h : Gs Ls xs mem n) : OprF d Ls xs n m_LT_merge m_Mo_merge [.ref 4, .int (nI z)] [.ref 69, .int (nI z)] mem := by
  obtain ⟨G, P, s, sh, lv, mm, LV, J, Q, L, b, bm, at', y, fa, hcl, hmd, h77, hpz⟩ := h
  have hP : P ≤ 256 := by have := hpz.2.2.2.2.2.2.2.2.1; omega
  have hs : ∀ i m, s i = some m → m ≤ 500 := fun i m hi => by have := hpz.2.2.2.2.2.1 i m hi; omega
  have : z = 0 ∨ z = 1 := by omega
  rcases this with rfl | rfl
  · obtain ⟨m1, LV', J', k1, k2, k3, k4, k5, k6⟩ := x_LT_merge0 (d + 18) hP hs hcl.1 hpz.1
    exact opF d hcl hmd h77 hpz k1 k2 k3 k4 k5 k6 (fun mx hx => m_merge (d + 28) hx)
  · obtain ⟨m1, LV', J', k1, k2, k3, k4, k5, k6⟩ := x_LT_merge1 (d + 18) hP hs hcl.1 hpz.1
    exact opF d hcl hmd h77 hpz k1 k2 k3 k4 k5 k6 (fun mx hx => m_merge (d + 28) hx)
theorem op_check (d : Nat) (hn : n < 512) (h : Gs Ls xs mem n) : OprF d Ls xs n m_LT_check m_Mo_check [.ref 4] [.ref 69] mem := by
  obtain ⟨G, P, s, sh, lv, mm, LV, J, Q, L, b, bm, at', y, fa, hcl, hmd, h77, hpz⟩ := h
  have hP : P ≤ 256 := by have := hpz.2.2.2.2.2.2.2.2.1; omega
  obtain ⟨m1, k1, k2, k3⟩ := x_LT_check (d + 19) (by omega) hcl.1 hpz.1 (hpz.2.1 P (Or.inl rfl))
  rw [← hpz.2.2.2.2.2.2.1] at k1
  exact opF d hcl hmd h77 hpz k1 k2 hpz.1 (Same_refl _ _ _ _) k3 (by omega) (fun mx hx => m_check (d + 28) hx)
end OPS6
