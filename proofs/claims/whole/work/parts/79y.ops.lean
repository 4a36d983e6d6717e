/-! THE LAW: the state between its calls (own text) -/
theorem int_c (x : Int32) : x < 0 ∨ ∃ n, x = nI n ∧ n < 2 ^ 31 := by
  by_cases c : x < 0
  · exact Or.inl c
  · refine Or.inr ⟨x.toNatClampNeg, ?_, ?_⟩
    · have h0 : 0 ≤ x.toInt := by
        have : ¬ x.toInt < (0 : Int32).toInt := fun q => c (Int32.lt_iff_toInt_lt.mpr q)
        have e : (0 : Int32).toInt = 0 := by decide
        omega
      apply Int32.toInt_inj.mp
      have hb := Int32.toInt_lt x
      have e1 : x.toNatClampNeg = x.toInt.toNat := rfl
      rw [nI_toInt (by rw [e1]; omega), e1]
      omega
    · have hb := Int32.toInt_lt x
      have e1 : x.toNatClampNeg = x.toInt.toNat := rfl
      rw [e1]
      omega
/-- the class's side -/
def Cl (Ls : Nat) (xs : Nat → Int32) (mem : j_M) (G : Nat → Nat → Int64) (P : Nat) (s : Nat → Option Nat) (sh lv : Int32) (mm : List Nat) (LV : Nat → List TG) (J Q L : Nat) (b : Nat → Int32) (y : Nat) : Prop :=
  Sy mem G P s sh lv mm LV J Q ∧ Ta mem L b ∧ (sh = 0 ∨ (sh = 1 ∧ ∃ f, Ve mem 30 31 f ∧ sw f (G (y + 1)))) ∧ Alw mem ∧ mem.2.2 0 = some (.inl (0, Ls, .inl xs))
/-- the reference's side -/
def Mdf (mem : j_M) (fa : Int32) (G : Nat → Nat → Int64) (P : Nat) (s : Nat → Option Nat) (sd at' : Int32) (L : Nat) (bm : Nat → Int32) : Prop :=
  ∃ K Ln Pl Sz, Mo mem fa L P sd at' ∧ mem.2.2 70 = some (.inl (2, 60, .inl bm)) ∧ Mar mem K Ln Pl Sz ∧ Mh K Ln Pl Sz G P ∧ Mv mem s
def O77 (mem : j_M) : Prop := ∃ g : Nat → Int64, mem.2.2 77 = some (.inl (1, 1, .inr (.inl g)))
/-- what holds between the two, and of the room, behind n calls -/
def Pz (n : Nat) (G : Nat → Nat → Int64) (P : Nat) (s : Nat → Option Nat) (sh lv : Int32) (mm : List Nat) (LV : Nat → List TG) (J Q L : Nat) (b bm : Nat → Int32) (at' : Int32) (y : Nat) : Prop :=
  Pu G P mm LV ∧ (∀ m, vis P s m → ∀ t, sst (gK G) (gT G) (mem5 (rms mm LV)) m t ↔ hst (gK G) (gT G) m t) ∧ L ≤ 60 ∧ (∀ j, j < L → b j = bm j) ∧ Byt bm ∧ (∀ i m, s i = some m → m ≤ P) ∧ lv = nI (hcn (gK G) (gT G) P) ∧
  ((sh = 0 ∧ at' = -1) ∨ (sh = 1 ∧ at' = nI y ∧ y < P ∧ gT G (y + 1) = 1)) ∧ (2 * P + (if L = 0 then 0 else 1) ≤ n ∧ J + phi mm LV ≤ 4 * P + n ∧ Q ≤ n)
def Gs (Ls : Nat) (xs : Nat → Int32) (mem : j_M) (n : Nat) : Prop := ∃ G P s sh lv mm LV J Q L b bm at' y fa, Cl Ls xs mem G P s sh lv mm LV J Q L b y ∧ Mdf mem fa G P s lv at' L bm ∧ O77 mem ∧ Pz n G P s sh lv mm LV J Q L b bm at' y
section OPS2
variable {Ls : Nat} {xs : Nat → Int32} {mem mem' m1 m2 : j_M} {G G' : Nat → Nat → Int64} {P P' : Nat} {s s' : Nat → Option Nat} {sh sh' lv lv' sd sd' at' at2 fa : Int32} {mm mm' : List Nat} {LV LV' : Nat → List TG} {J J' Q Q' L L' n : Nat} {b b' bm bm' : Nat → Int32} {y y' : Nat}
theorem Cl_fr (h : Cl Ls xs mem G P s sh lv mm LV J Q L b y) (h1 : mem'.1 = mem.1) (h2 : mem'.2.1 = mem.2.1) (hf : ∀ c, c < 69 ∨ 78 ≤ c → mem'.2.2 c = mem.2.2 c) : Cl Ls xs mem' G P s sh lv mm LV J Q L b y := by
  obtain ⟨a1, a2, a3, a4, a5⟩ := h
  obtain ⟨R, E, C, B, Wn, T, U, D, hb, hsb⟩ := Sy_bs a1
  refine ⟨Sy_ag a1 h1 h2 (fun c _ _ _ _ _ _ hc => hf c hc) ((hf 4 (by omega)).trans hsb.1) ⟨(hf 7 (by omega)).trans hsb.2.1.1, (hf 8 (by omega)).trans hsb.2.1.2⟩ (Vs_fr hsb.2.2.2.2.1 (fun c c1 c2 => hf c (by omega))), ⟨(hf 5 (by omega)).trans a2.1, (hf 6 (by omega)).trans a2.2⟩, ?_, (hf 1 (by omega)).trans a4, (hf 0 (by omega)).trans a5⟩
  rcases a3 with q | ⟨q, f, f1, f2⟩
  · exact Or.inl q
  · exact Or.inr ⟨q, f, ⟨(hf 30 (by omega)).trans f1.1, (hf 31 (by omega)).trans f1.2⟩, f2⟩
theorem Mdf_fr (h : Mdf mem fa G P s sd at' L bm) (hf : ∀ c, 69 ≤ c → c < 77 → mem'.2.2 c = mem.2.2 c) : Mdf mem' fa G P s sd at' L bm := by
  obtain ⟨K, Ln, Pl, Sz, a1, a2, a3, a4, ⟨⟨op, p1, p2⟩, sv, p3, p4⟩⟩ := h
  exact ⟨K, Ln, Pl, Sz, (hf 69 (by omega) (by omega)).trans a1, (hf 70 (by omega) (by omega)).trans a2, ⟨(hf 71 (by omega) (by omega)).trans a3.1, (hf 72 (by omega) (by omega)).trans a3.2.1, (hf 73 (by omega) (by omega)).trans a3.2.2.1, (hf 74 (by omega) (by omega)).trans a3.2.2.2⟩, a4, ⟨op, (hf 75 (by omega) (by omega)).trans p1, p2⟩, sv, (hf 76 (by omega) (by omega)).trans p3, p4⟩
/-- only the reference's own cell changes -/
theorem Mdf_69 {x : Int32} (h : Mdf mem fa G P s sd at' L bm) : Mdf (j_set mem 69 (moC x L P sd at')) x G P s sd at' L bm := by
  obtain ⟨K, Ln, Pl, Sz, a1, a2, a3, a4, a5⟩ := h
  exact ⟨K, Ln, Pl, Sz, rfl, a2, Mar_69 a3 _, a4, a5⟩
/-- what a call of the reference leaves of the rest -/
def Mfr (m1 m2 : j_M) : Prop := m2.1 = m1.1 ∧ m2.2.1 = m1.2.1 ∧ ∀ c, c < 69 ∨ 77 ≤ c → m2.2.2 c = m1.2.2 c
theorem Mfr_69 (x : j_C) : Mfr m1 (j_set m1 69 x) := ⟨rfl, rfl, fun c hc => st_ne _ _ (by omega)⟩
/-- a call of the law's on both: what it answers -/
def Opr (d Ls : Nat) (xs : Nat → Int32) (n kL kM : Nat) (al am : List Value) (mem : j_M) : Prop := ∃ (mem1 mem2 : j_M) (kx : Nat) (bv : Int32) (g : Nat → Int64) (f1 f2 : List Value), kx < 4 ∧ j_ex tb (d + 30) kL al mem (.inl (some (.int (nI kx)))) mem1 ∧ j_ex tb (d + 30) kM am mem1 (.inl (some (.int bv))) mem2 ∧ j_ex tb (d + 30) m_Mo_thrown [.ref 69] mem2 (.inl (some (.int (nI kx)))) mem2 ∧ mem1.2.2 0 = some (.inl (0, Ls, .inl xs)) ∧ mem1.2.2 69 = some (.inr (11, f1)) ∧ mem2.2.2 69 = some (.inr (11, f2)) ∧ mem2.2.2 77 = some (.inl (1, 1, .inr (.inl g))) ∧ (kx = 0 → g 0 = bv.toInt64) ∧ Gs Ls xs mem2 (n + 1)
theorem Mdf_o (h : Mdf mem fa G P s sd at' L bm) : ∃ f1, mem.2.2 69 = some (.inr (11, f1)) := by
  obtain ⟨K, Ln, Pl, Sz, a1, -⟩ := h
  exact ⟨_, a1⟩
theorem Mdf_thr (d : Nat) (h : Mdf mem fa G P s sd at' L bm) : j_ex tb (d + 1) m_Mo_thrown [.ref 69] mem (.inl (some (.int fa))) mem := by
  obtain ⟨K, Ln, Pl, Sz, a1, -⟩ := h
  exact x_Mo_thrown d a1
/-- both answer the same -/
theorem opS (d : Nat) {kL kM : Nat} {al am : List Value} {v : Int32} (h77 : O77 mem) (hmd : Mdf mem fa G P s lv at' L bm) (hcl : Cl Ls xs m1 G' P' s' sh' lv' mm' LV' J' Q' L' b' y')
    (fr : ∀ c, 69 ≤ c → c < 78 → m1.2.2 c = mem.2.2 c) (wr : ∀ g, m1.2.2 77 = some (.inl (1, 1, .inr (.inl g))) → j_ex tb (d + 30) kL al mem (.inl (some (.int 0))) (j_set m1 77 (.inl (1, 1, .inr (.inl (vp_updL g 0 v.toInt64))))))
    (model : ∀ mx, Mdf mx fa G P s lv at' L bm → ∃ my, j_ex tb (d + 30) kM am mx (.inl (some (.int v))) my ∧ Mfr mx my ∧ Mdf my 0 G' P' s' lv' at2 L' bm') (hpz : Pz (n + 1) G' P' s' sh' lv' mm' LV' J' Q' L' b' bm' at2 y') : Opr d Ls xs n kL kM al am mem := by
  obtain ⟨g, hg⟩ := h77
  have hg1 := (fr 77 (by omega) (by omega)).trans hg
  have k1 := wr g hg1
  generalize hmx : j_set m1 77 (.inl (1, 1, .inr (.inl (vp_updL g 0 v.toInt64)))) = mx at k1
  have fx : ∀ c, c ≠ 77 → mx.2.2 c = m1.2.2 c := fun c hc => by rw [← hmx, st_ne _ _ hc]
  have hmdx : Mdf mx fa G P s lv at' L bm := Mdf_fr hmd (fun c c1 c2 => (fx c (by omega)).trans (fr c c1 (by omega)))
  obtain ⟨my, k2, ⟨e1, e2, e3⟩, k3⟩ := model mx hmdx
  obtain ⟨f1, o1⟩ := Mdf_o hmdx
  obtain ⟨f2, o2⟩ := Mdf_o k3
  have hclx : Cl Ls xs mx G' P' s' sh' lv' mm' LV' J' Q' L' b' y' := Cl_fr hcl (by rw [← hmx]; rfl) (by rw [← hmx]; rfl) (fun c hc => fx c (by omega))
  have h77y : my.2.2 77 = some (.inl (1, 1, .inr (.inl (vp_updL g 0 v.toInt64)))) := by
    rw [e3 77 (by omega), ← hmx]
    exact st_same _ _ _
  have kt := ex_mono _ (d + 30) _ _ _ _ _ (by omega) (Mdf_thr 0 k3)
  exact ⟨mx, my, 0, v, _, f1, f2, by omega, k1, k2, kt, hclx.2.2.2.2, o1, o2, h77y, fun _ => rfl, _, _, _, _, _, _, _, _, _, _, _, _, _, _, _, Cl_fr hclx e1 e2 (fun c hc => e3 c (by omega)), k3, ⟨_, h77y⟩, hpz⟩
/-- both refuse -/
theorem opT (d : Nat) {kL kM kx : Nat} {al am : List Value} {bv : Int32} (hkx : kx < 4 ∧ kx ≠ 0) (h77 : O77 mem) (hmd : Mdf mem fa G P s lv at' L bm) (hcl : Cl Ls xs m1 G' P' s' sh' lv' mm' LV' J' Q' L' b' y')
    (fr : ∀ c, 69 ≤ c → c < 78 → m1.2.2 c = mem.2.2 c) (wr : j_ex tb (d + 30) kL al mem (.inl (some (.int (nI kx)))) m1)
    (model : ∀ mx, Mdf mx fa G P s lv at' L bm → ∃ my, j_ex tb (d + 30) kM am mx (.inl (some (.int bv))) my ∧ Mfr mx my ∧ Mdf my (nI kx) G' P' s' lv' at2 L' bm') (hpz : Pz (n + 1) G' P' s' sh' lv' mm' LV' J' Q' L' b' bm' at2 y') : Opr d Ls xs n kL kM al am mem := by
  obtain ⟨g, hg⟩ := h77
  have hg1 := (fr 77 (by omega) (by omega)).trans hg
  have hmdx : Mdf m1 fa G P s lv at' L bm := Mdf_fr hmd (fun c c1 c2 => fr c c1 (by omega))
  obtain ⟨my, k2, ⟨e1, e2, e3⟩, k3⟩ := model m1 hmdx
  obtain ⟨f1, o1⟩ := Mdf_o hmdx
  obtain ⟨f2, o2⟩ := Mdf_o k3
  have h77y : my.2.2 77 = some (.inl (1, 1, .inr (.inl g))) := (e3 77 (by omega)).trans hg1
  have kt := ex_mono _ (d + 30) _ _ _ _ _ (by omega) (Mdf_thr 0 k3)
  exact ⟨m1, my, kx, bv, g, f1, f2, hkx.1, wr, k2, kt, hcl.2.2.2.2, o1, o2, h77y, fun q => absurd q hkx.2, _, _, _, _, _, _, _, _, _, _, _, _, _, _, _, Cl_fr hcl e1 e2 (fun c hc => e3 c (by omega)), k3, ⟨_, h77y⟩, hpz⟩
/-- behind a refused call that changed nothing -/
theorem Cl_thr (h : Cl Ls xs mem G P s sh lv mm LV J Q L b y) : Cl Ls xs (thr mem) G P s sh lv mm LV J (Q + 1) L b y ∧ ∀ c, c < 78 → (thr mem).2.2 c = mem.2.2 c := by
  obtain ⟨a1, a2, a3, a4, a5⟩ := h
  have h78 := Sy_78 a1
  have f : ∀ c, c < 78 → (thr mem).2.2 c = mem.2.2 c := fun c hc => thr_c (by omega)
  refine ⟨⟨Sy_thr a1, ⟨(f 5 (by omega)).trans a2.1, (f 6 (by omega)).trans a2.2⟩, ?_, (f 1 (by omega)).trans a4, (f 0 (by omega)).trans a5⟩, f⟩
  rcases a3 with q | ⟨q, g, f1, f2⟩
  · exact Or.inl q
  · exact Or.inr ⟨q, g, ⟨(f 30 (by omega)).trans f1.1, (f 31 (by omega)).trans f1.2⟩, f2⟩
theorem Pz_t (h : Pz n G P s sh lv mm LV J Q L b bm at' y) : Pz (n + 1) G P s sh lv mm LV J (Q + 1) L b bm at' y := by
  obtain ⟨a1, a2, a3, a4, a5, a6, a7, a8, a9, a10, a11⟩ := h
  exact ⟨a1, a2, a3, a4, a5, a6, a7, a8, by omega, by omega, by omega⟩
theorem Pz_s (h : Pz n G P s sh lv mm LV J Q L b bm at' y) : Pz (n + 1) G P s sh lv mm LV J Q L b bm at' y := by
  obtain ⟨a1, a2, a3, a4, a5, a6, a7, a8, a9, a10, a11⟩ := h
  exact ⟨a1, a2, a3, a4, a5, a6, a7, a8, by omega, by omega, by omega⟩
/-- both refuse, and nothing has changed -/
theorem opR (d : Nat) {kL kM kx : Nat} {al am : List Value} (hkx : kx < 4 ∧ kx ≠ 0) (hcl : Cl Ls xs mem G P s sh lv mm LV J Q L b y) (hmd : Mdf mem fa G P s lv at' L bm) (h77 : O77 mem) (hpz : Pz n G P s sh lv mm LV J Q L b bm at' y)
    (wr : j_ex tb (d + 30) kL al mem (.inl (some (.int (nI kx)))) (thr mem)) (model : ∀ mx, Mo mx fa L P lv at' → j_ex tb (d + 30) kM am mx (.inl (some (.int 0))) (j_set mx 69 (moC (nI kx) L P lv at'))) : Opr d Ls xs n kL kM al am mem := by
  obtain ⟨h1, h2⟩ := Cl_thr hcl
  refine opT d (bv := 0) hkx h77 hmd h1 (fun c _ hc => h2 c hc) wr (fun mx hx => ?_) (Pz_t hpz)
  have hmo := hx
  obtain ⟨K, Ln, Pl, Sz, a1, -⟩ := hmo
  exact ⟨_, model mx a1, Mfr_69 _, Mdf_69 hx⟩
end OPS2
