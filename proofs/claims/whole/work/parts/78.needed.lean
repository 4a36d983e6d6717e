/-! LEVELTABLES: writeNeeded (own text) -/
/-- the batch while it is written: memory m1 against the start m0 -/
def Nst (m0 m1 : j_M) (G : Nat → Nat → Int64) (old : List Nat) (B0 : Nat → Option Nat) (D0 : Nat → Nat → Int64) (e0 cap0 e cap : Nat) (fs : List TG) (cur bs : List Nat) (B : Nat → Option Nat) (Wn T U : Nat → Int32) (D : Nat → Nat → Int64) : Prop :=
  Vs m1 ∧ Wst m1 G old e cap fs cur bs B Wn T U D ∧ Nf m0 old B0 e0 m1 ∧ Bx m0 B0 B ∧ (∀ b ∈ old, D b = D0 b) ∧ (e = e0 ∨ m0.1 ≤ e) ∧ (∀ τ ∈ fs, m0.1 ≤ τ.1.1) ∧ cap0 ≤ cap ∧ (cap = cap0 ∨ cap ≤ 2 * fs.length + 10) ∧
  m1.1 + nB B0 + cap0 ≤ m0.1 + nB B + cap + 2 * fs.length ∧ m1.2.1 + 48 * nB B0 + cap0 * cap0 ≤ m0.2.1 + 48 * nB B + cap * cap + 60 * fs.length
section NEEDED
variable {m0 : j_M} {G : Nat → Nat → Int64} {mm : List Nat} {R : Nat → Int64} {E C : Nat → Nat} {LV : Nat → List TG} {B0 : Nat → Option Nat} {Wn0 T0 U : Nat → Int32} {D0 : Nat → Nat → Int64} {old : List Nat} {e0 cap0 P l : Nat} {s : Nat → Option Nat} {sh lv : Int32} {ml : List Nat} {sp : Nat → Nat}
theorem need_loop (d : Nat) (hG : Hg G) (hg : Rg G (rms mm LV)) (hb : Bs m0 G mm R E C LV B0 Wn0 T0 U D0) (hA : Al m0 67 e0 cap0 []) (hAe : Ale m0 e0 cap0) (hE : ∀ k, k < 4 → C k ≠ 0 → E k ≠ e0) (h78 : 78 ≤ m0.1) (hold : ∀ k, k < 4 → ∀ τ ∈ LV k, ∀ b ∈ τ.1.2.2.1, b ∈ old)
    (hLT : LT m0 sh lv) (hV : Vw m0 P s) (hP : P ≤ 500) (hs : ∀ i m, s i = some m → m ≤ 500) (hru : Rns m0) (hl : l < 4) (hcov : Cov (gK G) (rms mm LV) l ml) (hso : So (gK G) ml) (hlen : old.length + ml.length < 1000 ∧ ml.length ≤ 400) (hcap : cap0 ≤ 1000) :
    ∀ (rest pre kp : List Nat) (ib wt i : Nat) (m1 : j_M) (un : Int32) (fv : Nat → Int64) (e cap : Nat) (fs : List TG) (cur bs : List Nat) (B : Nat → Option Nat) (Wn T : Nat → Int32) (D : Nat → Nat → Int64) (x5 x6 x7 : Option Value), ml = pre ++ rest → Kin (gK G) (gT G) (vis P s) (mem5 (rms mm LV)) (dpr (rms mm LV) l) pre kp rest ib wt → wt ≤ 1 → Cut (gK G) (lms fs) cur kp → So (gK G) kp → i + rest.length ≤ 500 → Wl m1 G (rms mm LV) sp un fv rest →
      Nst m0 m1 G old B0 D0 e0 cap0 e cap fs cur bs B Wn T U D →
      ∃ mo kp' un' fv' e' cap' fs' B' Wn' T' D', j_ev (d + 10) (j_ex tb (d + 9)) (j_tab q_LT_writeNeeded) [] (.inl none) (mo) 21 [some (.ref 4), some (.int (nI l)), some (.int (nI ib)), some (.int (nI wt)), some (.int (nI i)), x5, x6, x7] [] m1 ∧
        Kpt (gK G) (gT G) (vis P s) (mem5 (rms mm LV)) (dpr (rms mm LV) l) ml kp' ∧ So (gK G) kp' ∧ (lms fs').flatten = kp' ∧ (lms fs').Pairwise (apt (gK G)) ∧ (∀ q ∈ lms fs', q ≠ []) ∧ 32 * fs'.length ≤ kp'.length + 32 ∧ Wl mo G (rms mm LV) sp un' fv' [] ∧ Nst m0 mo G old B0 D0 e0 cap0 e' cap' fs' [] [] B' Wn' T' U D' := by
  have hltm : ∀ y ∈ ml, y < 1023 := fun y hy => by
    obtain ⟨r, q1, q2⟩ := hcov.1 y hy
    have := (hg.2.1 r (by omega) y q2).2
    omega
  have hvs : ∀ m, vis P s m → m < 1023 := fun m hm => by
    rcases hm with q | ⟨i, q1, q2⟩
    · omega
    · have := hs i m q2
      omega
  have K4 : ∀ c, c < 78 → (c ≠ 10 ∧ c ≠ 11 ∧ c ≠ 12 ∧ c ≠ 16 ∧ c ≠ 23 ∧ c ≠ 25 ∧ c ≠ 34 ∧ c ≠ 38 ∧ c ≠ 42 ∧ c ≠ 46 ∧ (c < 48 ∨ 69 ≤ c)) → Kc m0 old B0 e0 c := fun c h1 h2 => Kc_sm hb.2.2.2.2.2.1 hAe h78 h1 h2
  have LTn : ∀ m1, Nf m0 old B0 e0 m1 → LT m1 sh lv := fun m1 hn => (hn.2 4 (K4 4 (by omega) (by omega))).trans hLT
  have Vn : ∀ m1, Nf m0 old B0 e0 m1 → Vw m1 P s := fun m1 hn => ⟨(hn.2 7 (K4 7 (by omega) (by omega))).trans hV.1, (hn.2 8 (K4 8 (by omega) (by omega))).trans hV.2⟩
  have Rn : ∀ m1, Nf m0 old B0 e0 m1 → Rns m1 := fun m1 hn => by
    obtain ⟨Hr, r1, r2⟩ := hru
    exact ⟨Hr, (hn.2 19 (K4 19 (by omega) (by omega))).trans r1, r2⟩
  have Bn : ∀ m1 B Wn T D, Nf m0 old B0 e0 m1 → Cp m1 B Wn T U → Rw m1 B D → Bx m0 B0 B → (∀ b ∈ old, D b = D0 b) → Bs m1 G mm R E C LV B Wn T U D := fun m1 B Wn T D a1 a2 a3 a4 a5 => Bs_nf hb hA hAe hE h78 a1 a2 a3 a4 hold a5
  have hl01 : ∀ (a : Nat → Nat → Int64) t, v_th (a t) ≤ 1 := fun a t => by
    have : v_th (a t) < 2 := Nat.mod_lt _ (by decide)
    omega
  intro rest
  induction rest with
  | nil =>
    intro pre kp ib wt i m1 un fv e cap fs cur bs B Wn T D x5 x6 x7 hml hkin hwt hcut hsk hi hwl hn
    obtain ⟨n1, n2, n3, n4, n5, n6, n7, n8, n9, n10, n11⟩ := hn
    have hmp : ml = pre := by rw [hml, List.append_nil]
    subst hmp
    have hcl : cur.length ≤ 400 := by
      have e1 := congrArg List.length hcut.1
      have e2 := pg kp ml (So_nd hsk) hkin.1.1
      rw [List.length_append] at e1
      omega
    have hfl : fs.length ≤ 400 := by
      have e1 := congrArg List.length hcut.1
      have e2 := pg kp ml (So_nd hsk) hkin.1.1
      have e3 : (lms fs).length ≤ (lms fs).flatten.length := by
        have : ∀ (q : List (List Nat)), (∀ z ∈ q, 32 ≤ z.length) → q.length ≤ q.flatten.length := by
          intro q
          induction q with
          | nil => intro _; exact Nat.le_refl _
          | cons z q ih =>
            intro hz
            have := ih (fun w hw => hz w (List.mem_cons_of_mem _ hw))
            have := hz z List.mem_cons_self
            rw [List.flatten_cons, List.length_append, List.length_cons]
            omega
        exact this _ hcut.2.2.2
      rw [List.length_append] at e1
      rw [lms_len] at e3
      omega
    obtain ⟨e', cap', mo, fs', s1, s2, s3, s4, s5, s6, s7, s8, s9, s10, s11⟩ := w_end (d + 2) n2 hcl (by omega)
    have l4 := LTn m1 n3
    have h78' : 78 ≤ m1.1 := n2.2.2.2.2.2.2
    have e2 : e = 2 ∨ 78 ≤ e := by
      by_cases c : cap = 0
      · exact Or.inl (n2.2.1.2.1 c)
      · exact Or.inr (n2.2.1.2.2 c).1
    have fr : ∀ c, c < 66 → c ≠ 10 → c ≠ 11 → c ≠ 12 → mo.2.2 c = m1.2.2 c := fun c c1 c2 c3 c4 => s3.2 c (by omega) c2 c3 c4 (by omega) (by omega) (by omega) (by omega) (fun b _ q => by
      have := (n2.1.2.2.1 b c q).1
      omega)
    have hnm := n3.1
    refine ⟨mo, kp, un, fv, e', cap', fs', B, Wn, T, D, ?_, hkin.1, hsk, ?_, ?_, ?_, ?_, Wl_fr hwl (fun c c1 c2 => fr c c2 (by omega) (by omega) (by omega)) (fr 19 (by omega) (by omega) (by omega) (by omega)), Vs_fr n1 (fun c c1 c2 => fr c c2 (by omega) (by omega) (by omega)), s2, Nf_wr n3 s3 n4 n6, n4, n5, ?_, ?_, by omega, ?_, by omega, by omega⟩
    · have k2 := gh_advance0 (d + 8) hwl
      have w48 : ∃ fs, m1.2.2 48 = some (.inr (6, fs)) := by
        obtain ⟨hn, a, fn, q1, -⟩ := hwl
        exact ⟨_, q1.1⟩
      obtain ⟨f48, w48⟩ := w48
      have w66 := n2.1.1.1
      have fin : j_ev (d + 10) (j_ex tb (d + 9)) (j_tab q_LT_writeNeeded) [] (.inl none) (mo) 195 [some (.ref 4), some (.int (nI l)), some (.int (nI ib)), some (.int (nI wt)), some (.int (nI i)), x5, x6, x7] [] m1 := by
        repeat (first | refine ev_go rfl (by rfl) ?_ | refine ev_gf rfl (by assumption) (by rfl) (by rfl) ?_)
        refine ev_cv (as := []) rfl rfl rfl (by assumption) (by rfl) (by rfl) (s1) ?_
        exact j_ev.ret rfl
      by_cases ci : i < 500
      · repeat (first | refine ev_go rfl (by rfl) ?_ | refine ev_gf rfl (by assumption) (by rfl) (by rfl) ?_)
        refine ev_icF rfl (by exact b_nle (a := 500) (b := i) (by omega) (by omega) (by omega)) ?_
        repeat (first | refine ev_go rfl (by rfl) ?_ | refine ev_gf rfl (by assumption) (by rfl) (by rfl) ?_)
        refine ev_cv (as := []) rfl rfl rfl (by assumption) (by rfl) (by rfl) (k2) ?_
        repeat (first | exact fin | refine ev_go rfl (by rfl) ?_ | refine ev_gf rfl (by assumption) (by rfl) (by rfl) ?_)
      · repeat (first | refine ev_go rfl (by rfl) ?_ | refine ev_gf rfl (by assumption) (by rfl) (by rfl) ?_)
        refine ev_icT rfl (by exact b_le (a := 500) (b := i) (by omega) (by omega) (by omega)) ?_
        exact fin
    · rw [s6]
      have q := hcut.1
      split
      · rename_i c
        rw [c, List.append_nil] at q
        exact q
      · rw [List.flatten_append, List.flatten_singleton]
        exact q
    · rw [s6]
      split
      · rename_i c
        exact (List.pairwise_append.mp hcut.2.1).1
      · exact hcut.2.1
    · rw [s6]
      intro q hq
      have hfs : ∀ q ∈ lms fs, q ≠ [] := fun q hq e => by
        have := hcut.2.2.2 q hq
        rw [e] at this
        simp at this
      split at hq
      · exact hfs q hq
      · rename_i c
        rcases List.mem_append.mp hq with w | w
        · exact hfs q w
        · have : q = cur := by simpa using w
          rw [this]
          exact c
    · have e1 := congrArg List.length hcut.1
      have : ∀ (q : List (List Nat)), (∀ z ∈ q, 32 ≤ z.length) → 32 * q.length ≤ q.flatten.length := by
        intro q
        induction q with
        | nil => intro _; exact Nat.le_refl _
        | cons z q ih =>
          intro hz
          have := ih (fun w hw => hz w (List.mem_cons_of_mem _ hw))
          have := hz z List.mem_cons_self
          rw [List.flatten_cons, List.length_append, List.length_cons]
          omega
      have e3 := this _ hcut.2.2.2
      rw [List.length_append] at e1
      rw [lms_len] at e3
      omega
    · rcases s4 with q | q
      · rw [q]; exact n6
      · exact Or.inr (by omega)
    · intro τ hτ
      rcases s5 τ hτ with q | q
      · exact n7 τ q
      · omega
    · rcases s9 with q | q
      · rcases n9 with w | w
        · exact Or.inl (by omega)
        · have : fs.length ≤ fs'.length := by
            have := congrArg List.length s6
            rw [lms_len] at this
            split at this
            · rw [lms_len] at this; omega
            · rw [List.length_append, lms_len] at this
              omega
          exact Or.inr (by omega)
      · have : fs.length ≤ fs'.length := by
          have := congrArg List.length s6
          rw [lms_len] at this
          split at this
          · rw [lms_len] at this; omega
          · rw [List.length_append, lms_len] at this
            omega
        exact Or.inr (by omega)
  | cons x rest ih =>
    intro pre kp ib wt i m1 un fv e cap fs cur bs B Wn T D x5 x6 x7 hml hkin hwt hcut hsk hi hwl hn
    obtain ⟨n1, n2, n3, n4, n5, n6, n7, n8, n9, n10, n11⟩ := hn
    rw [List.length_cons] at hi
    have hxm : x ∈ ml := by rw [hml]; simp
    have hx1 : 1 ≤ x ∧ x ≤ 500 := by
      obtain ⟨r, q1, q2⟩ := hcov.1 x hxm
      exact hg.2.1 r (by omega) x q2
    have hso' : So (gK G) (pre ++ x :: rest) := by rw [← hml]; exact hso
    have hlt' : ∀ y ∈ pre ++ x :: rest, y < 1023 := by rw [← hml]; exact hltm
    obtain ⟨sm1, sm2⟩ := So_mid hso' hlt'
    -- the walk goes on
    have hB1 := Bn m1 B Wn T D n3 n2.1.2.1 n2.1.2.2 n4 n5
    obtain ⟨m2, fv2, a1, a2, a3, a4⟩ := gh_advance (d + 2) hG hg hwl (Bs_Rd hB1)
    have hwq2 : ∃ hn a fn, Wq m2 hn (nI (unt (gK G) rest x)) a sp fv2 fn (gW G (rms mm LV)) := by
      obtain ⟨hn, a, fn, q1, -⟩ := a4
      exact ⟨hn, a, fn, q1⟩
    obtain ⟨hn2, aa2, fn2, wq2⟩ := hwq2
    have hVs2 : Vs m2 := Vs_wq n1 a2 wq2
    have n3' := Nf_wf n3 a2
    have l4 := LTn m1 n3
    have l4' := LTn m2 n3'
    have w48 : ∃ fs, m1.2.2 48 = some (.inr (6, fs)) := by
      obtain ⟨hn, a, fn, q1, -⟩ := hwl
      exact ⟨_, q1.1⟩
    obtain ⟨f48, w48⟩ := w48
    have w48' := wq2.1
    have kver := x_Wk_version (d + 8) wq2
    have kunt := x_Wk_until (d + 8) wq2
    have hve2 : Ve m2 52 53 fv2 := wq2.2.2.2.2.2.1
    have hk2 : v_key fv2 = gK G x := sw_key a3
    have hm2 : v_mom fv2 = x := (sw_mom a3).trans (hG x (by omega))
    have ht2 : v_th fv2 = gT G x := sw_th a3
    have wfr2 : ∀ c, c < 48 ∨ 66 ≤ c → m2.2.2 c = m1.2.2 c := a2.2.2
    -- a state that differs from m2 in searches' cells alone
    have hws2 : Wst m2 G old e cap fs cur bs B Wn T U D ∧ Bs m2 G mm R E C LV B Wn T U D := by
      obtain ⟨⟨hp, hC, hRw⟩, ⟨hal, hale⟩, htb, hnd, hcu, hbl, h78'⟩ := n2
      have e78 : e = 2 ∨ 78 ≤ e := by
        by_cases c : cap = 0
        · exact Or.inl (hale.1 c)
        · exact Or.inr (hale.2 c).1
      have hC2 : Cp m2 B Wn T U := ⟨(wfr2 9 (by omega)).trans hC.1, (wfr2 10 (by omega)).trans hC.2.1, (wfr2 11 (by omega)).trans hC.2.2.1, (wfr2 12 (by omega)).trans hC.2.2.2.1, (wfr2 13 (by omega)).trans hC.2.2.2.2⟩
      have hR2 : Rw m2 B D := Rw_fr hRw (by rw [a2.1]; exact Nat.le_refl _) (fun c c1 c2 => wfr2 c (by omega))
      refine ⟨⟨⟨?_, hC2, hR2⟩, ⟨?_, ?_⟩, fun τ hτ => ?_, hnd, hcu, hbl, by rw [a2.1]; exact h78'⟩, Bn m2 B Wn T D n3' hC2 hR2 n4 n5⟩
      · obtain ⟨p1, p2, bf, p3, p4⟩ := hp
        exact ⟨(wfr2 66 (by omega)).trans p1, p2, bf, (wfr2 68 (by omega)).trans p3, p4⟩
      · obtain ⟨md, Ef, q1, q2, q3, q4⟩ := hal
        exact ⟨md, Ef, (wfr2 67 (by omega)).trans q1, (wfr2 e (by omega)).trans q2, q3, q4⟩
      · exact ⟨hale.1, by rw [a2.1]; exact hale.2⟩
      · obtain ⟨⟨st, s1⟩, s2, s3, s4, s5, s6⟩ := htb τ hτ
        refine ⟨⟨st, TbX_fr s1 (wfr2 _ (by omega)) (wfr2 _ (by omega))⟩, s2, s3, by rw [a2.1]; exact s4, s5, by rw [a2.1]; exact s6⟩
    obtain ⟨hws2, hBs2⟩ := hws2
    have Wst_hf : ∀ m3, Hf m2 m3 → Wst m3 G old e cap fs cur bs B Wn T U D := fun m3 hf => by
      obtain ⟨⟨hp, hC, hRw⟩, ⟨hal, hale⟩, htb, hnd, hcu, hbl, h78'⟩ := hws2
      have e78 : e = 2 ∨ 78 ≤ e := by
        by_cases c : cap = 0
        · exact Or.inl (hale.1 c)
        · exact Or.inr (hale.2 c).1
      have fr : ∀ c, c ≠ 23 ∧ c ≠ 25 ∧ c ≠ 16 ∧ c ≠ 34 ∧ c ≠ 38 ∧ c ≠ 42 ∧ c ≠ 46 → m3.2.2 c = m2.2.2 c := fun c q => hf.2.2 c q.1 q.2.1 q.2.2.1 q.2.2.2.1 q.2.2.2.2.1 q.2.2.2.2.2.1 q.2.2.2.2.2.2
      refine ⟨⟨?_, ⟨(fr 9 (by omega)).trans hC.1, (fr 10 (by omega)).trans hC.2.1, (fr 11 (by omega)).trans hC.2.2.1, (fr 12 (by omega)).trans hC.2.2.2.1, (fr 13 (by omega)).trans hC.2.2.2.2⟩, Rw_fr hRw (by rw [hf.1]; exact Nat.le_refl _) (fun c c1 c2 => fr c (by omega))⟩, ⟨?_, ?_⟩, fun τ hτ => ?_, hnd, hcu, hbl, by rw [hf.1]; exact h78'⟩
      · obtain ⟨p1, p2, bf, p3, p4⟩ := hp
        exact ⟨(fr 66 (by omega)).trans p1, p2, bf, (fr 68 (by omega)).trans p3, p4⟩
      · obtain ⟨md, Ef, q1, q2, q3, q4⟩ := hal
        exact ⟨md, Ef, (fr 67 (by omega)).trans q1, (fr e (by omega)).trans q2, q3, q4⟩
      · exact ⟨hale.1, by rw [hf.1]; exact hale.2⟩
      · obtain ⟨⟨st, s1⟩, s2, s3, s4, s5, s6⟩ := htb τ hτ
        refine ⟨⟨st, TbX_fr s1 (fr _ (by omega)) (fr _ (by omega))⟩, s2, s3, by rw [hf.1]; exact s4, s5, by rw [hf.1]; exact s6⟩
    -- whether it is the last of its key, and until when
    have stA : ∃ m3 u isl, Hf m2 m3 ∧ Vs m3 ∧ u < 2 ^ 31 ∧ (isl = 0 ∨ isl = 1) ∧ nxS (gK G) (mem5 (rms mm LV)) x u ∧ (isl = 1 → ∀ y r, rest = y :: r → gK G y ≠ gK G x) ∧ (isl = 0 → ∃ y r, rest = y :: r ∧ gK G y = gK G x) ∧
        ∀ mo, j_ev (d + 10) (j_ex tb (d + 9)) (j_tab q_LT_writeNeeded) [] (.inl none) (mo) 92 [some (.ref 4), some (.int (nI l)), some (.int (nI ib)), some (.int (nI wt)), some (.int (nI i)), some (.ref 52), some (.int (nI isl)), some (.int (nI u))] [] m3 → j_ev (d + 10) (j_ex tb (d + 9)) (j_tab q_LT_writeNeeded) [] (.inl none) (mo) 21 [some (.ref 4), some (.int (nI l)), some (.int (nI ib)), some (.int (nI wt)), some (.int (nI i)), x5, x6, x7] [] m1 := by
      by_cases cl : ∃ y r, rest = y :: r ∧ gK G y = gK G x
      · obtain ⟨y, r, e1, e2⟩ := cl
        have eu : unt (gK G) rest x = y := by
          rw [e1]
          show (if gK G y = gK G x then y else 1023) = y
          rw [if_pos e2]
        have hy : y < 1023 := hlt' y (by rw [e1]; simp)
        rw [eu] at kunt
        refine ⟨m2, y, 0, Hf_refl _, hVs2, by omega, Or.inl rfl, Cov_nx2 hcov hl (by rw [hml, e1]) hso hltm e2, fun q => by omega, fun _ => ⟨y, r, e1, e2⟩, fun mo kk => ?_⟩
        repeat (first | refine ev_go rfl (by rfl) ?_ | refine ev_gf rfl (by assumption) (by rfl) (by rfl) ?_)
        refine ev_icF rfl (by exact b_nle (a := 500) (b := i) (by omega) (by omega) (by omega)) ?_
        repeat (first | refine ev_go rfl (by rfl) ?_ | refine ev_gf rfl (by assumption) (by rfl) (by rfl) ?_)
        refine ev_cv (as := []) rfl rfl rfl (by assumption) (by rfl) (by rfl) (a1) ?_
        repeat (first | refine ev_go rfl (by rfl) ?_ | refine ev_gf rfl (by assumption) (by rfl) (by rfl) ?_)
        refine ev_cv (as := []) rfl rfl rfl (by assumption) (by rfl) (by rfl) (kver) ?_
        repeat (first | refine ev_go rfl (by rfl) ?_ | refine ev_gf rfl (by assumption) (by rfl) (by rfl) ?_)
        refine ev_cv (as := []) rfl rfl rfl (by assumption) (by rfl) (by rfl) (kunt) ?_
        repeat (first | refine ev_go rfl (by rfl) ?_ | refine ev_gf rfl (by assumption) (by rfl) (by rfl) ?_)
        refine ev_icT rfl (by exact b_ne (a := y) (b := 1023) (by omega) (by omega) (by omega)) ?_
        repeat (first | refine ev_go rfl (by rfl) ?_ | refine ev_gf rfl (by assumption) (by rfl) (by rfl) ?_)
        refine ev_cv (as := []) rfl rfl rfl (by assumption) (by rfl) (by rfl) (kunt) ?_
        repeat (first | exact kk | refine ev_go rfl (by rfl) ?_ | refine ev_gf rfl (by assumption) (by rfl) (by rfl) ?_)
      · have eu : unt (gK G) rest x = 1023 := by
          cases rest with
          | nil => rfl
          | cons y r =>
            show (if gK G y = gK G x then y else 1023) = 1023
            rw [if_neg (fun q => cl ⟨y, r, rfl, q⟩)]
        rw [eu] at kunt
        have hlast : ∀ y ∈ ml, gK G y = gK G x → ¬ x < y := fun y hy hk hxy => by
          rw [hml] at hy
          rcases List.mem_append.mp hy with q | q
          · have := (sm1 y q).2 hk
            omega
          · rcases List.mem_cons.mp q with q | q
            · omega
            · cases hr : rest with
              | nil => rw [hr] at q; cases q
              | cons z r =>
                have g1 := sm2 z (by rw [hr]; exact List.mem_cons_self)
                have s3 := So_mid (pre := pre ++ [x]) (x := z) (rest := r) (by rw [hr] at hso'; simpa using hso') (by rw [hr] at hlt'; simpa using hlt')
                rw [hr] at q
                rcases List.mem_cons.mp q with q | q
                · subst q
                  exact cl ⟨y, r, hr, hk⟩
                · have g2 := (s3.2 y q).1
                  exact cl ⟨z, r, hr, by omega⟩
        obtain ⟨m3, u, b1, b2, b3, b4, b5⟩ := gh_next d (sh := sh) (lv := lv) (v := 52) (l0 := l) hG hg l4' (Rn m2 n3') (Bs_Sr hG hg hBs2) hVs2 (Or.inr rfl) hve2 (by omega) (by omega)
        rw [hk2, hm2] at b5
        refine ⟨m3, u, 1, b2, b3, by omega, Or.inr rfl, Cov_nx1 hg.2.2 hcov hl hxm hlast b5, fun _ y r e1 e2 => cl ⟨y, r, e1, e2⟩, fun q => by omega, fun mo kk => ?_⟩
        repeat (first | refine ev_go rfl (by rfl) ?_ | refine ev_gf rfl (by assumption) (by rfl) (by rfl) ?_)
        refine ev_icF rfl (by exact b_nle (a := 500) (b := i) (by omega) (by omega) (by omega)) ?_
        repeat (first | refine ev_go rfl (by rfl) ?_ | refine ev_gf rfl (by assumption) (by rfl) (by rfl) ?_)
        refine ev_cv (as := []) rfl rfl rfl (by assumption) (by rfl) (by rfl) (a1) ?_
        repeat (first | refine ev_go rfl (by rfl) ?_ | refine ev_gf rfl (by assumption) (by rfl) (by rfl) ?_)
        refine ev_cv (as := []) rfl rfl rfl (by assumption) (by rfl) (by rfl) (kver) ?_
        repeat (first | refine ev_go rfl (by rfl) ?_ | refine ev_gf rfl (by assumption) (by rfl) (by rfl) ?_)
        refine ev_cv (as := []) rfl rfl rfl (by assumption) (by rfl) (by rfl) (kunt) ?_
        repeat (first | refine ev_go rfl (by rfl) ?_ | refine ev_gf rfl (by assumption) (by rfl) (by rfl) ?_)
        refine ev_cv (as := [.ref 52, .int (nI l)]) rfl rfl rfl (by assumption) (by rfl) (by rfl) (b1) ?_
        repeat (first | exact kk | refine ev_go rfl (by rfl) ?_ | refine ev_gf rfl (by assumption) (by rfl) (by rfl) ?_)
    obtain ⟨m3, u, isl, hf3, hVs3, hu31, hisl, hnx, his1, his0, preA⟩ := stA
    have hve3 : Ve m3 52 53 fv2 := ⟨(hf3.2.2 52 (by omega) (by omega) (by omega) (by omega) (by omega) (by omega) (by omega)).trans hve2.1, (hf3.2.2 53 (by omega) (by omega) (by omega) (by omega) (by omega) (by omega) (by omega)).trans hve2.2⟩
    have n3'' := Nf_hf n3' hf3
    have l43 := LTn m3 n3''
    have hws3 := Wst_hf m3 hf3
    have hBs3 := Bn m3 B Wn T D n3'' hws3.1.2.1 hws3.1.2.2 n4 n5
    have kth3 := x_Ve_isThere (d + 8) hve3
    have kmo3 := x_Ve_moment (d + 8) hve3
    rw [ht2] at kth3
    rw [hm2] at kmo3
    have v52 := hve3.1
    have hth := gT_01 G x
    have hib := hkin.2.1
    -- what stood there
    have stB : ∃ m4 wt', Hf m3 m4 ∧ Vs m4 ∧ wt' ≤ 1 ∧ (ib = 1 ∨ gT G x = 1 → wt' = wt) ∧ (ib = 0 → gT G x = 0 → dvf (gK G) (gT G) (dpr (rms mm LV) l) x wt') ∧
        ∀ mo, j_ev (d + 10) (j_ex tb (d + 9)) (j_tab q_LT_writeNeeded) [] (.inl none) (mo) 119 [some (.ref 4), some (.int (nI l)), some (.int (nI ib)), some (.int (nI wt')), some (.int (nI i)), some (.ref 52), some (.int (nI isl)), some (.int (nI u))] [] m4 → j_ev (d + 10) (j_ex tb (d + 9)) (j_tab q_LT_writeNeeded) [] (.inl none) (mo) 92 [some (.ref 4), some (.int (nI l)), some (.int (nI ib)), some (.int (nI wt)), some (.int (nI i)), some (.ref 52), some (.int (nI isl)), some (.int (nI u))] [] m3 := by
      rcases hib with i0 | i1
      · rcases hth with t0 | t1
        · obtain ⟨m4, b, b1, b2, b3, b4⟩ := gh_has d (sh := sh) (lv := lv) (v := 52) (m := x) (r0 := l + 2) hG hg l43 (Rn m3 n3'') (Bs_Sr hG hg hBs3) hVs3 (Or.inr rfl) hve3 (by omega) (by omega)
          rw [hk2] at b4
          have hb1 : b ≤ 1 := by
            rcases b4 with q | ⟨r, t, ff, q1, q2, q3, q4, q5, q6, q7, q8, q9, q10⟩
            · omega
            · have := gT_01 G t
              omega
          refine ⟨m4, b, b2, b3, hb1, fun q => by omega, fun _ _ => Cov_dv hg.2.2 hcov hxm ?_, fun mo kk => ?_⟩
          · rcases b4 with q | ⟨r, t, ff, q1, q2, q3, q4, q5, q6, q7, q8, q9, q10⟩
            · exact Or.inl q
            · exact Or.inr ⟨r, t, q1, q2, q3, q4, q6, q7, q8⟩
          · subst i0
            rw [t0] at kth3
            rw [← nI_add l 2] at b1
            repeat (first | refine ev_go rfl (by rfl) ?_ | refine ev_gf rfl (by assumption) (by rfl) (by rfl) ?_)
            refine ev_cv (as := []) rfl rfl rfl (by assumption) (by rfl) (by rfl) (kth3) ?_
            repeat (first | refine ev_go rfl (by rfl) ?_ | refine ev_gf rfl (by assumption) (by rfl) (by rfl) ?_)
            refine ev_cv (as := []) rfl rfl rfl (by assumption) (by rfl) (by rfl) (kmo3) ?_
            repeat (first | refine ev_go rfl (by rfl) ?_ | refine ev_gf rfl (by assumption) (by rfl) (by rfl) ?_)
            refine ev_cv (as := [.ref 52, .int (nI x), .int (nI l + nI 2)]) rfl rfl rfl (by assumption) (by rfl) (by rfl) (b1) ?_
            repeat (first | exact kk | refine ev_go rfl (by rfl) ?_ | refine ev_gf rfl (by assumption) (by rfl) (by rfl) ?_)
        · refine ⟨m3, wt, Hf_refl _, hVs3, hwt, fun _ => rfl, fun _ q => by omega, fun mo kk => ?_⟩
          subst i0
          rw [t1] at kth3
          repeat (first | refine ev_go rfl (by rfl) ?_ | refine ev_gf rfl (by assumption) (by rfl) (by rfl) ?_)
          refine ev_cv (as := []) rfl rfl rfl (by assumption) (by rfl) (by rfl) (kth3) ?_
          repeat (first | exact kk | refine ev_go rfl (by rfl) ?_ | refine ev_gf rfl (by assumption) (by rfl) (by rfl) ?_)
      · refine ⟨m3, wt, Hf_refl _, hVs3, hwt, fun _ => rfl, fun q => by omega, fun mo kk => ?_⟩
        subst i1
        repeat (first | exact kk | refine ev_go rfl (by rfl) ?_ | refine ev_gf rfl (by assumption) (by rfl) (by rfl) ?_)
    obtain ⟨m4, wt', hf4, hVs4, hwt1, hw1, hw0, preB⟩ := stB
    have hf24 := Hf_trans hf3 hf4
    have hve4 : Ve m4 52 53 fv2 := ⟨(hf24.2.2 52 (by omega) (by omega) (by omega) (by omega) (by omega) (by omega) (by omega)).trans hve2.1, (hf24.2.2 53 (by omega) (by omega) (by omega) (by omega) (by omega) (by omega) (by omega)).trans hve2.2⟩
    have n34 := Nf_hf n3' hf24
    have l44 := LTn m4 n34
    have hV4 := Vn m4 n34
    have hws4 := Wst_hf m4 hf24
    have kth4 := x_Ve_isThere (d + 8) hve4
    have kmo4 := x_Ve_moment (d + 8) hve4
    rw [ht2] at kth4
    rw [hm2] at kmo4
    have v524 := hve4.1
    obtain ⟨nb, nb1, nb2⟩ := x_Vi_need (d + 8) (a := x) (u := u) hV4 (by omega) (fun i m q => by have := hs i m q; omega) (by omega) hu31
    have v7 := hV4.1
    have hwl4 : Wl m4 G (rms mm LV) sp (nI (unt (gK G) rest x)) fv2 rest := Wl_fr a4 (fun c c1 c2 => hf24.2.2 c (by omega) (by omega) (by omega) (by omega) (by omega) (by omega) (by omega)) (hf24.2.2 19 (by omega) (by omega) (by omega) (by omega) (by omega) (by omega) (by omega))
    have hm41 : m4.1 = m1.1 ∧ m4.2.1 = m1.2.1 := ⟨hf24.1.trans a2.1, hf24.2.1.trans a2.2.1⟩
    by_cases keep : nb = true ∧ (gT G x = 1 ∨ wt' = 1)
    · -- kept
      have hlenk : kp.length < ml.length := by
        have hnd : (kp ++ [x]).Nodup := List.nodup_append.mpr ⟨So_nd hsk, List.pairwise_singleton _ _, fun y hy z hz q => by
          have : z = x := by simpa using hz
          have h1 := hkin.1.1 y hy
          have := (sm1 y h1).2 (by rw [q, this])
          omega⟩
        have := pg (kp ++ [x]) ml hnd (fun y hy => by
          rcases List.mem_append.mp hy with q | q
          · rw [hml]; exact List.mem_append_left _ (hkin.1.1 y q)
          · have : y = x := by simpa using q
            rw [this]; exact hxm)
        rw [List.length_append, List.length_singleton] at this
        omega
      have hkl := congrArg List.length hcut.1
      rw [List.length_append] at hkl
      have hub := ubs_len fs (fun τ hτ => (hws4.2.2.1 τ hτ).2.1)
      have hbl := hws4.1.1.2.1
      have hfl : fs.length ≤ 400 := by
        have e3 : (lms fs).length ≤ (lms fs).flatten.length := by
          have : ∀ (q : List (List Nat)), (∀ z ∈ q, 32 ≤ z.length) → q.length ≤ q.flatten.length := by
            intro q
            induction q with
            | nil => intro _; exact Nat.le_refl _
            | cons z q ih =>
              intro hz
              have := ih (fun w hw => hz w (List.mem_cons_of_mem _ hw))
              have := hz z List.mem_cons_self
              rw [List.flatten_cons, List.length_append, List.length_cons]
              omega
          exact this _ hcut.2.2.2
        rw [lms_len] at e3
        omega
      have hA1 : cur.length ≤ 400 := by omega
      have hA2 : (old ++ ubs fs ++ bs).length < 1000 := by
        rw [List.length_append, List.length_append]
        omega
      have hA3 : cap ≤ 1000 := by
        rcases n9 with q | q
        · omega
        · omega
      have hA4 : cap < 2 ^ 20 := Nat.lt_of_le_of_lt hA3 (by decide)
      have hA5 : 1 - ib = 0 ∨ 1 - ib = 1 := by
        rcases hib with q | q
        · exact Or.inr (by rw [q])
        · exact Or.inl (by rw [q])
      obtain ⟨m5, e', cap', fs', cur', bs', B', Wn', T', D', r1, r2, r3, r4, r5, r6, r7, r8, r9, r10, r11, r12⟩ := w_add (d + 1) (x := x) (nk := 1 - ib) hws4 hA1 hA2 hA4 hve4 a3 hA5
      have h784 : 78 ≤ m4.1 := hws4.2.2.2.2.2.2
      have e78 : e = 2 ∨ 78 ≤ e := by
        by_cases c : cap = 0
        · exact Or.inl (hws4.2.1.2.1 c)
        · exact Or.inr (hws4.2.1.2.2 c).1
      have fr5 : ∀ c, c < 66 → c ≠ 10 → c ≠ 11 → c ≠ 12 → m5.2.2 c = m4.2.2 c := fun c c1 c2 c3 c4 => r4.2 c (by omega) c2 c3 c4 (by omega) (by omega) (by omega) (by omega) (fun b _ q => by
        have := (hws4.1.2.2.1 b c q).1
        omega)
      have hve5 : Ve m5 52 53 fv2 := ⟨(fr5 52 (by omega) (by omega) (by omega) (by omega)).trans hve4.1, (fr5 53 (by omega) (by omega) (by omega) (by omega)).trans hve4.2⟩
      have kth5 := x_Ve_isThere (d + 8) hve5
      rw [ht2] at kth5
      have v525 := hve5.1
      have hcut' : Cut (gK G) (lms fs') cur' (kp ++ [x]) := by
        rcases r3 with ⟨q1, q2, q3, q4⟩ | ⟨q1, q2⟩
        · rw [q3, q4]
          refine Cut_new hcut q2 (fun z hz => ?_)
          have h1 := (hkin.2.2 x rest rfl).2 (by omega) z hz
          have h2 := (sm1 z (hkin.1.1 z hz)).1
          omega
        · rw [q1, q2]
          exact Cut_same hcut (fun z hz => (sm1 z (hkin.1.1 z hz)).1)
      have hsk' : So (gK G) (kp ++ [x]) := by
        refine List.pairwise_append.mpr ⟨hsk, List.pairwise_singleton _ _, fun y hy z hz => ?_⟩
        have : z = x := by simpa using hz
        subst this
        have h1 := hkin.1.1 y hy
        have h2 := sm1 y h1
        have h3 := hlt' y (List.mem_append_left _ h1)
        exact (oN_lt (by omega) (by omega)).mpr (by omega)
      have hkin' : Kin (gK G) (gT G) (vis P s) (mem5 (rms mm LV)) (dpr (rms mm LV) l) (pre ++ [x]) (kp ++ [x]) rest (1 - isl) (gT G x) := by
        refine kstepY hkin hso' hlt' (by omega) (fun y r e1 => ⟨fun q => ?_, fun q => ?_⟩)
        · obtain ⟨y', r', e2, e3⟩ := his0 (by omega)
          rw [e1] at e2
          cases e2
          exact e3
        · rcases hisl with w | w
          · omega
          · exact absurd q (his1 w y r e1)
      have hfl' : fs.length ≤ fs'.length := by
        rcases r3 with ⟨q1, q2, q3, q4⟩ | ⟨q1, q2⟩
        · have := congrArg List.length q3
          rw [List.length_append, lms_len, lms_len] at this
          omega
        · have := congrArg List.length q1
          rw [lms_len, lms_len] at this
          omega
      have hn5 : Nst m0 m5 G old B0 D0 e0 cap0 e' cap' fs' cur' bs' B' Wn' T' U D' := by
        have hn341 := n34.1
        refine ⟨Vs_fr hVs4 (fun c c1 c2 => fr5 c c2 (by omega) (by omega) (by omega)), r2, Nf_wr n34 r4 n4 n6, Bx_trans n4 r5 n34.1, fun b hb => (r6 b hb).trans (n5 b hb), ?_, fun τ hτ => ?_, by omega, ?_, by omega, by omega⟩
        · rcases r7 with q | q
          · rw [q]; exact n6
          · exact Or.inr (by omega)
        · rcases r8 τ hτ with q | q
          · exact n7 τ q
          · omega
        · rcases r10 with q | q
          · rcases n9 with w | w
            · exact Or.inl (by omega)
            · exact Or.inr (by omega)
          · exact Or.inr (by omega)
      have hw2 : gT G x ≤ 1 := by
        rcases hth with q | q
        · rw [q]
          decide
        · rw [q]
          decide
      have hi2 : i + 1 + rest.length ≤ 500 := by omega
      obtain ⟨mo, kp', un', fv', e'', cap'', fs'', B'', Wn'', T'', D'', z1, z2⟩ := ih (pre ++ [x]) (kp ++ [x]) (1 - isl) (gT G x) (i + 1) m5 _ fv2 e' cap' fs' cur' bs' B' Wn' T' D' (some (.ref 52)) (some (.int (nI isl))) (some (.int (nI u))) (by rw [hml]; simp) hkin' hw2 hcut' hsk' hi2 (Wl_fr hwl4 (fun c c1 c2 => fr5 c c2 (by omega) (by omega) (by omega)) (fr5 19 (by omega) (by omega) (by omega) (by omega))) hn5
      refine ⟨mo, kp', un', fv', e'', cap'', fs'', B'', Wn'', T'', D'', ?_, z2⟩
      refine preA mo (preB mo ?_)
      rw [keep.1] at nb2
      have w66 := hws4.1.1.1
      have back : j_ev (d + 10) (j_ex tb (d + 9)) (j_tab q_LT_writeNeeded) [] (.inl none) (mo) 148 [some (.ref 4), some (.int (nI l)), some (.int (nI ib)), some (.int (nI wt')), some (.int (nI i)), some (.ref 52), some (.int (nI isl)), some (.int (nI u))] [] m4 := by
        rw [← nI_1 i] at z1
        rcases hib with i0 | i0
        · subst i0
          rcases hisl with w | w
          · subst w
            repeat (first | refine ev_go rfl (by rfl) ?_ | refine ev_gf rfl (by assumption) (by rfl) (by rfl) ?_)
            refine ev_cv (as := [.ref 52, .int (nI 1)]) rfl rfl rfl (by assumption) (by rfl) (by rfl) (r1) ?_
            repeat (first | refine ev_go rfl (by rfl) ?_ | refine ev_gf rfl (by assumption) (by rfl) (by rfl) ?_)
            refine ev_cv (as := []) rfl rfl rfl (by assumption) (by rfl) (by rfl) (kth5) ?_
            repeat (first | exact z1 | refine ev_go rfl (by rfl) ?_ | refine ev_gf rfl (by assumption) (by rfl) (by rfl) ?_)
          · subst w
            repeat (first | refine ev_go rfl (by rfl) ?_ | refine ev_gf rfl (by assumption) (by rfl) (by rfl) ?_)
            refine ev_cv (as := [.ref 52, .int (nI 1)]) rfl rfl rfl (by assumption) (by rfl) (by rfl) (r1) ?_
            repeat (first | refine ev_go rfl (by rfl) ?_ | refine ev_gf rfl (by assumption) (by rfl) (by rfl) ?_)
            refine ev_cv (as := []) rfl rfl rfl (by assumption) (by rfl) (by rfl) (kth5) ?_
            repeat (first | exact z1 | refine ev_go rfl (by rfl) ?_ | refine ev_gf rfl (by assumption) (by rfl) (by rfl) ?_)
        · subst i0
          rcases hisl with w | w
          · subst w
            repeat (first | refine ev_go rfl (by rfl) ?_ | refine ev_gf rfl (by assumption) (by rfl) (by rfl) ?_)
            refine ev_cv (as := [.ref 52, .int (nI 0)]) rfl rfl rfl (by assumption) (by rfl) (by rfl) (r1) ?_
            repeat (first | refine ev_go rfl (by rfl) ?_ | refine ev_gf rfl (by assumption) (by rfl) (by rfl) ?_)
            refine ev_cv (as := []) rfl rfl rfl (by assumption) (by rfl) (by rfl) (kth5) ?_
            repeat (first | exact z1 | refine ev_go rfl (by rfl) ?_ | refine ev_gf rfl (by assumption) (by rfl) (by rfl) ?_)
          · subst w
            repeat (first | refine ev_go rfl (by rfl) ?_ | refine ev_gf rfl (by assumption) (by rfl) (by rfl) ?_)
            refine ev_cv (as := [.ref 52, .int (nI 0)]) rfl rfl rfl (by assumption) (by rfl) (by rfl) (r1) ?_
            repeat (first | refine ev_go rfl (by rfl) ?_ | refine ev_gf rfl (by assumption) (by rfl) (by rfl) ?_)
            refine ev_cv (as := []) rfl rfl rfl (by assumption) (by rfl) (by rfl) (kth5) ?_
            repeat (first | exact z1 | refine ev_go rfl (by rfl) ?_ | refine ev_gf rfl (by assumption) (by rfl) (by rfl) ?_)
      rcases hth with t0 | t1
      · have w1 : wt' = 1 := by
          rcases keep.2 with q | q
          · omega
          · exact q
        subst w1
        rw [t0] at kth4
        repeat (first | refine ev_go rfl (by rfl) ?_ | refine ev_gf rfl (by assumption) (by rfl) (by rfl) ?_)
        refine ev_cv (as := []) rfl rfl rfl (by assumption) (by rfl) (by rfl) (kmo4) ?_
        repeat (first | refine ev_go rfl (by rfl) ?_ | refine ev_gf rfl (by assumption) (by rfl) (by rfl) ?_)
        refine ev_cv (as := [.int (nI x), .int (nI u)]) rfl rfl rfl (by assumption) (by rfl) (by rfl) (nb2) ?_
        repeat (first | refine ev_go rfl (by rfl) ?_ | refine ev_gf rfl (by assumption) (by rfl) (by rfl) ?_)
        refine ev_cv (as := []) rfl rfl rfl (by assumption) (by rfl) (by rfl) (kth4) ?_
        repeat (first | exact back | refine ev_go rfl (by rfl) ?_ | refine ev_gf rfl (by assumption) (by rfl) (by rfl) ?_)
      · rw [t1] at kth4
        repeat (first | refine ev_go rfl (by rfl) ?_ | refine ev_gf rfl (by assumption) (by rfl) (by rfl) ?_)
        refine ev_cv (as := []) rfl rfl rfl (by assumption) (by rfl) (by rfl) (kmo4) ?_
        repeat (first | refine ev_go rfl (by rfl) ?_ | refine ev_gf rfl (by assumption) (by rfl) (by rfl) ?_)
        refine ev_cv (as := [.int (nI x), .int (nI u)]) rfl rfl rfl (by assumption) (by rfl) (by rfl) (nb2) ?_
        repeat (first | refine ev_go rfl (by rfl) ?_ | refine ev_gf rfl (by assumption) (by rfl) (by rfl) ?_)
        refine ev_cv (as := []) rfl rfl rfl (by assumption) (by rfl) (by rfl) (kth4) ?_
        repeat (first | exact back | refine ev_go rfl (by rfl) ?_ | refine ev_gf rfl (by assumption) (by rfl) (by rfl) ?_)
    · -- left out
      have hkin' : Kin (gK G) (gT G) (vis P s) (mem5 (rms mm LV)) (dpr (rms mm LV) l) (pre ++ [x]) kp rest (if isl = 1 then 0 else ib) wt' := by
        refine kstepN hkin hso' hlt' (gT_01 G) hvs hnx (fun q => hw1 (Or.inl q)) hw0 (fun q => keep ⟨nb1.mpr q.1, q.2⟩) (fun q => ?_) (fun y r e1 e2 => ?_) (fun y r e1 e2 => ?_)
        · rcases hisl with w | w
          · obtain ⟨y, r, e1, e2⟩ := his0 w
            exact absurd e2 (q y r e1)
          · rw [if_pos w]
        · rcases hisl with w | w
          · rw [if_neg (by omega)]
          · exact absurd e2 (his1 w y r e1)
        · rcases hisl with w | w
          · obtain ⟨y', r', e3, e4⟩ := his0 w
            rw [e1] at e3
            cases e3
            exact absurd e4 e2
          · rw [if_pos w]
      have hn4 : Nst m0 m4 G old B0 D0 e0 cap0 e cap fs cur bs B Wn T U D := ⟨hVs4, hws4, n34, n4, n5, n6, n7, n8, n9, by omega, by omega⟩
      obtain ⟨mo, kp', un', fv', e'', cap'', fs'', B'', Wn'', T'', D'', z1, z2⟩ := ih (pre ++ [x]) kp (if isl = 1 then 0 else ib) wt' (i + 1) m4 _ fv2 e cap fs cur bs B Wn T D (some (.ref 52)) (some (.int (nI isl))) (some (.int (nI u))) (by rw [hml]; simp) hkin' hwt1 hcut hsk (by omega) hwl4 hn4
      refine ⟨mo, kp', un', fv', e'', cap'', fs'', B'', Wn'', T'', D'', ?_, z2⟩
      refine preA mo (preB mo ?_)
      have back : j_ev (d + 10) (j_ex tb (d + 9)) (j_tab q_LT_writeNeeded) [] (.inl none) (mo) 174 [some (.ref 4), some (.int (nI l)), some (.int (nI ib)), some (.int (nI wt')), some (.int (nI i)), some (.ref 52), some (.int (nI isl)), some (.int (nI u))] [] m4 := by
        rw [← nI_1 i] at z1
        rcases hib with i0 | i0
        · subst i0
          rcases hisl with w | w
          · subst w
            repeat (first | exact z1 | refine ev_go rfl (by rfl) ?_ | refine ev_gf rfl (by assumption) (by rfl) (by rfl) ?_)
          · subst w
            repeat (first | exact z1 | refine ev_go rfl (by rfl) ?_ | refine ev_gf rfl (by assumption) (by rfl) (by rfl) ?_)
        · subst i0
          rcases hisl with w | w
          · subst w
            repeat (first | exact z1 | refine ev_go rfl (by rfl) ?_ | refine ev_gf rfl (by assumption) (by rfl) (by rfl) ?_)
          · subst w
            repeat (first | exact z1 | refine ev_go rfl (by rfl) ?_ | refine ev_gf rfl (by assumption) (by rfl) (by rfl) ?_)
      cases hnb : nb with
      | false =>
        rw [hnb] at nb2
        repeat (first | refine ev_go rfl (by rfl) ?_ | refine ev_gf rfl (by assumption) (by rfl) (by rfl) ?_)
        refine ev_cv (as := []) rfl rfl rfl (by assumption) (by rfl) (by rfl) (kmo4) ?_
        repeat (first | refine ev_go rfl (by rfl) ?_ | refine ev_gf rfl (by assumption) (by rfl) (by rfl) ?_)
        refine ev_cv (as := [.int (nI x), .int (nI u)]) rfl rfl rfl (by assumption) (by rfl) (by rfl) (nb2) ?_
        repeat (first | exact back | refine ev_go rfl (by rfl) ?_ | refine ev_gf rfl (by assumption) (by rfl) (by rfl) ?_)
      | true =>
        rw [hnb] at nb2
        have t0 : gT G x = 0 := by
          rcases hth with q | q
          · exact q
          · exact absurd ⟨hnb, Or.inl q⟩ keep
        have w0 : wt' = 0 := by
          rcases Nat.lt_or_ge wt' 1 with q | q
          · omega
          · exact absurd ⟨hnb, Or.inr (by omega)⟩ keep
        subst w0
        rw [t0] at kth4
        repeat (first | refine ev_go rfl (by rfl) ?_ | refine ev_gf rfl (by assumption) (by rfl) (by rfl) ?_)
        refine ev_cv (as := []) rfl rfl rfl (by assumption) (by rfl) (by rfl) (kmo4) ?_
        repeat (first | refine ev_go rfl (by rfl) ?_ | refine ev_gf rfl (by assumption) (by rfl) (by rfl) ?_)
        refine ev_cv (as := [.int (nI x), .int (nI u)]) rfl rfl rfl (by assumption) (by rfl) (by rfl) (nb2) ?_
        repeat (first | refine ev_go rfl (by rfl) ?_ | refine ev_gf rfl (by assumption) (by rfl) (by rfl) ?_)
        refine ev_cv (as := []) rfl rfl rfl (by assumption) (by rfl) (by rfl) (kth4) ?_
        repeat (first | exact back | refine ev_go rfl (by rfl) ?_ | refine ev_gf rfl (by assumption) (by rfl) (by rfl) ?_)
end NEEDED
