/-! THE WRITER WITH WHAT IT HAS WRITTEN (own text) -/
theorem upd_at (f : Nat → Int32) (k : Nat) (x : Int32) : upd f k x k = x := by
  unfold upd
  rw [if_pos rfl]
theorem upd_nat (f : Nat → Int32) {k j : Nat} (x : Int32) (h : j ≠ k) : upd f k x j = f j := by
  unfold upd
  rw [if_neg h]
/-- how many rows the chip has -/
def nB (B : Nat → Option Nat) : Nat := ((List.range 1000).filter (fun b => (B b).isSome)).length
theorem nB_le (B : Nat → Option Nat) : nB B ≤ 1000 := by
  unfold nB
  exact Nat.le_trans (List.length_filter_le _ _) (by rw [List.length_range]; exact Nat.le_refl _)
theorem nB_up {B : Nat → Option Nat} {b a : Nat} (hb : b < 1000) (h : B b = none) : nB (va_up B b (some a)) = nB B + 1 := by
  unfold nB
  have : ((List.range 1000).filter (fun x => (va_up B b (some a) x).isSome)).length = (b :: ((List.range 1000).filter (fun x => (B x).isSome))).length := by
    refine len_eq (List.nodup_range.filter _) (List.nodup_cons.mpr ⟨fun q => ?_, List.nodup_range.filter _⟩) (fun x => ?_)
    · have := (List.mem_filter.mp q).2
      rw [h] at this
      cases this
    · rw [List.mem_cons, List.mem_filter, List.mem_filter]
      by_cases c : x = b
      · subst c
        rw [va_up_self]
        exact ⟨fun _ => Or.inl rfl, fun _ => ⟨List.mem_range.mpr hb, rfl⟩⟩
      · rw [va_up_ne _ _ c]
        exact ⟨fun q => Or.inr q, fun q => q.resolve_left c⟩
  rw [this, List.length_cons]
theorem lst {T : Nat → Int32} : ∀ (n : Nat), (∃ b, b < n ∧ T b = 0) → ∃ b, b < n ∧ T b = 0 ∧ ∀ i, i < b → ¬ T i = 0
  | 0, ⟨b, h, _⟩ => by omega
  | n + 1, ⟨b, h, h0⟩ => by
    by_cases c : ∃ b, b < n ∧ T b = 0
    · obtain ⟨b', q1, q2, q3⟩ := lst n c
      exact ⟨b', by omega, q2, q3⟩
    · refine ⟨b, h, h0, fun i hi q => c ⟨i, ?_, q⟩⟩
      omega
/-- what a step of the writer leaves: cells that are neither its own nor the chip's lists nor rows of blocks that are not old -/
def Wfr (m m' : j_M) (old : List Nat) (B : Nat → Option Nat) (e : Nat) : Prop := m.1 ≤ m'.1 ∧ ∀ c, c < m.1 → c ≠ 10 → c ≠ 11 → c ≠ 12 → c ≠ 66 → c ≠ 67 → c ≠ 68 → (c ≠ e ∨ c = 2) → (∀ b, b ∉ old → B b ≠ some c) → m'.2.2 c = m.2.2 c
def Bx (m : j_M) (B B' : Nat → Option Nat) : Prop := (∀ b a, B b = some a → B' b = some a) ∧ ∀ b a, B' b = some a → B b = some a ∨ m.1 ≤ a
theorem Bx_refl (m : j_M) (B : Nat → Option Nat) : Bx m B B := ⟨fun _ _ h => h, fun _ _ h => Or.inl h⟩
theorem Bx_trans {m m' : j_M} {B B' B'' : Nat → Option Nat} (h : Bx m B B') (h' : Bx m' B' B'') (hm : m.1 ≤ m'.1) : Bx m B B'' := ⟨fun b a q => h'.1 b a (h.1 b a q), fun b a q => by
  rcases h'.2 b a q with w | w
  · exact h.2 b a w
  · exact Or.inr (by omega)⟩
theorem Wfr_trans {m m' m'' : j_M} {old : List Nat} {B B' : Nat → Option Nat} {e e' : Nat} (h : Wfr m m' old B e) (h' : Wfr m' m'' old B' e') (hB : Bx m B B') (he : e' = e ∨ m.1 ≤ e') : Wfr m m'' old B e := by
  refine ⟨Nat.le_trans h.1 h'.1, fun c c0 c1 c2 c3 c4 c5 c6 c7 c8 => ?_⟩
  have := h.1
  rw [h'.2 c (by omega) c1 c2 c3 c4 c5 c6 (by
    rcases he with he | he
    · rw [he]; exact c7
    · exact Or.inl (by omega)) (fun b hb q => by
    rcases hB.2 b c q with w | w
    · exact c8 b hb w
    · omega)]
  exact h.2 c c0 c1 c2 c3 c4 c5 c6 c7 c8
/-- the writer: tables fs written, cur of the table that is being written, in blocks bs; old blocks are others' -/
def Wst (mem : j_M) (G : Nat → Nat → Int64) (old : List Nat) (e cap : Nat) (fs : List TG) (cur bs : List Nat) (B : Nat → Option Nat) (Wn T U : Nat → Int32) (D : Nat → Nat → Int64) : Prop :=
  WS mem cur.length (tsm G cur) bs B Wn T U D ∧ (Al mem 67 e cap ((lfs fs).map (fun τ => τ.1)) ∧ Ale mem e cap) ∧
  (∀ τ ∈ fs, (∃ st, TbX mem τ.1 st) ∧ Tok B D G τ ∧ 78 ≤ τ.1.1 ∧ τ.1.1 < mem.1 ∧ 78 ≤ τ.1.2.1 ∧ τ.1.2.1 < mem.1) ∧
  ((lfs fs).map (fun τ => τ.1)).Nodup ∧
  ((∀ b ∈ bs, ∃ a, B b = some a) ∧ (∀ p, p < cur.length → sw (fun x => D (bs.getD (p / 8) 0) (p % 8 * 6 + x)) (G (cur.getD p 0))) ∧ (cur.length % 8 ≠ 0 → Wn (bs.getD (cur.length / 8) 0) = nI (cur.length % 8 * 6))) ∧
  ((old ++ ubs fs ++ bs).Nodup ∧ (∀ b ∈ old ++ ubs fs ++ bs, b < 1000 ∧ T b = 1) ∧ ∀ b, b < 1000 → b ∉ old ++ ubs fs ++ bs → T b = 0) ∧ 78 ≤ mem.1
theorem ubs_app (l l' : List TG) : ubs (l ++ l') = ubs l ++ ubs l' := List.flatMap_append
theorem lfs_app (l l' : List TG) : lfs (l ++ l') = lfs l ++ lfs l' := List.map_append
theorem lms_app (l l' : List TG) : lms (l ++ l') = lms l ++ lms l' := List.map_append
theorem mem_ubs {l : List TG} {τ : TG} {b : Nat} (h : τ ∈ l) (hb : b ∈ τ.1.2.2.1) : b ∈ ubs l := List.mem_flatMap.mpr ⟨τ, h, hb⟩
theorem nd_getD {l : List Nat} (h : l.Nodup) {i j : Nat} (hi : i < l.length) (hj : j < l.length) (e : l.getD i 0 = l.getD j 0) : i = j := by
  rw [getD_lt hi, getD_lt hj] at e
  rcases Nat.lt_trichotomy i j with c | c | c
  · exact absurd e (List.pairwise_iff_getElem.mp h i j hi hj c)
  · exact c
  · exact absurd e.symm (List.pairwise_iff_getElem.mp h j i hj hi c)
section WRITER
variable {mem : j_M} {G : Nat → Nat → Int64} {old cur bs : List Nat} {e cap : Nat} {fs : List TG} {B : Nat → Option Nat} {Wn T U : Nat → Int32} {D : Nat → Nat → Int64}
/-- the end of an addition -/
theorem w_tail (d : Nat) {g : Nat → Int64} {x : Nat} (h : Wst mem G old e cap fs cur bs B Wn T U D) (hk : cur.length ≤ 400) (hfree : (old ++ ubs fs ++ bs).length < 1000) (hv : Ve mem 52 53 g) (hg : sw g (G x)) :
    ∃ mem' bs' B' Wn' T' D', (∀ (z : Int32) x3 x4, j_ev (d + 8) (j_ex tb (d + 7)) (j_tab q_Wr_add) [] (.inl none) (mem') 17 [some (.ref 66), some (.ref 52), some (.int z), x3, x4] [] mem) ∧ Wst mem' G old e cap fs (cur ++ [x]) bs' B' Wn' T' U D' ∧ Wfr mem mem' old B e ∧ Bx mem B B' ∧ (∀ b ∈ old, D' b = D b) ∧ mem'.1 + nB B = mem.1 + nB B' ∧ mem'.2.1 + 48 * nB B = mem.2.1 + 48 * nB B' := by
  obtain ⟨hws, ⟨hal, hale⟩, htb, hnd, ⟨c1, c2, c3⟩, ⟨u1, u2, u3⟩, h78⟩ := h
  have hlen := hws.1.2.1
  obtain ⟨md, Ef, al1, al2, al3, al4⟩ := hal
  have hRw := hws.2.2
  have row : ∀ b a, B b = some a → 78 ≤ a ∧ a < mem.1 ∧ mem.2.2 a = some (.inl (1, 48, .inr (.inl (D b)))) := hRw.1
  have e2 : e = 2 ∨ (78 ≤ e ∧ e < mem.1) := by
    by_cases c : cap = 0
    · exact Or.inl (hale.1 c)
    · exact Or.inr (hale.2 c)
  have hsum : tsm G (cur ++ [x]) = vsum g (tsm G cur) := by rw [tsm_app, vsum_sw hg]
  have hclen : (cur ++ [x]).length = cur.length + 1 := by simp
  by_cases k8 : cur.length % 8 = 0
  · -- a new block
    have hex : ∃ b, b < 1000 ∧ T b = 0 := by
      by_cases q : ∃ b, b < 1000 ∧ b ∉ old ++ ubs fs ++ bs
      · obtain ⟨b, q1, q2⟩ := q
        exact ⟨b, q1, u3 b q1 q2⟩
      · exfalso
        have := pg (List.range 1000) (old ++ ubs fs ++ bs) List.nodup_range (fun b hb => by
          by_cases w : b ∈ old ++ ubs fs ++ bs
          · exact w
          · exact absurd ⟨b, List.mem_range.mp hb, w⟩ q)
        rw [List.length_range] at this
        omega
    obtain ⟨b, hb, hT, hlt⟩ := lst 1000 hex
    have hbn : b ∉ old ++ ubs fs ++ bs := fun q => by
      have := (u2 b q).2
      rw [hT] at this
      exact absurd this (by decide)
    obtain ⟨a, mem', D', t1, t2, t3, t4, t5, t6, t7⟩ := x_Wr_tailA d hws ⟨k8, hk⟩ h78 hb hT hlt hv (by omega)
    have hBx : Bx mem B (va_up B b (some a)) := by
      refine ⟨fun b' a' q => ?_, fun b' a' q => ?_⟩
      · by_cases c : b' = b
        · subst c
          rcases t7 with w | w
          · rw [va_up_self, ← w.1]; exact q
          · rw [w.1] at q; cases q
        · rw [va_up_ne _ _ c]; exact q
      · by_cases c : b' = b
        · subst c
          rw [va_up_self] at q
          cases q
          rcases t7 with w | w
          · exact Or.inl w.1
          · exact Or.inr (by omega)
        · rw [va_up_ne _ _ c] at q
          exact Or.inl q
    have hm1 : mem.1 ≤ mem'.1 := by rcases t7 with w | w <;> omega
    have ane : ∀ c, c < mem.1 → (∀ b, b ∉ old → B b ≠ some c) → c ≠ a := fun c hc hn ec => by
      subst ec
      rcases t7 with w | w
      · exact hn b (fun q => hbn (List.mem_append_left _ (List.mem_append_left _ q))) w.1
      · omega
    have akind : ∀ c v, mem.2.2 c = some v → c < mem.1 → (∀ z, v ≠ .inl (1, 48, z)) → c ≠ a := fun c v hc hcl hz ec => by
      subst ec
      rcases t7 with w | w
      · have := (row b c w.1).2.2
        rw [hc] at this
        cases this
        exact hz _ rfl
      · omega
    have hbsl : bs.length = cur.length / 8 := by omega
    have get1 : ∀ p, p < bs.length → (bs ++ [b]).getD p 0 = bs.getD p 0 := fun p hp => by
      rw [getD_app (by omega), if_pos hp]
    have get2 : (bs ++ [b]).getD bs.length 0 = b := by rw [getD_app (by omega), if_neg (by omega)]
    refine ⟨mem', bs ++ [b], va_up B b (some a), upd (upd Wn b 0) b (nI 6), upd T b 1, D', t1, ⟨?_, ⟨⟨md, Ef, ?_, ?_, al3, al4⟩, ?_⟩, fun τ hτ => ?_, hnd, ⟨fun b' hb' => ?_, fun p hp => ?_, fun _ => ?_⟩, ⟨?_, fun b' hb' => ?_, fun b' hb' hn => ?_⟩, by omega⟩, ⟨hm1, fun c q0 q1 q2 q3 q4 q5 q6 q7 q8 => t6 c q1 q2 q3 q4 q6 (ane c q0 q8)⟩, hBx, fun b' hb' => t3 b' (fun q => hbn (by rw [← q]; exact List.mem_append_left _ (List.mem_append_left _ hb'))), ?_⟩
    · rw [hclen, hsum]
      exact t2
    · rw [t6 67 (by omega) (by omega) (by omega) (by omega) (by omega) (by omega)]
      exact al1
    · rw [t6 e (by omega) (by omega) (by omega) (by omega) (by omega) (akind e _ al2 (by omega) (fun z q => by cases q))]
      exact al2
    · refine ⟨hale.1, fun q => ?_⟩
      have := hale.2 q
      omega
    · obtain ⟨⟨st, s1⟩, s2, s3, s4, s5, s6⟩ := htb τ hτ
      refine ⟨⟨st, TbX_fr s1 ?_ ?_⟩, Tok_fr s2 (fun b' hb' a' q => ⟨a', hBx.1 b' a' q⟩) (fun b' hb' => ?_), s3, by omega, s5, by omega⟩
      · exact t6 _ (by omega) (by omega) (by omega) (by omega) (by omega) (akind _ _ s1.1 s4 (fun z q => by cases q))
      · obtain ⟨f, f1, f2⟩ := s1.2
        exact t6 _ (by omega) (by omega) (by omega) (by omega) (by omega) (akind _ _ f1 s6 (fun z q => by cases q))
      · exact t3 b' (fun q => hbn (by rw [← q]; exact List.mem_append_left _ (List.mem_append_right _ (mem_ubs hτ hb'))))
    · rcases List.mem_append.mp hb' with q | q
      · obtain ⟨a', ha'⟩ := c1 b' q
        exact ⟨a', hBx.1 b' a' ha'⟩
      · have : b' = b := by simpa using q
        subst this
        exact ⟨a, va_up_self _ _ _⟩
    · rw [hclen] at hp
      by_cases c : p < cur.length
      · have hp8 : p / 8 < bs.length := by omega
        have hne : bs.getD (p / 8) 0 ≠ b := fun q => hbn (by rw [← q]; exact List.mem_append_right _ (getD_mem hp8))
        rw [get1 _ hp8, List.getD_eq_getElem?_getD (l := cur ++ [x]), List.getElem?_append_left c, ← List.getD_eq_getElem?_getD, t3 _ hne]
        exact c2 p c
      · have : p = cur.length := by omega
        subst this
        rw [List.getD_eq_getElem?_getD (l := cur ++ [x]), List.getElem?_append_right (Nat.le_refl _), Nat.sub_self, k8, ← hbsl, get2]
        intro j hj
        show D' b (0 * 6 + j) = _
        rw [show 0 * 6 + j = j by omega, t4 j hj]
        exact hg j hj
    · rw [hclen, show (cur.length + 1) / 8 = bs.length by omega, get2, upd_at]
      congr 1
      omega
    · rw [← List.append_assoc]
      refine List.nodup_append.mpr ⟨u1, List.pairwise_singleton _ _, fun y hy z hz => ?_⟩
      have : z = b := by simpa using hz
      subst this
      exact fun q => hbn (by rw [← q]; exact hy)
    · rw [← List.append_assoc] at hb'
      rcases List.mem_append.mp hb' with q | q
      · refine ⟨(u2 b' q).1, ?_⟩
        by_cases c : b' = b
        · rw [c, upd_at]
        · rw [upd_nat _ _ c]
          exact (u2 b' q).2
      · have : b' = b := by simpa using q
        subst this
        exact ⟨hb, upd_at _ _ _⟩
    · rw [← List.append_assoc] at hn
      have h1 : b' ≠ b := fun q => hn (List.mem_append_right _ (by simp [q]))
      rw [upd_nat _ _ h1]
      exact u3 b' hb' (fun q => hn (List.mem_append_left _ q))
    · rcases t7 with w | w
      · rw [va_up_same w.1]
        omega
      · rw [nB_up hb w.1]
        omega
  · -- the block that is there
    have hq8 : cur.length / 8 < bs.length := by omega
    have hqm : bs.getD (cur.length / 8) 0 ∈ bs := getD_mem hq8
    obtain ⟨a, ha⟩ := c1 _ hqm
    have hqno : bs.getD (cur.length / 8) 0 ∉ old ++ ubs fs := fun q => (List.nodup_append.mp u1).2.2 _ q _ hqm rfl
    obtain ⟨mem', t1, t2, t3, t4, t5⟩ := x_Wr_tailB d hws ⟨k8, hk⟩ (u2 _ (List.mem_append_right _ hqm)).1 ha (c3 k8) hv (by omega)
    have akind : ∀ c v, mem.2.2 c = some v → (∀ z, v ≠ .inl (1, 48, z)) → c ≠ a := fun c v hc hz ec => by
      subst ec
      have := (row _ c ha).2.2
      rw [hc] at this
      cases this
      exact hz _ rfl
    have hsame : ∀ b, b ≠ bs.getD (cur.length / 8) 0 → va_up D (bs.getD (cur.length / 8) 0) (va_cpy g (D (bs.getD (cur.length / 8) 0)) 0 (cur.length % 8 * 6) 6) b = D b := fun b hb => va_up_ne _ _ hb
    refine ⟨mem', bs, B, upd Wn (bs.getD (cur.length / 8) 0) (nI (cur.length % 8 * 6 + 6)), T, va_up D (bs.getD (cur.length / 8) 0) (va_cpy g (D (bs.getD (cur.length / 8) 0)) 0 (cur.length % 8 * 6) 6), t1, ⟨?_, ⟨⟨md, Ef, ?_, ?_, al3, al4⟩, ?_⟩, fun τ hτ => ?_, hnd, ⟨c1, fun p hp => ?_, fun k8' => ?_⟩, ⟨u1, u2, u3⟩, by omega⟩, ⟨by omega, fun c q0 q1 q2 q3 q4 q5 q6 q7 q8 => t3 c q2 q4 (fun ec => ?_)⟩, Bx_refl _ _, fun b' hb' => hsame b' (fun q => hqno (by rw [← q]; exact List.mem_append_left _ hb')), by omega, by omega⟩
    · rw [hclen, hsum]
      exact t2
    · rw [t3 67 (by omega) (by omega) (by have := (row _ _ ha).1; omega)]
      exact al1
    · rw [t3 e (by omega) (by omega) (akind e _ al2 (fun z q => by cases q))]
      exact al2
    · refine ⟨hale.1, fun q => ?_⟩
      have := hale.2 q
      omega
    · obtain ⟨⟨st, s1⟩, s2, s3, s4, s5, s6⟩ := htb τ hτ
      refine ⟨⟨st, TbX_fr s1 ?_ ?_⟩, Tok_fr s2 (fun b' hb' a' q => ⟨a', q⟩) (fun b' hb' => hsame b' (fun q => hqno (by rw [← q]; exact List.mem_append_right _ (mem_ubs hτ hb')))), s3, by omega, s5, by omega⟩
      · exact t3 _ (by omega) (by omega) (akind _ _ s1.1 (fun z q => by cases q))
      · obtain ⟨f, f1, f2⟩ := s1.2
        exact t3 _ (by omega) (by omega) (akind _ _ f1 (fun z q => by cases q))
    · rw [hclen] at hp
      by_cases c : p < cur.length
      · rw [List.getD_eq_getElem?_getD (l := cur ++ [x]), List.getElem?_append_left c, ← List.getD_eq_getElem?_getD]
        have hc2 := c2 p c
        by_cases cb : bs.getD (p / 8) 0 = bs.getD (cur.length / 8) 0
        · have e8 := nd_getD (List.nodup_append.mp u1).2.1 (by omega) hq8 cb
          intro j hj
          show va_up D (bs.getD (cur.length / 8) 0) _ (bs.getD (p / 8) 0) (p % 8 * 6 + j) = _
          rw [cb, va_up_self, pk_cpy_out (Or.inl (by omega)), ← cb]
          exact hc2 j hj
        · intro j hj
          show va_up D (bs.getD (cur.length / 8) 0) _ (bs.getD (p / 8) 0) (p % 8 * 6 + j) = _
          rw [hsame _ cb]
          exact hc2 j hj
      · have : p = cur.length := by omega
        subst this
        rw [List.getD_eq_getElem?_getD (l := cur ++ [x]), List.getElem?_append_right (Nat.le_refl _), Nat.sub_self]
        intro j hj
        show va_up D (bs.getD (cur.length / 8) 0) _ (bs.getD (cur.length / 8) 0) (cur.length % 8 * 6 + j) = _
        rw [va_up_self, pk_cpy_in (by omega) (by omega), show 0 + (cur.length % 8 * 6 + j - cur.length % 8 * 6) = j by omega]
        exact hg j hj
    · rw [hclen] at k8' ⊢
      rw [show (cur.length + 1) / 8 = cur.length / 8 by omega, upd_at]
      congr 1
      omega
    · subst ec
      exact q8 _ (fun q => hqno (List.mem_append_left _ q)) ha
/-- the table that is being written is done -/
theorem w_seal (d : Nat) (h : Wst mem G old e cap fs cur bs B Wn T U D) (hk : 1 ≤ cur.length ∧ cur.length ≤ 400) (hc : cap < 2 ^ 20) :
    ∃ e' cap' mem' τ, j_ex tb (d + 7) m_Wr_seal [.ref 66] mem (.inl none) mem' ∧ Wst mem' G old e' cap' (fs ++ [(τ, cur)]) [] [] B Wn T U D ∧ Wfr mem mem' old B e ∧ (e' = e ∨ mem.1 ≤ e') ∧ mem.1 ≤ τ.1 ∧ cap ≤ cap' ∧ (cap' = cap ∨ cap' ≤ 2 * fs.length + 10) ∧ mem'.1 + cap ≤ mem.1 + 2 + cap' ∧ mem'.2.1 + cap * cap ≤ mem.2.1 + 60 + cap' * cap' := by
  obtain ⟨hws, ⟨hal, hale⟩, htb, hnd, ⟨c1, c2, c3⟩, ⟨u1, u2, u3⟩, h78⟩ := h
  have hlen := hws.1.2.1
  have hT : Tbs mem ((lfs fs).map (fun τ => τ.1)) := fun y hy => by
    obtain ⟨τ', h1, rfl⟩ := List.mem_map.mp hy
    obtain ⟨τ, h2, rfl⟩ := List.mem_map.mp h1
    obtain ⟨⟨st, s1⟩, s2, s3, s4, s5, s6⟩ := htb τ h2
    exact ⟨by omega, s4, _, s1.1⟩
  obtain ⟨e', cap', mem', k1, k2, k3, k4, k5, ⟨g1, g2, g3, g4, g5⟩, k7, k8, k9⟩ := x_Wr_seal d hws.1 hk hal hale hT h78 hc
  obtain ⟨md, Ef, al1, al2, al3, al4⟩ := hal
  have e2 : e = 2 ∨ (78 ≤ e ∧ e < mem.1) := by
    by_cases c : cap = 0
    · exact Or.inl (hale.1 c)
    · exact Or.inr (hale.2 c)
  have enk : ∀ c v, mem.2.2 c = some v → (∀ z, v ≠ .inl (6, z)) → c ≠ e := fun c v hc hz ec => by
    subst ec
    rw [al2] at hc
    cases hc
    exact hz _ rfl
  have fr : ∀ c, c < mem.1 → c ≠ 66 → c ≠ 67 → (∃ v, mem.2.2 c = some v ∧ ∀ z, v ≠ .inl (6, z)) → mem'.2.2 c = mem.2.2 c := fun c h1 h2 h3 ⟨v, h4, h5⟩ => k9 c h1 h2 h3 (Or.inl (enk c v h4 h5))
  refine ⟨e', cap', mem', (mem.1, mem.1 + 1, bs, cur.length, tsm G cur), k1, ⟨⟨?_, ?_, ?_⟩, ⟨?_, k4⟩, fun τ hτ => ?_, ?_, ⟨fun b hb => (by cases hb), fun p hp => (by cases hp), fun q => absurd rfl q⟩, ⟨?_, fun b hb => ?_, fun b hb hn => ?_⟩, by omega⟩, ⟨by omega, fun c q0 q1 q2 q3 q4 q5 q6 q7 q8 => k9 c q0 q4 q5 q7⟩, ?_, Nat.le_refl _, g1, ?_, g4, ?_⟩
  · exact k2
  · have hC := hws.2.1
    exact ⟨(fr 9 (by omega) (by omega) (by omega) ⟨_, hC.1, fun z q => by cases q⟩).trans hC.1, (fr 10 (by omega) (by omega) (by omega) ⟨_, hC.2.1, fun z q => by cases q⟩).trans hC.2.1, (fr 11 (by omega) (by omega) (by omega) ⟨_, hC.2.2.1, fun z q => by cases q⟩).trans hC.2.2.1, (fr 12 (by omega) (by omega) (by omega) ⟨_, hC.2.2.2.1, fun z q => by cases q⟩).trans hC.2.2.2.1, (fr 13 (by omega) (by omega) (by omega) ⟨_, hC.2.2.2.2, fun z q => by cases q⟩).trans hC.2.2.2.2⟩
  · refine ⟨fun b a hB => ?_, hws.2.2.2⟩
    obtain ⟨r1, r2, r3⟩ := hws.2.2.1 b a hB
    exact ⟨r1, by omega, (fr a r2 (by omega) (by omega) ⟨_, r3, fun z q => by cases q⟩).trans r3⟩
  · rw [lfs_app]
    exact k3
  · rcases List.mem_append.mp hτ with hτ | hτ
    · obtain ⟨⟨st, s1⟩, s2, s3, s4, s5, s6⟩ := htb τ hτ
      refine ⟨⟨st, TbX_fr s1 ?_ ?_⟩, s2, s3, by omega, s5, by omega⟩
      · exact fr _ s4 (by omega) (by omega) ⟨_, s1.1, fun z q => by cases q⟩
      · obtain ⟨f, f1, f2⟩ := s1.2
        exact fr _ s6 (by omega) (by omega) ⟨_, f1, fun z q => by cases q⟩
    · have e : τ = ((mem.1, mem.1 + 1, bs, cur.length, tsm G cur), cur) := by simpa using hτ
      subst e
      refine ⟨⟨0, k5⟩, ⟨⟨hk.1, hlen, fun b hb => ⟨(u2 b (List.mem_append_right _ hb)).1, c1 b hb⟩⟩, rfl, rfl, fun p hp => c2 p hp⟩, h78, ?_, ?_, ?_⟩
      · show mem.1 < mem'.1
        omega
      · show 78 ≤ mem.1 + 1
        omega
      · show mem.1 + 1 < mem'.1
        omega
  · rw [lfs_app, List.map_append]
    refine List.nodup_append.mpr ⟨hnd, List.pairwise_singleton _ _, fun y hy z hz => ?_⟩
    have : z = mem.1 := by simpa [lfs] using hz
    subst this
    have := (hT y hy).2.1
    omega
  · rw [ubs_app, List.append_nil, ← List.append_assoc]
    have : ubs [((mem.1, mem.1 + 1, bs, cur.length, tsm G cur), cur)] = bs := by simp [ubs]
    rw [this]
    exact u1
  · rw [ubs_app, List.append_nil, ← List.append_assoc] at hb
    have : ubs [((mem.1, mem.1 + 1, bs, cur.length, tsm G cur), cur)] = bs := by simp [ubs]
    rw [this] at hb
    exact u2 b hb
  · rw [ubs_app, List.append_nil, ← List.append_assoc] at hn
    have : ubs [((mem.1, mem.1 + 1, bs, cur.length, tsm G cur), cur)] = bs := by simp [ubs]
    rw [this] at hn
    exact u3 b hb hn
  · rcases k8 with q | q
    · exact Or.inl q.1
    · exact Or.inr (by omega)
  · rw [lfs_len] at k7
    exact k7
  · omega
/-- a version is added -/
theorem w_add (d : Nat) {g : Nat → Int64} {x nk : Nat} (h : Wst mem G old e cap fs cur bs B Wn T U D) (hk : cur.length ≤ 400) (hfree : (old ++ ubs fs ++ bs).length < 1000) (hc : cap < 2 ^ 20) (hv : Ve mem 52 53 g) (hg : sw g (G x)) (hnk : nk = 0 ∨ nk = 1) :
    ∃ mem' e' cap' fs' cur' bs' B' Wn' T' D', j_ex tb (d + 8) m_Wr_add [.ref 66, .ref 52, .int (nI nk)] mem (.inl none) mem' ∧ Wst mem' G old e' cap' fs' cur' bs' B' Wn' T' U D' ∧
      ((nk = 1 ∧ 32 ≤ cur.length ∧ lms fs' = lms fs ++ [cur] ∧ cur' = [x]) ∨ (lms fs' = lms fs ∧ cur' = cur ++ [x])) ∧ Wfr mem mem' old B e ∧ Bx mem B B' ∧ (∀ b ∈ old, D' b = D b) ∧ (e' = e ∨ mem.1 ≤ e') ∧ (∀ τ ∈ fs', τ ∈ fs ∨ mem.1 ≤ τ.1.1) ∧
      cap ≤ cap' ∧ (cap' = cap ∨ cap' ≤ 2 * fs.length + 10) ∧ mem'.1 + nB B + cap + 2 * fs.length ≤ mem.1 + nB B' + cap' + 2 * fs'.length ∧ mem'.2.1 + 48 * nB B + cap * cap + 60 * fs.length ≤ mem.2.1 + 48 * nB B' + cap' * cap' + 60 * fs'.length := by
  have hwp := h.1.1
  have stay : (∀ mem', (∀ (z : Int32) x3 x4, j_ev (d + 8) (j_ex tb (d + 7)) (j_tab q_Wr_add) [] (.inl none) (mem') 17 [some (.ref 66), some (.ref 52), some (.int z), x3, x4] [] mem) → j_ex tb (d + 8) m_Wr_add [.ref 66, .ref 52, .int (nI nk)] mem (.inl none) mem') → ∃ mem' e' cap' fs' cur' bs' B' Wn' T' D', j_ex tb (d + 8) m_Wr_add [.ref 66, .ref 52, .int (nI nk)] mem (.inl none) mem' ∧ Wst mem' G old e' cap' fs' cur' bs' B' Wn' T' U D' ∧
      ((nk = 1 ∧ 32 ≤ cur.length ∧ lms fs' = lms fs ++ [cur] ∧ cur' = [x]) ∨ (lms fs' = lms fs ∧ cur' = cur ++ [x])) ∧ Wfr mem mem' old B e ∧ Bx mem B B' ∧ (∀ b ∈ old, D' b = D b) ∧ (e' = e ∨ mem.1 ≤ e') ∧ (∀ τ ∈ fs', τ ∈ fs ∨ mem.1 ≤ τ.1.1) ∧
      cap ≤ cap' ∧ (cap' = cap ∨ cap' ≤ 2 * fs.length + 10) ∧ mem'.1 + nB B + cap + 2 * fs.length ≤ mem.1 + nB B' + cap' + 2 * fs'.length ∧ mem'.2.1 + 48 * nB B + cap * cap + 60 * fs.length ≤ mem.2.1 + 48 * nB B' + cap' * cap' + 60 * fs'.length := by
    intro hrun
    obtain ⟨mem', bs', B', Wn', T', D', r1, r2, r3, r4, r5, r6, r7⟩ := w_tail d h hk hfree hv hg
    exact ⟨mem', e, cap, fs, cur ++ [x], bs', B', Wn', T', D', hrun mem' r1, r2, Or.inr ⟨rfl, rfl⟩, r3, r4, r5, Or.inl rfl, fun τ hτ => Or.inl hτ, Nat.le_refl _, Or.inl rfl, by omega, by omega⟩
  rcases hnk with e0 | e1
  · subst e0
    exact stay (fun mem' q => x_Wr_add0 d q)
  · subst e1
    rcases Nat.lt_or_ge cur.length 32 with c | c
    · exact stay (fun mem' q => x_Wr_add1 d hwp c q)
    · obtain ⟨e', cap', m1, τ, s1, s2, s3, s4, s5, s6, s7, s8, s9⟩ := w_seal d h ⟨by omega, hk⟩ hc
      have hub : ubs [((τ, cur) : TG)] = τ.2.2.1 := by simp [ubs]
      have hτl : τ.2.2.1.length ≤ bs.length := by
        have := (s2.2.2.1 (τ, cur) (by simp)).2.1
        have w2 := this.1.2.1
        have w3 : cur.length = τ.2.2.2.1 := this.2.1
        have w4 := hwp.2.1
        show τ.2.2.1.length ≤ bs.length
        have w2' : τ.2.2.1.length = (τ.2.2.2.1 + 7) / 8 := w2
        omega
      have hv1 : Ve m1 52 53 g := by
        have hr : ∀ c, c = 52 ∨ c = 53 → m1.2.2 c = mem.2.2 c := fun c q => by
          have h78 := h.2.2.2.2.2.2
          refine s3.2 c (by omega) (by omega) (by omega) (by omega) (by omega) (by omega) (by omega) ?_ (fun b _ q' => ?_)
          · refine Or.inl (fun q' => ?_)
            have hale := h.2.1.2
            by_cases cc : cap = 0
            · have := hale.1 cc
              omega
            · have := hale.2 cc
              omega
          · have := (h.1.2.2.1 b c q').1
            omega
        exact ⟨(hr 52 (by omega)).trans hv.1, (hr 53 (by omega)).trans hv.2⟩
      have hfree1 : (old ++ ubs (fs ++ [(τ, cur)]) ++ []).length < 1000 := by
        rw [ubs_app, hub]
        simp only [List.length_append, List.length_nil] at hfree ⊢
        omega
      obtain ⟨mem', bs', B', Wn', T', D', r1, r2, r3, r4, r5, r6, r7⟩ := w_tail d s2 (by simp) hfree1 hv1 hg
      have hm := s3.1
      refine ⟨mem', e', cap', fs ++ [(τ, cur)], [x], bs', B', Wn', T', D', x_Wr_add2 d hwp ⟨c, by omega⟩ s1 r1, r2, Or.inl ⟨rfl, c, by rw [lms_app]; rfl, rfl⟩, Wfr_trans s3 r3 (Bx_refl _ _) s4, ⟨r4.1, fun b a q => (r4.2 b a q).imp id (fun w => by omega)⟩, r5, s4, fun τ' hτ' => ?_, s6, s7, ?_, ?_⟩
      · rcases List.mem_append.mp hτ' with q | q
        · exact Or.inl q
        · have : τ' = (τ, cur) := by simpa using q
          subst this
          exact Or.inr s5
      · simp only [List.length_append, List.length_cons, List.length_nil]
        omega
      · simp only [List.length_append, List.length_cons, List.length_nil]
        omega
end WRITER
