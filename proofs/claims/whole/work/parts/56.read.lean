/-! THE RUNS TOGETHER (own text) -/
/-- what the runs hold: memory's count and rows, the levels' tables (by number), the chip's rows -/
def rcnt (n : Nat) (TS : Nat → List TR) (r : Nat) : Nat := if r = 0 then n else sta (TS (r - 1)) (TS (r - 1)).length
def rwd (R : Nat → Int64) (D : Nat → Nat → Int64) (TS : Nat → List TR) (r i : Nat) : Nat → Int64 := if r = 0 then row R i else lat D (TS (r - 1)) i
/-- the levels, in memory -/
def Lvs (mem : j_M) (E C : Nat → Nat) (TS : Nat → List TR) : Prop := ∀ k, k < 4 → Lw mem (32 + 4 * k) (E k) (C k) (TS k) ∧ Lr mem (E k) (C k) (TS k) ∧ C k < 2 ^ 20 ∧ sta (TS k) (TS k).length < 2 ^ 20
theorem Lw_fr {mem mem' : j_M} {L e cap : Nat} {ts : List TR} (h : Lw mem L e cap ts) (hr : Lr mem e cap ts) (h1 : mem'.2.2 L = mem.2.2 L) (h2 : mem'.2.2 (L + 3) = mem.2.2 (L + 3)) (h3 : mem'.2.2 2 = mem.2.2 2) (h4 : ∀ c, 78 ≤ c → c < mem.1 → mem'.2.2 c = mem.2.2 c) : Lw mem' L e cap ts := by
  obtain ⟨a1, _, ⟨md, E, b1, b2, b3, b4⟩, a4⟩ := h
  have he : mem'.2.2 e = mem.2.2 e := by
    by_cases c : cap = 0
    · rw [hr.1.1 c]; exact h3
    · exact h4 e (hr.1.2 c).1 (hr.1.2 c).2
  refine ⟨by rw [h1]; exact a1, trivial, ⟨md, E, by rw [h2]; exact b1, by rw [he]; exact b2, b3, b4⟩, fun j hj => ?_⟩
  have hm := hr.2 _ (trD_mem hj)
  exact TbX_fr (a4 j hj) (h4 _ hm.1 hm.2.1) (h4 _ hm.2.2.1 hm.2.2.2)
theorem Rd_of {mem : j_M} {n : Nat} {R : Nat → Int64} {E C : Nat → Nat} {TS : Nat → List TR} {B : Nat → Option Nat} {Wn T U : Nat → Int32} {D : Nat → Nat → Int64} (hM : Mw mem n R) (hn : n ≤ 500) (hL : Lvs mem E C TS) (hC : Cp mem B Wn T U) (hR : Rw mem B D) (hW : ∀ k, k < 4 → ∀ τ ∈ TS k, Wt B τ) : Rd mem (rcnt n TS) (rwd R D TS) := by
  refine ⟨fun r hr => ?_, fun d m' e1 e2 r i v w f hr hi hv hw => ?_⟩
  · unfold rcnt ra rc
    by_cases c : r = 0
    · simp only [if_pos c]
      exact ⟨by omega, _, hM.1⟩
    · simp only [if_neg c]
      obtain ⟨l1, l2, l3, l4⟩ := hL (r - 1) (by omega)
      have := l1.1
      rw [show 32 + 4 * (r - 1) = 28 + 4 * r by omega] at this
      exact ⟨l4, _, this⟩
  · have q : ∀ c, rcell c → m'.2.2 c = mem.2.2 c := e2
    have hC' : Cp m' B Wn T U := ⟨by rw [q _ (by unfold rcell; omega)]; exact hC.1, by rw [q _ (by unfold rcell; omega)]; exact hC.2.1, by rw [q _ (by unfold rcell; omega)]; exact hC.2.2.1, by rw [q _ (by unfold rcell; omega)]; exact hC.2.2.2.1, by rw [q _ (by unfold rcell; omega)]; exact hC.2.2.2.2⟩
    have hR' : Rw m' B D := Rw_fr hR (by omega) (fun c c1 _ => q c (by unfold rcell; omega))
    unfold rcnt at hi
    unfold rwd rL ra rc
    by_cases c : r = 0
    · simp only [if_pos c] at hi ⊢
      have hM' : Mw m' n R := ⟨by rw [q _ (by unfold rcell; omega)]; exact hM.1, trivial, by rw [q _ (by unfold rcell; omega)]; exact hM.2.2⟩
      exact x_Me_load (d + 3) hM' hn hi hv hw
    · simp only [if_neg c] at hi ⊢
      obtain ⟨l1, l2, l3, l4⟩ := hL (r - 1) (by omega)
      have hk : r - 1 = 0 ∨ r - 1 = 1 ∨ r - 1 = 2 ∨ r - 1 = 3 := by omega
      have l1' : Lw m' (32 + 4 * (r - 1)) (E (r - 1)) (C (r - 1)) (TS (r - 1)) := Lw_fr l1 l2 (q _ (by unfold rcell; omega)) (q _ (by unfold rcell; omega)) (q _ (by unfold rcell; omega)) (fun c c1 _ => q c (by unfold rcell; omega))
      have := x_Lv_load d l1' hC' hR' (hW (r - 1) (by omega)) l3 l4 hi hv hw
      rw [show 32 + 4 * (r - 1) = 28 + 4 * r by omega] at this
      exact this
