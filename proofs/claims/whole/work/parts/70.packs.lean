/-! Part 70: packing: rows of hours, days, ages that go with a corner -/
def rngB (P : Nat → Bool) : Nat → Nat → Bool
  | 0, _ => true
  | n + 1, lo => P lo && rngB P n (lo + 1)
theorem rngB_all {P : Nat → Bool} : ∀ n lo, rngB P n lo = true ↔ ∀ i, lo ≤ i → i < lo + n → P i = true := by
  intro n
  induction n with
  | zero => intro lo; exact ⟨fun _ i h1 h2 => by omega, fun _ => rfl⟩
  | succ n ih =>
    intro lo
    unfold rngB
    rw [Bool.and_eq_true, ih]
    constructor
    · rintro ⟨h1, h2⟩ i h3 h4
      by_cases e : i = lo
      · rw [e]; exact h1
      · exact h2 i (by omega) (by omega)
    · intro h
      exact ⟨h lo (by omega) (by omega), fun i h1 h2 => h i (by omega) (by omega)⟩
def hrsB (G : Nat → Bool) (n h a e : Nat) : Bool := rngB (fun x => G (28 * a + 4 * e + x)) n h
def dysB (G : Nat → Bool) (m e n h a : Nat) : Bool := rngB (fun y => hrsB G n h a y) m e
def agsB (G : Nat → Bool) (k a m e n h : Nat) : Bool := rngB (fun z => dysB G m e n h z) k a
theorem cell_i {a e h : Nat} (ha : a ≤ 7) (he : e ≤ 6) (hh : h ≤ 4) : (28 : Int32) * nI a + 4 * nI e + nI h = nI (28 * a + 4 * e + h) := by
  rw [show (28 : Int32) = nI 28 from rfl, show (4 : Int32) = nI 4 from rfl, n_mul (by omega) (by omega) (by omega), n_mul (by omega) (by omega) (by omega), n_add (by omega), n_add (by omega)]
theorem c_hoursL {d a e : Nat} {w : Int32} {S : tb_St} {lh : Nat} (ha : a ≤ 7) (he : e ≤ 6) (hl : lh ≤ 3) : ∀ n h (w3 w7 : Value), h + n = lh + 1 → tb_E (d + 1) mX0_hoursAlike tb_dI 3 [.ref 28, .int (nI a), .int (nI e), w3, .int (nI lh), .int w, .int (nI h), w7] [] tb_S S = some (if hrsB (fun c => decide (S 29 c = w)) n h a e = true then 1 else 0, S) := by
  intro n
  induction n with
  | zero =>
    intro h w3 w7 hh
    refine BX0_hoursAlike_3 ?_
    rw [if_pos ((n_lt (by omega) (by omega)).mpr (by omega))]
    rfl
  | succ n ih =>
    intro h w3 w7 hh
    refine BX0_hoursAlike_3 ?_
    rw [if_neg (fun z => by have := (n_lt (by omega) (by omega)).mp z; omega)]
    have hc : tb_cI (d + 1) mX7_caseOf [.int (nI a), .int (nI e), .int (nI h)] S = some (nI (28 * a + 4 * e + h), S) := by
      refine MX7_caseOf ?_
      rw [cell_i ha he (by omega)]
    rw [hc]
    simp only [Option.bind_some]
    rw [s_isCase, b2_t (case_b (by omega))]
    simp only [Option.bind_some, one0, if_false, n_ix (show 28 * a + 4 * e + h < 224 by omega) (show 224 ≤ 2 ^ 31 by omega), n_inc]
    unfold hrsB rngB
    by_cases q : S 29 (28 * a + 4 * e + h) = w
    · rw [if_pos q, ih (h + 1) _ _ (by omega)]
      unfold hrsB
      simp [q]
    · rw [if_neg q]
      simp [q]
theorem c_hours {d a e n h lh : Nat} {w : Int32} {S : tb_St} (ha : a ≤ 7) (he : e ≤ 6) (hl : lh ≤ 3) (hn : h + n = lh + 1) : tb_cI (d + 2) mX0_hoursAlike [.ref 28, .int (nI a), .int (nI e), .int (nI h), .int (nI lh), .int w] S = some (if hrsB (fun c => decide (S 29 c = w)) n h a e = true then 1 else 0, S) := MX0_hoursAlike (c_hoursL ha he hl n h _ _ hn)
theorem c_daysL {d a n h lh le : Nat} {w : Int32} {S : tb_St} (ha : a ≤ 7) (he : le ≤ 6) (hl : lh ≤ 3) (hn : h + n = lh + 1) : ∀ m e (w2 : Value), e + m = le + 1 → tb_E (d + 2) mX0_daysAlike tb_dI 3 [.ref 28, .int (nI a), w2, .int (nI le), .int (nI h), .int (nI lh), .int w, .int (nI e)] [] tb_S S = some (if dysB (fun c => decide (S 29 c = w)) m e n h a = true then 1 else 0, S) := by
  intro m
  induction m with
  | zero =>
    intro e w2 hh
    refine BX0_daysAlike_3 ?_
    rw [if_pos ((n_lt (by omega) (by omega)).mpr (by omega))]
    rfl
  | succ m ih =>
    intro e w2 hh
    refine BX0_daysAlike_3 ?_
    rw [if_neg (fun z => by have := (n_lt (by omega) (by omega)).mp z; omega), c_hours ha (by omega) hl hn]
    simp only [Option.bind_some, n_inc]
    unfold dysB rngB
    by_cases q : hrsB (fun c => decide (S 29 c = w)) n h a e = true
    · rw [if_pos q, if_pos (by decide), ih (e + 1) _ (by omega)]
      unfold dysB
      simp [q]
    · rw [if_neg q, if_neg (by decide)]
      simp [q]
theorem c_days {d a n h lh m e le : Nat} {w : Int32} {S : tb_St} (ha : a ≤ 7) (he : le ≤ 6) (hl : lh ≤ 3) (hn : h + n = lh + 1) (hm : e + m = le + 1) : tb_cI (d + 3) mX0_daysAlike [.ref 28, .int (nI a), .int (nI e), .int (nI le), .int (nI h), .int (nI lh), .int w] S = some (if dysB (fun c => decide (S 29 c = w)) m e n h a = true then 1 else 0, S) := MX0_daysAlike (c_daysL ha he hl hn m e _ hm)
/-- the reference -/
def goR (S : tb_St) (c0 c : Nat) : Bool := decide (S 57 c = 0 ∧ S 55 c = S 55 c0 ∧ S 56 c = S 56 c0)
theorem r_goes {d c c0 : Nat} {S : tb_St} (hc : c < 224) (h0 : c0 < 224) : tb_cI (d + 1) mX8_goesWith [.ref 45, .int (nI c), .int (nI c0)] S = some (if goR S c0 c = true then 1 else 0, S) := by
  refine MX8_goesWith ?_
  simp only [n_ix hc (show 224 ≤ 2 ^ 31 by omega), n_ix h0 (show 224 ≤ 2 ^ 31 by omega), Option.bind_some]
  unfold goR
  by_cases a : S 57 c = 0
  · rw [if_neg (fun z => z a)]
    by_cases b : S 55 c = S 55 c0
    · rw [if_neg (fun z => z b)]
      by_cases e : S 56 c = S 56 c0
      · rw [if_neg (fun z => z e)]; simp [a, b, e]
      · rw [if_pos e]; simp [e]
    · rw [if_pos b]; simp [b]
  · rw [if_pos a]; simp [a]
