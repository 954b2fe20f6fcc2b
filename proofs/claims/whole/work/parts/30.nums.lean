/-! Part 30: small numbers as ints; states -/
theorem n_eq {a b : Nat} (ha : a < 2 ^ 31) (hb : b < 2 ^ 31) : nI a = nI b ↔ a = b := by
  constructor
  · intro h
    have h2 := congrArg Int32.toInt h
    rw [nI_toInt ha, nI_toInt hb] at h2
    omega
  · intro h; rw [h]
theorem n_lt {a b : Nat} (ha : a < 2 ^ 31) (hb : b < 2 ^ 31) : nI a < nI b ↔ a < b := by
  rw [Int32.lt_iff_toInt_lt, nI_toInt ha, nI_toInt hb]; omega
theorem n_le {a b : Nat} (ha : a < 2 ^ 31) (hb : b < 2 ^ 31) : nI a ≤ nI b ↔ a ≤ b := by
  rw [Int32.le_iff_toInt_le, nI_toInt ha, nI_toInt hb]; omega
theorem n_bm {z : Int} (h0 : -2147483648 ≤ z) (h1 : z < 2147483648) : z.bmod (2 ^ 32) = z := by
  rw [Int.bmod_eq_of_le] <;> omega
theorem n_add {a b : Nat} (h : a + b < 2 ^ 31) : nI a + nI b = nI (a + b) := by
  refine Int32.toInt_inj.mp ?_
  rw [Int32.toInt_add, nI_toInt (by omega), nI_toInt (by omega), nI_toInt h, n_bm (by omega) (by omega)]
  omega
theorem n_sub {a b : Nat} (h : b ≤ a) (ha : a < 2 ^ 31) : nI a - nI b = nI (a - b) := by
  refine Int32.toInt_inj.mp ?_
  rw [Int32.toInt_sub, nI_toInt (by omega), nI_toInt (by omega), nI_toInt (by omega), n_bm (by omega) (by omega)]
  omega
theorem n_mul {a b : Nat} (h : a * b < 2 ^ 31) (ha : a < 2 ^ 31) (hb : b < 2 ^ 31) : nI a * nI b = nI (a * b) := by
  refine Int32.toInt_inj.mp ?_
  have e : ((a : Int) * (b : Int)) = ((a * b : Nat) : Int) := by simp
  rw [Int32.toInt_mul, nI_toInt ha, nI_toInt hb, nI_toInt h, e, n_bm (by omega) (by omega)]
theorem n_div {a b : Nat} (ha : a < 2 ^ 31) (hb : b < 2 ^ 31) : nI a / nI b = nI (a / b) := by
  refine Int32.toInt_inj.mp ?_
  have hd : a / b ≤ a := Nat.div_le_self a b
  have e : ((a : Int).tdiv (b : Int)) = ((a / b : Nat) : Int) := by simp
  rw [Int32.toInt_div, nI_toInt ha, nI_toInt hb, e]
  generalize a / b = q at hd
  rw [nI_toInt (by omega), n_bm (by omega) (by omega)]
theorem n_rem {a b : Nat} (ha : a < 2 ^ 31) (hb : b < 2 ^ 31) : tb_rem (nI a) (nI b) = nI (a % b) := by
  unfold tb_rem
  have h1 : a / b * b ≤ a := Nat.div_mul_le_self a b
  have h0 : a / b ≤ a := Nat.div_le_self a b
  rw [n_div ha hb, n_mul (by omega) (by omega) hb, n_sub h1 ha]
  congr 1
  have := Nat.mod_add_div a b
  rw [Nat.mul_comm] at this
  omega
theorem n_of {x : Int32} (h : 0 ≤ x) : x = nI x.toNatClampNeg := by
  refine Int32.toInt_inj.mp ?_
  have h1 := x.toInt_lt
  rw [Int32.le_iff_toInt_le] at h
  have h0 : (0 : Int32).toInt = 0 := by decide +kernel
  rw [h0] at h
  have e : x.toNatClampNeg = x.toInt.toNat := rfl
  rw [e, nI_toInt (by omega)]
  omega
/-- an int below a bound is a number -/
theorem n_of_lt {x : Int32} {n : Nat} (h : 0 ≤ x) (h2 : x < nI n) (hn : n < 2 ^ 31) : ∃ k, k < n ∧ x = nI k := by
  refine ⟨x.toNatClampNeg, ?_, n_of h⟩
  have h3 := x.toNatClampNeg_lt
  rw [n_of h] at h2
  exact (n_lt h3 hn).mp h2
theorem n_of_le {x : Int32} {n : Nat} (h : 0 ≤ x) (h2 : x ≤ nI n) (hn : n < 2 ^ 31) : ∃ k, k ≤ n ∧ x = nI k := by
  refine ⟨x.toNatClampNeg, ?_, n_of h⟩
  have h3 := x.toNatClampNeg_lt
  rw [n_of h] at h2
  exact (n_le h3 hn).mp h2
theorem n_ix {k n : Nat} (h : k < n) (hn : n ≤ 2 ^ 31) : tb_ix (nI k) n = some k := by
  unfold tb_ix
  have hk : k < 2 ^ 31 := by omega
  rw [if_neg, nI_clamp hk]
  rw [nI_clamp hk]
  rintro (q | q)
  · exact nI_pos hk q
  · omega
theorem n_nn {k : Nat} (h : k < 2 ^ 31) : (0 : Int32) ≤ nI k := nI_pos' h
theorem n_nlt {k : Nat} (h : k < 2 ^ 31) : ¬ nI k < 0 := nI_pos h
theorem n_ne_neg {k : Nat} {z : Int32} (h : k < 2 ^ 31) (hz : z < 0) : ¬ nI k = z := by
  intro q
  rw [← q] at hz
  exact nI_pos h hz
theorem n_inc {k : Nat} : nI k + 1 = nI (k + 1) := (nI_succ k).symm
theorem n_dec {k : Nat} : nI (k + 1) + (-1) = nI k := by
  have h := nI_pred k
  rw [← h]
  grind
/-- states -/
theorem up_eq {S : tb_St} {p j : Nat} {v : Int32} : tb_up S p j v p = upd (S p) j v := if_pos rfl
theorem up_ne {S : tb_St} {p q j : Nat} {v : Int32} (h : q ≠ p) : tb_up S p j v q = S q := if_neg h
theorem up_rd {S : tb_St} {p q j i : Nat} {v : Int32} : tb_up S p j v q i = if q = p ∧ i = j then v else S q i := by
  unfold tb_up
  by_cases h : q = p
  · subst h
    rw [if_pos rfl]
    unfold upd
    by_cases h2 : i = j
    · rw [if_pos h2, if_pos ⟨rfl, h2⟩]
    · rw [if_neg h2, if_neg (fun z => h2 z.2)]
  · rw [if_neg h, if_neg (fun z => h z.1)]
theorem upd_rd {f : Nat → Int32} {j i : Nat} {v : Int32} : upd f j v i = if i = j then v else f i := rfl
def b2 (p : Prop) [Decidable p] : Int32 := if p then 1 else 0
theorem b2_0 (p : Prop) [Decidable p] : (b2 p = 0) = ¬ p := by
  unfold b2
  split
  · rename_i h; simp [h]
  · rename_i h; simp [h]
theorem b2_01 (p : Prop) [Decidable p] : (b2 p = 0 ∨ b2 p = 1) = True := by
  unfold b2
  split <;> simp
/-- small methods of both -/
theorem s_isFee {d : Nat} {x : Int32} {S : tb_St} : tb_cI (d + 1) mX7_isFee [.int x] S = some (b2 (0 ≤ x ∧ x ≤ 99), S) := by
  refine MX7_isFee ?_
  unfold b2
  repeat' split
  all_goals (first | rfl | (exfalso; grind))
theorem s_within {d : Nat} {x a b : Int32} {S : tb_St} : tb_cI (d + 1) mX8_within [.int x, .int a, .int b] S = some (b2 (a ≤ x ∧ x ≤ b), S) := by
  refine MX8_within ?_
  unfold b2
  repeat' split
  all_goals (first | rfl | (exfalso; grind))
theorem s_isCase {d : Nat} {x : Int32} {S : tb_St} : tb_cI (d + 1) mX7_isCase [.int x] S = some (b2 (0 ≤ x ∧ x ≤ 223), S) := by
  refine MX7_isCase ?_
  unfold b2
  repeat' split
  all_goals (first | rfl | (exfalso; grind))
theorem s_isCaseR {d : Nat} {x : Int32} {S : tb_St} : tb_cI (d + 2) mX8_isCase [.int x] S = some (b2 (0 ≤ x ∧ x ≤ 223), S) := by
  refine MX8_isCase ?_
  rw [s_within]
  simp [b2_01]
theorem s_has {d : Nat} {x : Int32} {S : tb_St} : tb_cI (d + 1) mX5_has [.ref 2, .int x] S = some (b2 (0 ≤ x ∧ x < S 2 7), S) := by
  refine MX5_has ?_
  unfold b2
  repeat' split
  all_goals (first | rfl | (exfalso; grind))
theorem s_isTerm {d : Nat} {x : Int32} {S : tb_St} : tb_cI (d + 2) mX8_isTerm [.ref 45, .int x] S = some (b2 (0 ≤ x ∧ x ≤ S 45 0 - 1), S) := by
  refine MX8_isTerm ?_
  rw [s_within]
  simp [b2_01]
