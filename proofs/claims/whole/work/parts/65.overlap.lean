/-! Part 65: pair: overlap -/
def cntF (P : Nat → Bool) : Nat → Nat → Nat → Nat
  | 0, _, k => k
  | g + 1, c, k => cntF P g (c + 1) (if P c = true then k + 1 else k)
theorem cntF_le {P : Nat → Bool} : ∀ g c k, cntF P g c k ≤ k + g := by
  intro g
  induction g with
  | zero => intro c k; exact Nat.le_refl _
  | succ g ih =>
    intro c k
    unfold cntF
    have h := ih (c + 1) (if P c = true then k + 1 else k)
    by_cases e : P c = true
    · rw [if_pos e] at h ⊢; omega
    · rw [if_neg e] at h ⊢; omega
theorem cntF_add {P : Nat → Bool} : ∀ g h c k, cntF P (g + h) c k = cntF P h (c + g) (cntF P g c k) := by
  intro g
  induction g with
  | zero => intro h c k; rw [Nat.zero_add]; rfl
  | succ g ih =>
    intro h c k
    rw [show g + 1 + h = (g + h) + 1 by omega]
    conv => lhs; unfold cntF
    conv => rhs; arg 4; unfold cntF
    rw [ih, show c + 1 + g = c + (g + 1) by omega]
def sumB (p : Nat → Bool) : Nat → Nat
  | 0 => 0
  | n + 1 => sumB p n + (if p n = true then 1 else 0)
theorem cnt4 {P Q p : Nat → Bool} (hP : ∀ c, P c = (Q (c / 4) && p (c % 4))) (y k : Nat) : cntF P 4 (4 * y) k = k + (if Q y = true then sumB p 4 else 0) := by
  have e : ∀ i, i < 4 → P (4 * y + i) = (Q y && p i) := by
    intro i hi
    rw [hP, show (4 * y + i) / 4 = y by omega, show (4 * y + i) % 4 = i by omega]
  have e0 := e 0 (by omega)
  have e1 := e 1 (by omega)
  have e2 := e 2 (by omega)
  have e3 := e 3 (by omega)
  rw [Nat.add_zero] at e0
  unfold cntF cntF cntF cntF cntF
  rw [show 4 * y + 1 + 1 = 4 * y + 2 by omega, show 4 * y + 2 + 1 = 4 * y + 3 by omega, e0, e1, e2, e3]
  unfold sumB sumB sumB sumB sumB
  cases Q y
  · simp
  · cases p 0 <;> cases p 1 <;> cases p 2 <;> cases p 3 <;> rfl
theorem cnt28 {P pa pe ph : Nat → Bool} (hP : ∀ c, P c = ((pa (c / 4 / 7) && pe (c / 4 % 7)) && ph (c % 4))) (a k : Nat) : cntF P 28 (28 * a) k = k + (if pa a = true then sumB pe 7 * sumB ph 4 else 0) := by
  have e : ∀ i, i < 7 → ∀ k, cntF P 4 (28 * a + 4 * i) k = k + (if pa a = true ∧ pe i = true then sumB ph 4 else 0) := by
    intro i hi k
    rw [show 28 * a + 4 * i = 4 * (7 * a + i) by omega, cnt4 (Q := fun y => pa (y / 7) && pe (y % 7)) (p := ph) hP]
    rw [show (7 * a + i) / 7 = a by omega, show (7 * a + i) % 7 = i by omega]
    cases pa a <;> cases pe i <;> simp
  have e0 := e 0 (by omega)
  have e1 := e 1 (by omega)
  have e2 := e 2 (by omega)
  have e3 := e 3 (by omega)
  have e4 := e 4 (by omega)
  have e5 := e 5 (by omega)
  have e6 := e 6 (by omega)
  rw [show 28 = 4 + (4 + (4 + (4 + (4 + (4 + 4))))) from rfl, cntF_add, cntF_add, cntF_add, cntF_add, cntF_add, cntF_add]
  generalize hn : sumB ph 4 = m at *
  simp only [Nat.mul_zero, Nat.add_zero, Nat.mul_one, show 4 * 2 = 8 from rfl, show 4 * 3 = 12 from rfl, show 4 * 4 = 16 from rfl, show 4 * 5 = 20 from rfl, show 4 * 6 = 24 from rfl] at e0 e1 e2 e3 e4 e5 e6
  rw [show (4 + (4 + (4 + (4 + (4 + (4 + 4)))))) * a = 28 * a from rfl]
  simp only [Nat.add_assoc, Nat.reduceAdd]
  rw [e0, e1, e2, e3, e4, e5, e6]
  unfold sumB sumB sumB sumB sumB sumB sumB sumB
  cases pa a
  · simp
  · simp only [true_and, if_true]
    cases pe 0 <;> cases pe 1 <;> cases pe 2 <;> cases pe 3 <;> cases pe 4 <;> cases pe 5 <;> cases pe 6 <;> simp <;> omega
theorem cnt224 {P pa pe ph : Nat → Bool} (hP : ∀ c, P c = ((pa (c / 4 / 7) && pe (c / 4 % 7)) && ph (c % 4))) : cntF P 224 0 0 = sumB pa 8 * sumB pe 7 * sumB ph 4 := by
  have e : ∀ i k, cntF P 28 (28 * i) k = k + (if pa i = true then sumB pe 7 * sumB ph 4 else 0) := cnt28 hP
  have e0 := e 0
  have e1 := e 1
  have e2 := e 2
  have e3 := e 3
  have e4 := e 4
  have e5 := e 5
  have e6 := e 6
  have e7 := e 7
  rw [show 224 = 28 + (28 + (28 + (28 + (28 + (28 + (28 + 28)))))) from rfl, cntF_add, cntF_add, cntF_add, cntF_add, cntF_add, cntF_add, cntF_add]
  rw [Nat.mul_assoc]
  generalize hn : sumB pe 7 * sumB ph 4 = m at *
  simp only [Nat.reduceMul] at e0 e1 e2 e3 e4 e5 e6 e7
  simp only [Nat.reduceAdd]
  rw [e0, e1, e2, e3, e4, e5, e6, e7]
  unfold sumB sumB sumB sumB sumB sumB sumB sumB sumB
  cases pa 0 <;> cases pa 1 <;> cases pa 2 <;> cases pa 3 <;> cases pa 4 <;> cases pa 5 <;> cases pa 6 <;> cases pa 7 <;> simp <;> omega
theorem sumB_rng (a b N : Nat) : sumB (fun i => decide (a ≤ i ∧ i ≤ b)) N = min (b + 1) N - a := by
  induction N with
  | zero => simp [sumB]
  | succ N ih =>
    unfold sumB
    rw [ih]
    by_cases e : a ≤ N ∧ N ≤ b
    · rw [if_pos (by simpa using e)]; omega
    · rw [if_neg (by simpa using e)]; omega
theorem side_n : ∀ a b : Nat, a < 10 → b < 10 → tb_max 0 (nI b - nI a + 1) = nI (b + 1 - a) := by
  intro a b ha hb
  have h : ∀ a : Fin 10, ∀ b : Fin 10, tb_max 0 (nI b.1 - nI a.1 + 1) = nI (b.1 + 1 - a.1) := by decide +kernel
  exact h ⟨a, ha⟩ ⟨b, hb⟩
theorem min_n {a b : Nat} (ha : a < 2 ^ 31) (hb : b < 2 ^ 31) : tb_min (nI a) (nI b) = nI (min a b) := by
  unfold tb_min
  by_cases e : b < a
  · rw [if_pos ((n_lt hb ha).mpr e), Nat.min_eq_right (by omega)]
  · rw [if_neg (fun z => e ((n_lt hb ha).mp z)), Nat.min_eq_left (by omega)]
theorem max_n {a b : Nat} (ha : a < 2 ^ 31) (hb : b < 2 ^ 31) : tb_max (nI a) (nI b) = nI (max a b) := by
  unfold tb_max
  by_cases e : a < b
  · rw [if_pos ((n_lt ha hb).mpr e), Nat.max_eq_right (by omega)]
  · rw [if_neg (fun z => e ((n_lt ha hb).mp z)), Nat.max_eq_left (by omega)]
def sideN (m l k : Nat) : Nat := min (figM m (k + 1)) (figM l (k + 1)) + 1 - max (figM m k) (figM l k)
theorem c_side {d m l k : Nat} {S : tb_St} (hm : m ≤ 999999) (hl : l ≤ 999999) (hk : k ≤ 4) : tb_cI (d + 2) mX7_sharedSide [.int (nI m), .int (nI l), .int (nI k)] S = some (nI (sideN m l k), S) := by
  refine MX7_sharedSide ?_
  have f1 := fig_lt m k
  have f2 := fig_lt l k
  have f3 := fig_lt m (k + 1)
  have f4 := fig_lt l (k + 1)
  simp only [n_inc, c_fig (show m < 2 ^ 31 by omega) (show k ≤ 5 by omega), c_fig (show l < 2 ^ 31 by omega) (show k ≤ 5 by omega), c_fig (show m < 2 ^ 31 by omega) (show k + 1 ≤ 5 by omega), c_fig (show l < 2 ^ 31 by omega) (show k + 1 ≤ 5 by omega), Option.bind_some]
  rw [min_n (by omega) (by omega), max_n (by omega) (by omega), side_n _ _ (by omega) (by omega)]
  rfl
noncomputable def bothB (m l : Nat) (c : Nat) : Bool := by classical exact decide (inB c m ∧ inB c l)
theorem r_overL {d n t u m l : Nat} {S T : tb_St} (hT : rtab (S 3) (S 4) (S 5) (S 6) (S 7) n T) (ht : t < n) (hu : u < n) (hm : S 5 t = nI m) (hl : S 5 u = nI l) (hm9 : m ≤ 999999) (hl9 : l ≤ 999999) : ∀ g c k, c + g = 224 → k ≤ c → tb_E (d + 2) mX8_overlap tb_dI 48 [.ref 45, .int (nI t), .int (nI u), .int (nI k), .int (nI c)] [] tb_S T = some (nI (cntF (bothB m l) g c k), T) := by
  have hn := hT.1
  intro g
  induction g with
  | zero =>
    intro c k hc hk
    refine BX8_overlap_48 ?_
    obtain rfl : c = 224 := by omega
    rw [if_pos (show (224 : Int32) ≤ nI 224 by decide)]
    rfl
  | succ g ih =>
    intro c k hc hk
    refine BX8_overlap_48 ?_
    rw [if_neg (end224 (by omega)), n_ix (show t < 96 by omega) (by omega), n_ix (show u < 96 by omega) (by omega)]
    simp only [Option.bind_some, n_inc]
    rw [(hT.2 t ht).2.2.2.2, hm, r_isIn (by omega) hm9]
    simp only [Option.bind_some]
    rw [(hT.2 u hu).2.2.2.2, hl]
    unfold cntF
    have i1 := ih (c + 1) k (by omega) (by omega)
    have i2 := ih (c + 1) (k + 1) (by omega) (by omega)
    unfold inBB bothB
    by_cases a : inB c m
    · rw [if_pos a, if_neg (show ¬ (1 : Int32) = 0 by decide), r_isIn (by omega) hl9]
      simp only [Option.bind_some]
      unfold inBB
      by_cases b : inB c l
      · rw [if_pos b, if_neg (show ¬ (1 : Int32) = 0 by decide), if_pos (by simp [a, b])]
        exact i2
      · rw [if_neg b, if_pos rfl, if_neg (by simp [b])]
        exact i1
    · rw [if_neg a, if_pos rfl, if_neg (by simp [a])]
      exact i1
theorem cnt_both {m l : Nat} (hm : boxN m) : cntF (bothB m l) 224 0 0 = sideN m l 0 * sideN m l 2 * sideN m l 4 := by
  have h := cnt224 (P := bothB m l) (pa := fun i => decide (max (figM m 0) (figM l 0) ≤ i ∧ i ≤ min (figM m 1) (figM l 1))) (pe := fun i => decide (max (figM m 2) (figM l 2) ≤ i ∧ i ≤ min (figM m 3) (figM l 3))) (ph := fun i => decide (max (figM m 4) (figM l 4) ≤ i ∧ i ≤ min (figM m 5) (figM l 5))) (fun c => by
    unfold bothB
    rw [← Bool.decide_and, ← Bool.decide_and]
    congr 1
    rw [eq_iff_iff]
    unfold inB
    rw [show c / 28 = c / 4 / 7 by omega]
    constructor
    · rintro ⟨⟨a1, a2, a3, a4, a5, a6⟩, b1, b2, b3, b4, b5, b6⟩
      omega
    · rintro ⟨⟨⟨a1, a2⟩, a3, a4⟩, a5, a6⟩
      omega)
  rw [h, sumB_rng, sumB_rng, sumB_rng]
  unfold sideN
  obtain ⟨b1, b2, b3, b4, b5, b6⟩ := hm
  congr 1
  · congr 1
    · show min (min (figM m 1) (figM l 1) + 1) 8 - _ = min (figM m 1) (figM l 1) + 1 - _
      omega
    · show min (min (figM m 3) (figM l 3) + 1) 7 - _ = min (figM m 3) (figM l 3) + 1 - _
      omega
  · show min (min (figM m 5) (figM l 5) + 1) 4 - _ = min (figM m 5) (figM l 5) + 1 - _
    omega
