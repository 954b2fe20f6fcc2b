/-! Part 79c: C marks the cases of which two terms say unlike things -/
def pairV (a b : Int32) : Int32 := (a - (-5)) * 1000 + (b - (-5))
theorem val_5 {a : Int32} (h : valR a) : ∃ m : Nat, m ≤ 104 ∧ a - (-5) = nI m ∧ a = nI m + (-5) := by
  rcases h with rfl | ⟨v, hv, rfl⟩
  · exact ⟨0, by omega, by decide, by decide⟩
  · have e : nI v - (-5) = nI (v + 5) := by
      rw [← n_add (a := v) (b := 5) (by omega), show nI 5 = (5 : Int32) from rfl]
      grind
    refine ⟨v + 5, by omega, e, ?_⟩
    rw [← e]
    grind
theorem pair_n {a b : Int32} {m k : Nat} (hm : m ≤ 104) (hk : k ≤ 104) (ha : a - (-5) = nI m) (hb : b - (-5) = nI k) : pairV a b = nI (m * 1000 + k) := by
  unfold pairV
  rw [ha, hb, show (1000 : Int32) = nI 1000 from rfl, n_mul (by omega) (by omega) (by omega), n_add (by omega)]
theorem pair_ne {a b : Int32} (ha : valR a) (hb : valR b) : ¬ pairV a b = -1 := by
  obtain ⟨m, m1, m2, m3⟩ := val_5 ha
  obtain ⟨k, k1, k2, k3⟩ := val_5 hb
  rw [pair_n m1 k1 m2 k2]
  exact n_ne_neg (by omega) (by decide)
theorem pair_inj {a b a' b' : Int32} (ha : valR a) (hb : valR b) (ha' : valR a') (hb' : valR b') (h : pairV a b = pairV a' b') : a = a' ∧ b = b' := by
  obtain ⟨m, m1, m2, m3⟩ := val_5 ha
  obtain ⟨k, k1, k2, k3⟩ := val_5 hb
  obtain ⟨m', m1', m2', m3'⟩ := val_5 ha'
  obtain ⟨k', k1', k2', k3'⟩ := val_5 hb'
  rw [pair_n m1 k1 m2 k2, pair_n m1' k1' m2' k2', n_eq (by omega) (by omega)] at h
  obtain rfl : m = m' := by omega
  obtain rfl : k = k' := by omega
  exact ⟨m3.trans m3'.symm, k3.trans k3'.symm⟩
theorem c_pair {d : Nat} {a b : Int32} {S : tb_St} : tb_cI (d + 1) mX7_pair [.int a, .int b] S = some (pairV a b, S) := MX7_pair rfl
theorem c_first {d : Nat} {a b : Int32} {S : tb_St} (ha : valR a) (hb : valR b) : tb_cI (d + 1) mX7_firstOfPair [.int (pairV a b)] S = some (a, S) := by
  obtain ⟨m, m1, m2, m3⟩ := val_5 ha
  obtain ⟨k, k1, k2, k3⟩ := val_5 hb
  refine MX7_firstOfPair ?_
  rw [pair_n m1 k1 m2 k2, show (1000 : Int32) = nI 1000 from rfl, n_div (by omega) (by omega), show (m * 1000 + k) / 1000 = m by omega, ← m3]
theorem c_second {d : Nat} {a b : Int32} {S : tb_St} (ha : valR a) (hb : valR b) : tb_cI (d + 1) mX7_secondOfPair [.int (pairV a b)] S = some (b, S) := by
  obtain ⟨m, m1, m2, m3⟩ := val_5 ha
  obtain ⟨k, k1, k2, k3⟩ := val_5 hb
  refine MX7_secondOfPair ?_
  rw [pair_n m1 k1 m2 k2, show (1000 : Int32) = nI 1000 from rfl, n_rem (by omega) (by omega), show (m * 1000 + k) % 1000 = k by omega, ← k3]
noncomputable def diffM (S : tb_St) (t u c : Nat) : Int32 := if sayV S t c = sayV S u c then -1 else pairV (sayV S t c) (sayV S u c)
theorem c_diffs1L {d n t : Nat} {S : tb_St} {x2 : Int32} {w1 w4 w5 : Value} (hT : jTS n S) (ht : t < n) : ∀ g c S', c + g = 224 → TR S n t S' → S' 24 6 = -1 → ∃ S'', (∀ r, ((tb_cV (d + 5) mX6_unfold [.ref 24, .int x2] S'').bind fun q => tb_E (d + 5) mX7_boxDiffs tb_dV 50 [.ref 1, w1, .int x2, .int (0 : Int32), w4, w5] [] tb_S q) = some r → tb_E (d + 5) mX7_boxDiffs tb_dV 10 [.ref 1, w1, .int x2, .int (nI c), w4, w5] [] tb_S S' = some r) ∧ (∀ q, q ≠ 27 → q ≠ 29 → S'' q = S' q) ∧ ∀ j, j < 224 → S'' 29 j = if j < c then S' 29 j else sayV S t j := by
  intro g
  induction g with
  | zero =>
    intro c S' hc h1 h2
    refine ⟨S', fun r hr => BX7_boxDiffs_10 ?_, fun _ _ _ => rfl, fun j hj => by rw [if_pos (by omega)]⟩
    obtain rfl : c = 224 := by omega
    rw [if_pos (show (224 : Int32) ≤ nI 224 by decide)]
    exact hr
  | succ g ih =>
    intro c S' hc h1 h2
    have hc' : c < 224 := by omega
    obtain ⟨V, v1, v2, v3, v4⟩ := c_ask (d := d) (c := c) hT ht h1 h2 hc'
    obtain ⟨i1, i2, i3, i4, i5, i6⟩ := v2
    have hR : TR S n t (tb_up V 29 c (sayV S t c)) := ⟨i1.keep (fun q hq => up_ne (by omega)), by rw [up_ne (by omega)]; exact i2, i3, i4, by rw [up_ne (by omega), up_ne (by omega)]; exact i5, by rw [up_ne (by omega)]; exact i6⟩
    obtain ⟨W, w1', w2, w3'⟩ := ih (c + 1) (tb_up V 29 c (sayV S t c)) (by omega) hR (by rw [up_ne (by omega)]; exact v3)
    refine ⟨W, fun r hr => BX7_boxDiffs_10 ?_, fun q q1 q2 => by rw [w2 q q1 q2, up_ne q2, v4 q q1], fun j hj => ?_⟩
    · rw [if_neg (end224 hc'), v1]
      simp only [Option.bind_some, n_ix hc' (show 224 ≤ 2 ^ 31 by omega), n_inc]
      exact w1' r hr
    · rw [w3' j hj, up_rd]
      by_cases e : j = c
      · rw [if_pos (by omega), if_pos ⟨rfl, e⟩, if_neg (by omega), e]
      · by_cases e2 : j < c
        · rw [if_pos (by omega), if_neg (fun z => e z.2), if_pos e2, v4 29 (by omega)]
        · rw [if_neg (by omega), if_neg e2]
theorem c_diffs2L {d n t u : Nat} {S : tb_St} {w1 w2 : Value} (hT : jTS n S) (hu : u < n) : ∀ g c (w4 w5 : Value) S', c + g = 224 → TR S n u S' → S' 24 6 = -1 → (∀ j, c ≤ j → j < 224 → S' 29 j = sayV S t j) → ∃ S'', (∀ r, tb_cV (d + 5) mX0_takeAll [.ref 28] S'' = some r → tb_E (d + 5) mX7_boxDiffs tb_dV 50 [.ref 1, w1, w2, .int (nI c), w4, w5] [] tb_S S' = some r) ∧ (∀ q, q ≠ 27 → q ≠ 29 → S'' q = S' q) ∧ ∀ j, j < 224 → S'' 29 j = if j < c then S' 29 j else diffM S t u j := by
  intro g
  induction g with
  | zero =>
    intro c w4 w5 S' hc h1 h2 h3
    refine ⟨S', fun r hr => BX7_boxDiffs_50 ?_, fun _ _ _ => rfl, fun j hj => by rw [if_pos (by omega)]⟩
    obtain rfl : c = 224 := by omega
    rw [if_pos (show (224 : Int32) ≤ nI 224 by decide), hr]
    rfl
  | succ g ih =>
    intro c w4 w5 S' hc h1 h2 h3
    have hc' : c < 224 := by omega
    obtain ⟨V, v1, v2, v3, v4⟩ := c_ask (d := d) (c := c) hT hu h1 h2 hc'
    obtain ⟨i1, i2, i3, i4, i5, i6⟩ := v2
    have hR : TR S n u (tb_up V 29 c (diffM S t u c)) := ⟨i1.keep (fun q hq => up_ne (by omega)), by rw [up_ne (by omega)]; exact i2, i3, i4, by rw [up_ne (by omega), up_ne (by omega)]; exact i5, by rw [up_ne (by omega)]; exact i6⟩
    obtain ⟨W, w1', w2', w3'⟩ := ih (c + 1) (.int (sayV S t c)) (.int (sayV S u c)) (tb_up V 29 c (diffM S t u c)) (by omega) hR (by rw [up_ne (by omega)]; exact v3) (fun j h4 h5 => by rw [up_rd, if_neg (by omega), v4 29 (by omega)]; exact h3 j (by omega) h5)
    refine ⟨W, fun r hr => BX7_boxDiffs_50 ?_, fun q q1 q2 => by rw [w2' q q1 q2, up_ne q2, v4 q q1], fun j hj => ?_⟩
    · rw [if_neg (end224 hc'), n_ix hc' (by omega)]
      simp only [Option.bind_some]
      rw [v1]
      simp only [Option.bind_some, n_inc]
      rw [h3 c (by omega) hc']
      have hw := w1' r hr
      unfold diffM at hw
      by_cases e : sayV S t c = sayV S u c
      · rw [if_pos e] at hw
        rw [if_neg (fun z => z e)]
        exact hw
      · rw [if_neg e] at hw
        rw [if_pos e, c_pair]
        exact hw
    · rw [w3' j hj, up_rd]
      by_cases e : j = c
      · rw [if_pos (by omega), if_pos ⟨rfl, e⟩, if_neg (by omega), e]
      · by_cases e2 : j < c
        · rw [if_pos (by omega), if_neg (fun z => e z.2), if_pos e2, v4 29 (by omega)]
        · rw [if_neg (by omega), if_neg e2]
