/-! Part 67: pair: judge -/
theorem fig_bx {a0 a1 e0 e1 h0 h1 : Nat} (q0 : a0 < 10) (q1 : a1 < 10) (q2 : e0 < 10) (q3 : e1 < 10) (q4 : h0 < 10) (q5 : h1 < 10) : figM (bx a0 a1 e0 e1 h0 h1) 0 = a0 ∧ figM (bx a0 a1 e0 e1 h0 h1) 1 = a1 ∧ figM (bx a0 a1 e0 e1 h0 h1) 2 = e0 ∧ figM (bx a0 a1 e0 e1 h0 h1) 3 = e1 ∧ figM (bx a0 a1 e0 e1 h0 h1) 4 = h0 ∧ figM (bx a0 a1 e0 e1 h0 h1) 5 = h1 := by
  unfold figM bx
  refine ⟨?_, ?_, ?_, ?_, ?_, ?_⟩ <;> omega
theorem c_age {d c : Nat} {S : tb_St} (hc : c < 224) : tb_cI (d + 1) mX7_ageOf [.int (nI c)] S = some (nI (c / 28), S) := by
  refine MX7_ageOf ?_
  rw [show (28 : Int32) = nI 28 from rfl, n_div (by omega) (by omega)]
theorem c_day {d c : Nat} {S : tb_St} (hc : c < 224) : tb_cI (d + 1) mX7_dayOf [.int (nI c)] S = some (nI (c / 4 % 7), S) := by
  refine MX7_dayOf ?_
  rw [show (4 : Int32) = nI 4 from rfl, n_div (by omega) (by omega), show (7 : Int32) = nI 7 from rfl, n_rem (by omega) (by omega)]
theorem c_hour {d c : Nat} {S : tb_St} (hc : c < 224) : tb_cI (d + 1) mX7_hourOf [.int (nI c)] S = some (nI (c % 4), S) := by
  refine MX7_hourOf ?_
  rw [show (4 : Int32) = nI 4 from rfl, n_rem (by omega) (by omega)]
/-- whether a number of a rack can be -/
def okB (X : Nat → Int32) (k : Nat) : Bool := if k % 7 = 6 then decide (0 ≤ X k ∧ X k ≤ 99) else decide ((if k % 7 % 2 = 0 then 0 else X (k - 1)) ≤ X k ∧ X k ≤ nI (mostN (k % 7)))
def badV (k : Nat) : Int32 := nI (k / 7 * 10 + k % 7)
def flV (X : Nat → Int32) : Nat → Nat → Int32
  | 0, k => if k % 7 = 0 then -1 else badV k
  | g + 1, k => if okB X k = true then flV X g (k + 1) else badV k
theorem bad_i {k : Nat} (hk : k ≤ 70) : (nI k / 7) * 10 + tb_rem (nI k) 7 = badV k := by
  rw [show (7 : Int32) = nI 7 from rfl, show (10 : Int32) = nI 10 from rfl, n_div (by omega) (by omega), n_rem (by omega) (by omega), n_mul (by omega) (by omega) (by omega), n_add (by omega)]
  rfl
theorem bad_i2 {k : Nat} (hk : k ≤ 70) : 10 * (nI k / 7) + tb_rem (nI k) 7 = badV k := by
  rw [show (7 : Int32) = nI 7 from rfl, show (10 : Int32) = nI 10 from rfl, n_div (by omega) (by omega), n_rem (by omega) (by omega), n_mul (by omega) (by omega) (by omega), n_add (by omega)]
  unfold badV
  congr 1
  omega
theorem bad_ne {k : Nat} (hk : k ≤ 70) : ¬ badV k = -1 := neg1 (by omega)
theorem b2_d {p : Prop} [Decidable p] : b2 p = if decide p = true then 1 else 0 := by
  unfold b2
  by_cases e : p <;> simp [e]
theorem c_canN {d q n k : Nat} {S : tb_St} (h : q < 4) (hl : S 44 q = nI n) (hn : n ≤ 70) (hk : k < n) : tb_cI (d + 4) mX3_numberCanBe [.ref 38, .int (nI q), .int (nI k)] S = some (if okB (S (40 + q)) k = true then 1 else 0, S) := by
  refine MX3_numberCanBe ?_
  rw [c_at h hl hn hk]
  simp only [Option.bind_some]
  have hr : tb_rem (nI k) 7 = nI (k % 7) := by
    rw [show (7 : Int32) = nI 7 from rfl, n_rem (by omega) (by omega)]
  rw [hr]
  unfold okB
  by_cases e : k % 7 = 6
  · rw [if_neg (show ¬ ¬ nI (k % 7) = 6 by rw [e]; exact fun z => z rfl), if_pos e, s_isFee]
    simp only [Option.bind_some]
    rw [b2_d]
    by_cases e2 : decide (0 ≤ S (40 + q) k ∧ S (40 + q) k ≤ 99) = true
    · rw [if_pos e2, if_pos (Or.inr rfl)]
    · rw [if_neg e2, if_pos (Or.inl rfl)]
  · have hm : k % 7 < 7 := Nat.mod_lt _ (by omega)
    rw [if_pos (show ¬ nI (k % 7) = 6 by rw [show (6 : Int32) = nI 6 from rfl, n_eq (by omega) (by omega)]; exact e), if_neg e]
    obtain ⟨a, ha, hav⟩ : ∃ a, tb_cI (d + 3) mX3_at [.ref 38, .int (nI q), .int (nI k - 1)] S = some (a, S) ∧ (k % 7 % 2 = 1 → a = S (40 + q) (k - 1)) := by
      cases k with
      | zero =>
        refine ⟨0, MX3_at ?_, fun z => absurd z (by decide)⟩
        rw [c_hasPl h, b2_f (fun z => absurd z.1 (show ¬ (0 : Int32) ≤ nI 0 - 1 by decide))]
        simp only [Option.bind_some, if_true]
      | succ k =>
        have : nI (k + 1) - (1 : Int32) = nI k := nI_pred k
        rw [this]
        exact ⟨_, c_at h hl hn (by omega), fun _ => rfl⟩
    rw [ha]
    simp only [Option.bind_some]
    rw [c_canBe (by omega)]
    simp only [Option.bind_some]
    have hc : (if k % 7 % 2 = 0 then (0 : Int32) else a) = (if k % 7 % 2 = 0 then 0 else S (40 + q) (k - 1)) := by
      by_cases e2 : k % 7 % 2 = 0
      · rw [if_pos e2, if_pos e2]
      · rw [if_neg e2, if_neg e2, hav (by omega)]
    rw [hc, b2_d]
    by_cases e2 : decide ((if k % 7 % 2 = 0 then 0 else S (40 + q) (k - 1)) ≤ S (40 + q) k ∧ S (40 + q) k ≤ nI (mostN (k % 7))) = true
    · rw [if_pos e2, if_pos (Or.inr rfl)]
    · rw [if_neg e2, if_pos (Or.inl rfl)]
theorem c_parts {d q n : Nat} {S : tb_St} (h : q < 4) (hl : S 44 q = nI n) (hn : n ≤ 70) : tb_cI (d + 2) mX3_partsOf [.ref 38, .int (nI q)] S = some (nI ((n + 6) / 7), S) := by
  refine MX3_partsOf ?_
  rw [c_rhas, b2_t (rack_in h).1]
  simp only [Option.bind_some, one0, if_false, n_ix (show q < 4 by omega) (show 4 ≤ 2 ^ 31 by omega)]
  rw [hl, show (7 : Int32) = nI 7 from rfl, n_add (by omega)]
  have : nI (n + 7) - (1 : Int32) = nI (n + 6) := nI_pred (n + 6)
  rw [this, n_div (by omega) (by omega)]
theorem c_flawL {d q n : Nat} {S : tb_St} (h : q < 4) (hl : S 44 q = nI n) (hn : n ≤ 70) : ∀ g k, k + g = n → tb_E (d + 4) mX3_flaw tb_dI 8 [.ref 38, .int (nI q), .int (nI ((n + 6) / 7)), .int (nI k)] [] tb_S S = some (flV (S (40 + q)) g k, S) := by
  intro g
  have hmul : nI ((n + 6) / 7) * 7 = nI ((n + 6) / 7 * 7) := by
    rw [show (7 : Int32) = nI 7 from rfl, n_mul (by omega) (by omega) (by omega)]
  induction g with
  | zero =>
    intro k hk
    obtain rfl : k = n := by omega
    refine BX3_flaw_8 ?_
    rw [hmul]
    unfold flV
    by_cases e : k % 7 = 0
    · rw [if_pos (n_le' (by omega) (by omega) (by omega)), if_pos e]
    · rw [if_neg (n_nle (by omega) (by omega) (by omega)), if_neg e, c_hasPl h, b2_f (fun z => by
        rw [hl] at z
        have := (n_lt (by omega) (by omega)).mp z.2
        omega)]
      simp only [Option.bind_some, if_true]
      rw [bad_i hn]
  | succ g ih =>
    intro k hk
    refine BX3_flaw_8 ?_
    rw [hmul, if_neg (n_nle (by omega) (by omega) (by omega)), c_hasPl h, b2_t (show 0 ≤ nI k ∧ nI k < S 44 q by rw [hl]; exact ⟨n_nn (by omega), (n_lt (by omega) (by omega)).mpr (by omega)⟩)]
    simp only [Option.bind_some, one0, if_false]
    rw [c_canN h hl hn (by omega)]
    simp only [Option.bind_some]
    unfold flV
    by_cases e : okB (S (40 + q)) k = true
    · rw [if_pos e, if_pos e]
      simp only [one0, not_false_eq_true, if_true, n_inc]
      exact ih (k + 1) (by omega)
    · rw [if_neg e, if_neg e]
      simp only [not_true_eq_false, if_false]
      rw [bad_i (by omega)]
theorem c_flaw {d q n : Nat} {S : tb_St} (h : q < 4) (hl : S 44 q = nI n) (hn : n ≤ 70) : tb_cI (d + 5) mX3_flaw [.ref 38, .int (nI q)] S = some (flV (S (40 + q)) n 0, S) := by
  refine MX3_flaw ?_
  rw [c_parts h hl hn]
  exact c_flawL h hl hn n 0 (by omega)
theorem fl_ok {X : Nat → Int32} : ∀ g k, k + g ≤ 70 → flV X g k = -1 → (k + g) % 7 = 0 ∧ ∀ j, k ≤ j → j < k + g → okB X j = true := by
  intro g
  induction g with
  | zero =>
    intro k hk h
    unfold flV at h
    by_cases e : k % 7 = 0
    · exact ⟨e, fun j h1 h2 => by omega⟩
    · rw [if_neg e] at h
      exact absurd h (bad_ne (by omega))
  | succ g ih =>
    intro k hk h
    unfold flV at h
    by_cases e : okB X k = true
    · rw [if_pos e] at h
      obtain ⟨h1, h2⟩ := ih (k + 1) (by omega) h
      refine ⟨by rw [← h1]; congr 1; omega, fun j h3 h4 => ?_⟩
      by_cases e2 : j = k
      · rw [e2]; exact e
      · exact h2 j (by omega) (by omega)
    · rw [if_neg e] at h
      exact absurd h (bad_ne (by omega))
theorem r_flawL {d q n : Nat} {T : tb_St} {X : Nat → Int32} {x2 : Int32} (h : q < 4) (hn : n ≤ 70) (hX : ∀ k, k < n → T 65 (70 * q + k) = X k) : ∀ g k, k + g = n → 
    (flV X g k = -1 → ∀ r, (∀ w5 w6 w7 : Value, tb_E (d + 2) mX8_judge tb_dI 175 [.ref 45, .int (nI q), .int x2, .int (nI n), .int 0, w5, w6, w7] [] tb_S (tb_up T 45 17 (-1)) = some r) → ∀ w5 w6 w7 : Value, tb_E (d + 2) mX8_judge tb_dI 41 [.ref 45, .int (nI q), .int x2, .int (nI n), .int (nI k), w5, w6, w7] [] tb_S T = some r) ∧
    (¬ flV X g k = -1 → ∀ w5 w6 w7 : Value, tb_E (d + 2) mX8_judge tb_dI 41 [.ref 45, .int (nI q), .int x2, .int (nI n), .int (nI k), w5, w6, w7] [] tb_S T = some (flV X g k, T)) := by
  intro g
  induction g with
  | zero =>
    intro k hk
    obtain rfl : k = n := by omega
    have hr : tb_rem (nI k) 7 = nI (k % 7) := by
      rw [show (7 : Int32) = nI 7 from rfl, n_rem (by omega) (by omega)]
    unfold flV
    by_cases e : k % 7 = 0
    · rw [if_pos e]
      refine ⟨fun _ r hr' w5 w6 w7 => BX8_judge_41 ?_, fun z => absurd rfl z⟩
      rw [if_pos (n_le' (by omega) (by omega) (by omega)), hr, e, if_pos (show nI 0 = 0 from rfl)]
      exact hr' _ _ _
    · rw [if_neg e]
      refine ⟨fun z => absurd z (bad_ne hn), fun _ w5 w6 w7 => BX8_judge_41 ?_⟩
      rw [if_pos (n_le' (by omega) (by omega) (by omega)), if_neg (by rw [hr, n_0 (by omega)]; exact e), bad_i2 hn]
  | succ g ih =>
    intro k hk
    obtain ⟨i1, i2⟩ := ih (k + 1) (by omega)
    have hr : tb_rem (nI k) 7 = nI (k % 7) := by
      rw [show (7 : Int32) = nI 7 from rfl, n_rem (by omega) (by omega)]
    have hr2 : tb_rem (nI (k % 7)) 2 = nI (k % 7 % 2) := by
      rw [show (2 : Int32) = nI 2 from rfl, n_rem (by omega) (by omega)]
    have hm : k % 7 < 7 := Nat.mod_lt _ (by omega)
    have step : ∀ r, (∀ w7 : Value, tb_E (d + 2) mX8_judge tb_dI 122 [.ref 45, .int (nI q), .int x2, .int (nI n), .int (nI k), .int (nI (k % 7)), .int (X k), w7] [.int (if okB X k = true then 1 else 0)] tb_S T = some r) → ∀ w5 w6 w7 : Value, tb_E (d + 2) mX8_judge tb_dI 41 [.ref 45, .int (nI q), .int x2, .int (nI n), .int (nI k), w5, w6, w7] [] tb_S T = some r := by
      intro r hrr w5 w6 w7
      refine BX8_judge_41 ?_
      rw [if_neg (n_nle (by omega) (by omega) (by omega)), r_rix h (by omega), hr]
      simp only [Option.bind_some]
      rw [hX k (by omega)]
      unfold okB at hrr
      by_cases e : k % 7 = 6
      · rw [if_neg (show ¬ ¬ nI (k % 7) = 6 by rw [e]; exact fun z => z rfl), s_within]
        rw [if_pos e, ← b2_d] at hrr
        simp only [Option.bind_some]
        exact hrr _
      · rw [if_pos (show ¬ nI (k % 7) = 6 by rw [show (6 : Int32) = nI 6 from rfl, n_eq (by omega) (by omega)]; exact e)]
        rw [if_neg e, ← b2_d] at hrr
        rw [hr2, r_most (by omega)]
        by_cases e2 : k % 7 % 2 = 0
        · rw [if_pos (show ¬ nI (k % 7 % 2) = 1 by rw [e2]; decide)]
          simp only [Option.bind_some, e2, if_true] at hrr ⊢
          rw [s_within]
          simp only [Option.bind_some]
          exact hrr _
        · rw [if_neg (show ¬ ¬ nI (k % 7 % 2) = 1 by rw [show k % 7 % 2 = 1 by omega]; exact fun z => z rfl)]
          obtain ⟨k', rfl⟩ : ∃ k', k = k' + 1 := ⟨k - 1, by omega⟩
          have hix : tb_ix ((70 : Int32) * nI q + nI (k' + 1) - 1) 280 = some (70 * q + k') := by
            have : (70 : Int32) * nI q + nI (k' + 1) - 1 = 70 * nI q + nI k' := by
              rw [← n_inc]; grind
            rw [this]
            exact r_rix h (by omega)
          rw [hix]
          simp only [Option.bind_some, e2, if_false, Nat.add_sub_cancel] at hrr ⊢
          rw [hX k' (by omega), s_within]
          simp only [Option.bind_some]
          exact hrr _
    unfold flV
    by_cases e : okB X k = true
    · rw [if_pos e]
      rw [if_pos e] at step
      refine ⟨fun hf r hr' => step r (fun w7 => BX8_judge_122 ?_), fun hf => step _ (fun w7 => BX8_judge_122 ?_)⟩
      · simp only [one0, not_false_eq_true, if_true, n_inc]
        exact i1 hf r hr' _ _ _
      · simp only [one0, not_false_eq_true, if_true, n_inc]
        exact i2 hf _ _ _
    · rw [if_neg e]
      rw [if_neg e] at step
      refine ⟨fun z => absurd z (bad_ne (by omega)), fun hf => step _ (fun w7 => BX8_judge_122 ?_)⟩
      simp only [not_true_eq_false, if_false]
      have : (10 : Int32) * (nI k / 7) + nI (k % 7) = badV k := by rw [← hr]; exact bad_i2 (by omega)
      rw [this]
