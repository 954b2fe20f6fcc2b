/-! Part 44: pairs: when, cap, two, drop, of, taken, feed, clear, way, paper, paid -/
theorem one0 : ((1 : Int32) = 0) = False := by decide
theorem term_or {n : Nat} (hn : n < 2 ^ 31) (x : Int32) : (∃ t, t < n ∧ x = nI t) ∨ ¬ (0 ≤ x ∧ x < nI n) := by
  by_cases h : 0 ≤ x ∧ x < nI n
  · exact Or.inl (n_of_lt h.1 h.2 hn)
  · exact Or.inr h
theorem c_hasY {d n t : Nat} {S : tb_St} (hn : n ≤ 24) (h : S 2 7 = nI n) (ht : t < n) : tb_cI (d + 1) mX5_has [.ref 2, .int (nI t)] S = some (1, S) := by
  rw [s_has, h]
  unfold b2
  rw [if_pos ⟨n_nn (by omega), (n_lt (by omega) (by omega)).mpr ht⟩]
theorem c_hasN {d n : Nat} {x : Int32} {S : tb_St} (h : S 2 7 = nI n) (hx : ¬ (0 ≤ x ∧ x < nI n)) : tb_cI (d + 1) mX5_has [.ref 2, .int x] S = some (0, S) := by
  rw [s_has, h]
  unfold b2
  rw [if_neg hx]
theorem n_pred {n : Nat} (hn : n < 2 ^ 31) (x : Int32) : (0 ≤ x ∧ x ≤ nI n - 1) ↔ (0 ≤ x ∧ x < nI n) := by
  have h0 := nI_pos' hn
  have h1 : nI n ≤ 2147483647 := by
    show nI n ≤ nI 2147483647
    rw [n_le hn (by omega)]
    omega
  constructor
  · rintro ⟨a, b⟩; exact ⟨a, by grind⟩
  · rintro ⟨a, b⟩; exact ⟨a, by grind⟩
theorem r_termY {d n t : Nat} {S : tb_St} (hn : n ≤ 24) (h : S 45 0 = nI n) (ht : t < n) : tb_cI (d + 2) mX8_isTerm [.ref 45, .int (nI t)] S = some (1, S) := by
  rw [s_isTerm, h]
  unfold b2
  rw [if_pos ((n_pred (by omega) _).mpr ⟨n_nn (by omega), (n_lt (by omega) (by omega)).mpr ht⟩)]
theorem r_termN {d n : Nat} {x : Int32} {S : tb_St} (hn : n ≤ 24) (h : S 45 0 = nI n) (hx : ¬ (0 ≤ x ∧ x < nI n)) : tb_cI (d + 2) mX8_isTerm [.ref 45, .int x] S = some (0, S) := by
  rw [s_isTerm, h]
  unfold b2
  rw [if_neg (fun z => hx ((n_pred (by omega) _).mp z))]
theorem b2_t {p : Prop} [Decidable p] (h : p) : b2 p = 1 := if_pos h
theorem b2_f {p : Prop} [Decidable p] (h : ¬ p) : b2 p = 0 := if_neg h
theorem p_when : ∀ a b : Int32, tb_PI mX7_when mX8_when [.int a, .int b] := by
  intro a b S hJ
  obtain ⟨n, hT⟩ := hJ.1
  rcases term_or (n := n) (by have := hT.1; omega) a with ⟨t, ht, rfl⟩ | hx
  · by_cases hb : boxB b = 0
    · refine ⟨-2, S, S, MX7_when ?_, rfl, MX8_when ?_, rfl, hJ⟩
      · simp only [c_hasY hT.1 hT.2.1 ht, c_isBox, Option.bind_some, one0, hb, not_false_eq_true, not_true_eq_false, if_true, if_false]
      · simp only [r_termY hT.1 hT.2.2.1 ht, r_isBox, Option.bind_some, one0, hb, not_false_eq_true, if_true]
    · obtain ⟨v, S1, S2, h1, h2, h3, h4, h5, h6⟩ := add_pair (k := 2) (f := -5) (b := b) (o := some t) (t := none) hJ hT (Or.inr (Or.inr (Or.inl ⟨rfl, rfl, box_ok hb, rfl, t, rfl, ht⟩)))
      simp only [oN] at h1 h4
      have hT1 : S1 45 0 = nI n := by rw [h3 45 (by omega)]; exact hT.2.2.1
      refine ⟨v, S1, S2, MX7_when ?_, h2, MX8_when ?_, h5, h6⟩
      · simp only [c_hasY hT.1 hT.2.1 ht, c_isBox, Option.bind_some, one0, hb, not_false_eq_true, not_true_eq_false, if_true, if_false, h1 96]
      · simp only [r_termY hT.1 hT1 ht, r_isBox, Option.bind_some, one0, hb, not_false_eq_true, if_true, if_false, h4 97]
  · refine ⟨-1, S, S, MX7_when ?_, rfl, MX8_when ?_, rfl, hJ⟩
    · simp only [c_hasN hT.2.1 hx, Option.bind_some, not_true_eq_false, if_false]
    · simp only [r_termN hT.1 hT.2.2.1 hx, Option.bind_some, not_true_eq_false, if_false]
theorem p_cap : ∀ a b c : Int32, tb_PI mX7_cap mX8_cap [.int a, .int b, .int c] := by
  intro a b c S hJ
  obtain ⟨n, hT⟩ := hJ.1
  rcases term_or (n := n) (by have := hT.1; omega) a with ⟨t, ht, rfl⟩ | hx
  · by_cases hb : boxB b = 0
    · refine ⟨-2, S, S, MX7_cap ?_, rfl, MX8_cap ?_, rfl, hJ⟩
      · simp only [c_hasY hT.1 hT.2.1 ht, c_isBox, Option.bind_some, one0, hb, not_false_eq_true, if_true]
      · simp only [r_termY hT.1 hT.2.2.1 ht, r_isBox, Option.bind_some, one0, hb, not_false_eq_true, if_true]
    · by_cases hf : 0 ≤ c ∧ c ≤ 99
      · obtain ⟨v, S1, S2, h1, h2, h3, h4, h5, h6⟩ := add_pair (k := 6) (f := c) (b := b) (o := some t) (t := none) hJ hT (Or.inr (Or.inr (Or.inr (Or.inl ⟨rfl, feeI hf, box_ok hb, rfl, t, rfl, ht⟩))))
        simp only [oN] at h1 h4
        have hT1 : S1 45 0 = nI n := by rw [h3 45 (by omega)]; exact hT.2.2.1
        refine ⟨v, S1, S2, MX7_cap ?_, h2, MX8_cap ?_, h5, h6⟩
        · simp only [c_hasY hT.1 hT.2.1 ht, c_isBox, s_isFee, b2_t hf, Option.bind_some, one0, hb, not_false_eq_true, if_true, if_false, h1 96]
        · simp only [r_termY hT.1 hT1 ht, r_isBox, s_within, b2_t hf, Option.bind_some, one0, hb, not_false_eq_true, if_true, if_false, h4 97]
      · refine ⟨-2, S, S, MX7_cap ?_, rfl, MX8_cap ?_, rfl, hJ⟩
        · simp only [c_hasY hT.1 hT.2.1 ht, c_isBox, s_isFee, b2_f hf, Option.bind_some, one0, hb, not_false_eq_true, not_true_eq_false, if_true, if_false]
        · simp only [r_termY hT.1 hT.2.2.1 ht, r_isBox, s_within, b2_f hf, Option.bind_some, one0, hb, not_false_eq_true, if_true, if_false]
  · refine ⟨-1, S, S, MX7_cap ?_, rfl, MX8_cap ?_, rfl, hJ⟩
    · simp only [c_hasN hT.2.1 hx, Option.bind_some, not_true_eq_false, if_false]
    · simp only [r_termN hT.1 hT.2.2.1 hx, Option.bind_some, not_true_eq_false, if_false]
theorem c_isOfTwo {d : Nat} {x : Int32} {S : tb_St} : tb_cI (d + 1) mX7_isOfTwo [.int x] S = some (b2 (x = 3 ∨ x = 4 ∨ x = 5 ∨ x = 7), S) := by
  refine MX7_isOfTwo ?_
  unfold b2
  by_cases h3 : x = 3
  · simp [h3]
  by_cases h4 : x = 4
  · simp [h4]
  by_cases h5 : x = 5
  · simp [h5]
  by_cases h7 : x = 7
  · simp [h7]
  simp [h3, h4, h5, h7]
theorem r_ofTwo {d : Nat} {x : Int32} {S : tb_St} : tb_cI (d + 1) mX8_ofTwo [.int x] S = some (b2 (2 < x ∧ ¬ x = 6), S) := by
  refine MX8_ofTwo ?_
  unfold b2
  by_cases h3 : x ≤ 2
  · rw [if_pos h3, if_neg (fun z => by have := z.1; grind)]
  · rw [if_neg h3]
    by_cases h6 : x = 6
    · rw [if_pos h6, if_neg (fun z => z.2 h6)]
    · rw [if_neg h6, if_pos ⟨by grind, h6⟩]
theorem two_iff {x : Int32} : (x = 3 ∨ x = 4 ∨ x = 5 ∨ x = 7) ↔ ((0 ≤ x ∧ x ≤ 7) ∧ 2 < x ∧ ¬ x = 6) := by
  constructor
  · rintro (rfl | rfl | rfl | rfl) <;> decide
  · rintro ⟨⟨h0, h7⟩, h2, h6⟩
    obtain ⟨k, hk, rfl⟩ := n_of_le (n := 7) h0 h7 (by omega)
    have h2' : 2 < k := (n_lt (a := 2) (by omega) (by omega)).mp h2
    have h6' : ¬ k = 6 := fun z => h6 (by rw [z]; rfl)
    obtain rfl | rfl | rfl | rfl : k = 3 ∨ k = 4 ∨ k = 5 ∨ k = 7 := by omega
    · exact Or.inl rfl
    · exact Or.inr (Or.inl rfl)
    · exact Or.inr (Or.inr (Or.inl rfl))
    · exact Or.inr (Or.inr (Or.inr rfl))
theorem p_two : ∀ a b c : Int32, tb_PI mX7_two mX8_two [.int a, .int b, .int c] := by
  intro a b c S hJ
  obtain ⟨n, hT⟩ := hJ.1
  by_cases hk : a = 3 ∨ a = 4 ∨ a = 5 ∨ a = 7
  · obtain ⟨k1, k2⟩ := two_iff.mp hk
    rcases term_or (n := n) (by have := hT.1; omega) b with ⟨t, ht, rfl⟩ | hx
    · rcases term_or (n := n) (by have := hT.1; omega) c with ⟨w, hw, rfl⟩ | hy
      · obtain ⟨v, S1, S2, h1, h2, h3, h4, h5, h6⟩ := add_pair (k := a) (f := -5) (b := -5) (o := some t) (t := some w) hJ hT (Or.inr (Or.inr (Or.inr (Or.inr ⟨hk, rfl, rfl, t, w, rfl, rfl, ht, hw⟩))))
        simp only [oN] at h1 h4
        have hT1 : S1 45 0 = nI n := by rw [h3 45 (by omega)]; exact hT.2.2.1
        refine ⟨v, S1, S2, MX7_two ?_, h2, MX8_two ?_, h5, h6⟩
        · simp only [c_isOfTwo, b2_t hk, c_hasY hT.1 hT.2.1 ht, c_hasY hT.1 hT.2.1 hw, Option.bind_some, one0, not_false_eq_true, if_true, if_false, h1 96]
        · simp only [s_within, b2_t k1, r_ofTwo, b2_t k2, r_termY hT.1 hT1 ht, r_termY hT.1 hT1 hw, Option.bind_some, one0, not_false_eq_true, if_true, if_false, h4 97]
      · refine ⟨-1, S, S, MX7_two ?_, rfl, MX8_two ?_, rfl, hJ⟩
        · simp only [c_isOfTwo, b2_t hk, c_hasY hT.1 hT.2.1 ht, c_hasN hT.2.1 hy, Option.bind_some, one0, not_true_eq_false, if_false]
        · simp only [s_within, b2_t k1, r_ofTwo, b2_t k2, r_termY hT.1 hT.2.2.1 ht, r_termN hT.1 hT.2.2.1 hy, Option.bind_some, one0, not_true_eq_false, if_false]
    · refine ⟨-1, S, S, MX7_two ?_, rfl, MX8_two ?_, rfl, hJ⟩
      · simp only [c_isOfTwo, b2_t hk, c_hasN hT.2.1 hx, Option.bind_some, one0, if_true, if_false]
      · simp only [s_within, b2_t k1, r_ofTwo, b2_t k2, r_termN hT.1 hT.2.2.1 hx, Option.bind_some, one0, if_true, if_false]
  · refine ⟨-1, S, S, MX7_two ?_, rfl, MX8_two ?_, rfl, hJ⟩
    · simp only [c_isOfTwo, b2_f hk, Option.bind_some, if_true]
    · rw [s_within]
      by_cases k1 : 0 ≤ a ∧ a ≤ 7
      · have k2 : ¬ (2 < a ∧ ¬ a = 6) := fun z => hk (two_iff.mpr ⟨k1, z⟩)
        simp only [b2_t k1, r_ofTwo, b2_f k2, Option.bind_some, one0, if_true, if_false]
      · simp only [b2_f k1, Option.bind_some, if_true]
theorem p_drop : tb_PI mX7_drop mX8_drop [] := by
  intro S hJ
  obtain ⟨n, hT⟩ := hJ.1
  obtain ⟨hn, e1, e2, hw⟩ := id hT
  cases n with
  | zero =>
    refine ⟨-3, S, S, MX7_drop ?_, rfl, MX8_drop ?_, rfl, hJ⟩
    · rw [e1, if_neg (by decide)]
    · rw [e2, if_neg (by decide)]
  | succ n =>
    have hne : ¬ nI (n + 1) = 0 := by rw [show (0 : Int32) = nI 0 from rfl, n_eq (by omega) (by omega)]; omega
    have hsub : nI (n + 1) - (1 : Int32) = nI n := nI_pred n
    refine ⟨nI n, tb_up S 2 7 (nI n), tb_up (tb_up S 2 7 (nI n)) 45 0 (nI n), MX7_drop ?_, by simp [up_ne], MX8_drop ?_, by simp [up_ne], ?_⟩
    · rw [e1, if_pos hne, hsub]
      have hc : tb_cV (98 + 1) mX5_cutTo [.ref 2, .int (nI n)] S = some (tb_up S 2 7 (nI n)) := by
        refine MX5_cutTo ?_
        rw [if_neg (n_nlt (by omega)), e1, if_neg (by rw [n_le (by omega) (by omega)]; omega)]
      rw [hc]
      simp [up_rd]
    · have e3 : tb_up S 2 7 (nI n) 45 0 = nI (n + 1) := by rw [up_rd, if_neg (by omega)]; exact e2
      rw [e3, if_pos hne, hsub]
    · refine hJ.terms (fun q hq => ?_) ⟨by simp [up_rd], by simp [up_rd]⟩ (fun q hq => ?_) ⟨n, ?_⟩
      · simp only [List.mem_cons, List.not_mem_nil, or_false] at hq
        rw [up_ne (by omega), up_ne (by omega)]
      · simp only [List.mem_cons, List.not_mem_nil, or_false] at hq
        have : ¬ q = 0 := by omega
        simp [up_rd, this]
      · have p : ∀ q, q ≠ 2 → q ≠ 45 → tb_up (tb_up S 2 7 (nI n)) 45 0 (nI n) q = S q := fun q h1 h2 => by rw [up_ne h2, up_ne h1]
        rw [p 3 (by omega) (by omega), p 4 (by omega) (by omega), p 5 (by omega) (by omega), p 6 (by omega) (by omega), p 7 (by omega) (by omega), p 8 (by omega) (by omega), p 9 (by omega) (by omega), p 46 (by omega) (by omega), p 47 (by omega) (by omega), p 48 (by omega) (by omega), p 49 (by omega) (by omega), p 50 (by omega) (by omega), p 51 (by omega) (by omega), p 52 (by omega) (by omega)]
        exact ⟨by omega, by simp [up_rd], by simp [up_rd], fun t ht => hw t (by omega)⟩
theorem p_of : ∀ a b : Int32, tb_PI mX7_of mX8_of [.int a, .int b] := by
  intro a b S hJ
  obtain ⟨n, hT⟩ := hJ.1
  rcases term_or (n := n) (by have := hT.1; omega) a with ⟨t, ht, rfl⟩ | hx
  · have hn := hT.1
    have h24 : tb_ix (nI t) 24 = some t := n_ix (by omega) (by omega)
    have h96 : tb_ix (nI t) 96 = some t := n_ix (by omega) (by omega)
    obtain ⟨w1, w2, w3, w4, w5, w6, w7⟩ := (hT.2.2.2 t ht).1
    refine ⟨if b = 0 then S 3 t else if b = 1 then S 4 t else if b = 2 then S 6 t else if b = 3 then S 7 t else if b = 4 then S 8 t else if b = 5 then S 9 t else if b = 6 then S 5 t else -1, S, S, MX7_of ?_, rfl, MX8_of ?_, rfl, hJ⟩
    · simp only [c_hasY hT.1 hT.2.1 ht, h24, Option.bind_some, one0, not_false_eq_true, if_true]
      repeat' split
      all_goals rfl
    · simp only [r_termY hT.1 hT.2.2.1 ht, h96, w1, w2, w3, w4, w5, w6, w7, Option.bind_some, one0, not_false_eq_true, if_true]
      repeat' split
      all_goals rfl
  · refine ⟨-1, S, S, MX7_of ?_, rfl, MX8_of ?_, rfl, hJ⟩
    · simp only [c_hasN hT.2.1 hx, Option.bind_some, not_true_eq_false, if_false]
    · simp only [r_termN hT.1 hT.2.2.1 hx, Option.bind_some, not_true_eq_false, if_false]
