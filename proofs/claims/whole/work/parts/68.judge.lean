/-! Part 68: pair: judge -/
def inPB (X : Nat → Int32) (i c : Nat) : Bool := decide ((X (7 * i) ≤ nI (c / 28) ∧ nI (c / 28) ≤ X (7 * i + 1)) ∧ (X (7 * i + 2) ≤ nI (c / 4 % 7) ∧ nI (c / 4 % 7) ≤ X (7 * i + 3)) ∧ (X (7 * i + 4) ≤ nI (c % 4) ∧ nI (c % 4) ≤ X (7 * i + 5)))
def jaV (X : Nat → Int32) (c : Nat) : Nat → Nat → Int32
  | 0, _ => -5
  | g + 1, i => if inPB X i c = true then X (7 * i + 6) else jaV X c g (i + 1)
theorem c_within {d q n k v : Nat} {S : tb_St} (h : q < 4) (hl : S 44 q = nI n) (hn : n ≤ 70) (hk : k + 1 < n) : tb_cI (d + 4) mX3_isWithin [.ref 38, .int (nI v), .int (nI q), .int (nI k)] S = some (b2 (S (40 + q) k ≤ nI v ∧ nI v ≤ S (40 + q) (k + 1)), S) := by
  refine MX3_isWithin ?_
  rw [c_at h hl hn (by omega)]
  simp only [Option.bind_some, n_inc]
  by_cases e : nI v < S (40 + q) k
  · rw [if_pos e, b2_f (fun z => by have := z.1; grind)]
  · rw [if_neg e, c_at h hl hn hk]
    simp only [Option.bind_some]
    by_cases e2 : S (40 + q) (k + 1) < nI v
    · rw [if_pos e2, b2_f (fun z => by have := z.2; grind)]
    · rw [if_neg e2, b2_t ⟨by grind, by grind⟩]
theorem c_inPart {d q n i c : Nat} {S : tb_St} (h : q < 4) (hl : S 44 q = nI n) (hn : n ≤ 70) (hi : 7 * i + 6 < n) (hc : c < 224) : tb_cI (d + 5) mX3_isInPart [.ref 38, .int (nI q), .int (nI (7 * i)), .int (nI c)] S = some (if inPB (S (40 + q)) i c = true then 1 else 0, S) := by
  refine MX3_isInPart ?_
  rw [c_age hc]
  simp only [Option.bind_some]
  rw [c_within h hl hn (by omega)]
  simp only [Option.bind_some, b2_0]
  unfold inPB
  by_cases e : S (40 + q) (7 * i) ≤ nI (c / 28) ∧ nI (c / 28) ≤ S (40 + q) (7 * i + 1)
  · rw [if_neg (fun z => z e), c_day hc]
    simp only [Option.bind_some]
    rw [show (2 : Int32) = nI 2 from rfl, n_add (by omega), c_within h hl hn (by omega)]
    simp only [Option.bind_some, b2_0]
    by_cases e2 : S (40 + q) (7 * i + 2) ≤ nI (c / 4 % 7) ∧ nI (c / 4 % 7) ≤ S (40 + q) (7 * i + 2 + 1)
    · rw [if_neg (fun z => z e2), c_hour hc]
      simp only [Option.bind_some]
      rw [show (4 : Int32) = nI 4 from rfl, n_add (by omega), c_within h hl hn (by omega)]
      simp only [Option.bind_some, b2_0]
      by_cases e3 : S (40 + q) (7 * i + 4) ≤ nI (c % 4) ∧ nI (c % 4) ≤ S (40 + q) (7 * i + 4 + 1)
      · rw [if_neg (fun z => z e3), if_pos (decide_eq_true ⟨e, e2, e3⟩)]
      · rw [if_pos e3, if_neg (fun z => e3 (of_decide_eq_true z).2.2)]
    · rw [if_pos e2, if_neg (fun z => e2 (of_decide_eq_true z).2.1)]
  · rw [if_pos e, if_neg (fun z => e (of_decide_eq_true z).1)]
theorem c_rackL {d q n p c : Nat} {S : tb_St} (h : q < 4) (hl : S 44 q = nI n) (hn : n ≤ 70) (hp : n = 7 * p) (hc : c < 224) : ∀ g i, i + g = p → tb_E (d + 5) mX3_answer tb_dI 9 [.ref 38, .int (nI q), .int (nI c), .int (nI p), .int (nI i)] [] tb_S S = some (jaV (S (40 + q)) c g i, S) := by
  intro g
  induction g with
  | zero =>
    intro i hi
    refine BX3_answer_9 ?_
    rw [if_pos (n_le' (by omega) (by omega) (by omega))]
    rfl
  | succ g ih =>
    intro i hi
    refine BX3_answer_9 ?_
    rw [if_neg (n_nle (by omega) (by omega) (by omega)), show (7 : Int32) = nI 7 from rfl, n_mul (by omega) (by omega) (by omega), c_inPart h hl hn (by omega) hc]
    simp only [Option.bind_some]
    unfold jaV
    by_cases e : inPB (S (40 + q)) i c = true
    · rw [if_pos e, if_pos e]
      simp only [one0, if_false]
      rw [show (6 : Int32) = nI 6 from rfl, n_add (by omega), c_at h hl hn (by omega)]
      rfl
    · rw [if_neg e, if_neg e]
      simp only [if_true, n_inc]
      exact ih (i + 1) (by omega)
theorem c_rackAns {d q n p c : Nat} {S : tb_St} (h : q < 4) (hl : S 44 q = nI n) (hn : n ≤ 70) (hp : n = 7 * p) (hc : c < 224) : tb_cI (d + 6) mX3_answer [.ref 38, .int (nI q), .int (nI c)] S = some (jaV (S (40 + q)) c p 0, S) := by
  refine MX3_answer ?_
  rw [c_parts h hl hn]
  simp only [Option.bind_some]
  rw [show (n + 6) / 7 = p by omega]
  exact c_rackL h hl hn hp hc p 0 (by omega)
/-- the six figures of a part that can be -/
theorem ok_figs {X : Nat → Int32} {n i : Nat} (hok : ∀ j, j < n → okB X j = true) (hi : 7 * i + 6 < n) : ∃ a0 a1 e0 e1 h0 h1 : Nat, X (7 * i) = nI a0 ∧ X (7 * i + 1) = nI a1 ∧ X (7 * i + 2) = nI e0 ∧ X (7 * i + 3) = nI e1 ∧ X (7 * i + 4) = nI h0 ∧ X (7 * i + 5) = nI h1 ∧ a0 < 10 ∧ a1 < 10 ∧ e0 < 10 ∧ e1 < 10 ∧ h0 < 10 ∧ h1 < 10 := by
  have ev0 : ∀ j, j < 6 → j % 2 = 0 → ∃ a, a ≤ 7 ∧ X (7 * i + j) = nI a := by
    intro j hj h2
    have h := hok (7 * i + j) (by omega)
    unfold okB at h
    rw [show (7 * i + j) % 7 = j by omega, if_neg (by omega), decide_eq_true_iff, if_pos h2] at h
    have hm := most_le j
    obtain ⟨a, ha, e⟩ := n_of_le h.1 h.2 (by omega)
    exact ⟨a, by omega, e⟩
  have od : ∀ j, j < 6 → j % 2 = 1 → ∀ b, b ≤ 7 → X (7 * i + j - 1) = nI b → ∃ a, a ≤ 7 ∧ X (7 * i + j) = nI a := by
    intro j hj h2 b hb he
    have h := hok (7 * i + j) (by omega)
    unfold okB at h
    rw [show (7 * i + j) % 7 = j by omega, if_neg (by omega), decide_eq_true_iff, if_neg (by omega), he] at h
    have hm := most_le j
    have h0 : (0 : Int32) ≤ nI b := n_nn (by omega)
    obtain ⟨a, ha, e⟩ := n_of_le (x := X (7 * i + j)) (by have := h.1; grind) h.2 (by omega)
    exact ⟨a, by omega, e⟩
  obtain ⟨a0, l0, q0⟩ := ev0 0 (by omega) rfl
  obtain ⟨e0, l2, q2⟩ := ev0 2 (by omega) rfl
  obtain ⟨h0, l4, q4⟩ := ev0 4 (by omega) rfl
  obtain ⟨a1, l1, q1⟩ := od 1 (by omega) rfl a0 l0 q0
  obtain ⟨e1, l3, q3⟩ := od 3 (by omega) rfl e0 l2 q2
  obtain ⟨h1, l5, q5⟩ := od 5 (by omega) rfl h0 l4 q4
  exact ⟨a0, a1, e0, e1, h0, h1, q0, q1, q2, q3, q4, q5, by omega, by omega, by omega, by omega, by omega, by omega⟩
theorem r_tellsOfL {d q n p c : Nat} {T : tb_St} {X : Nat → Int32} (h : q < 4) (hn : n ≤ 70) (hp : n = 7 * p) (hc : c < 224) (hX : ∀ k, k < n → T 65 (70 * q + k) = X k) (hok : ∀ j, j < n → okB X j = true) : ∀ g i, i + g = p → ∀ w5 w6 : Value, tb_E (d + 2) mX8_tellsOf tb_dI 3 [.ref 45, .int (nI q), .int (nI p), .int (nI c), .int (nI i), w5, w6] [] tb_S T = some (jaV X c g i, T) := by
  intro g
  induction g with
  | zero =>
    intro i hi w5 w6
    refine BX8_tellsOf_3 ?_
    rw [if_pos (n_le' (by omega) (by omega) (by omega))]
    rfl
  | succ g ih =>
    intro i hi w5 w6
    refine BX8_tellsOf_3 ?_
    rw [if_neg (n_nle (by omega) (by omega) (by omega))]
    obtain ⟨a0, a1, e0, e1, h0, h1, q0, q1, q2, q3, q4, q5, l0, l1, l2, l3, l4, l5⟩ := ok_figs hok (i := i) (by omega)
    have st : ∀ (j b f : Nat) r, j < 6 → b ≤ 99999 → f < 10 → X (7 * i + j) = nI f → tb_E (d + 2) mX8_tellsOf tb_dI 15 [.ref 45, .int (nI q), .int (nI p), .int (nI c), .int (nI i), .int (nI (10 * b + f)), .int (nI (j + 1))] [] tb_S T = some r → tb_E (d + 2) mX8_tellsOf tb_dI 15 [.ref 45, .int (nI q), .int (nI p), .int (nI c), .int (nI i), .int (nI b), .int (nI j)] [] tb_S T = some r := by
      intro j b f r hj hb hf hx hr
      refine BX8_tellsOf_15 ?_
      rw [if_neg (show ¬ (6 : Int32) ≤ nI j from n_nle (a := 6) (by omega) (by omega) hj)]
      have hix : tb_ix ((70 : Int32) * nI q + 7 * nI i + nI j) 280 = some (70 * q + (7 * i + j)) := by
        rw [show (70 : Int32) = nI 70 from rfl, show (7 : Int32) = nI 7 from rfl, n_mul (by omega) (by omega) (by omega), n_mul (by omega) (by omega) (by omega), n_add (by omega), n_add (by omega), n_ix (by omega) (by omega)]
        congr 1
        omega
      rw [hix]
      simp only [Option.bind_some, n_inc]
      rw [hX _ (by omega), hx, show (10 : Int32) = nI 10 from rfl, n_mul (by omega) (by omega) (by omega), n_add (by omega)]
      exact hr
    have i0 : (7 * i + 0) = 7 * i := rfl
    refine st 0 0 a0 _ (by omega) (by omega) l0 q0 ?_
    refine st 1 _ a1 _ (by omega) (by omega) l1 q1 ?_
    refine st 2 _ e0 _ (by omega) (by omega) l2 q2 ?_
    refine st 3 _ e1 _ (by omega) (by omega) l3 q3 ?_
    refine st 4 _ h0 _ (by omega) (by omega) l4 q4 ?_
    refine st 5 _ h1 _ (by omega) (by omega) l5 q5 ?_
    refine BX8_tellsOf_15 ?_
    rw [if_pos (show (6 : Int32) ≤ nI (5 + 1) by decide)]
    have hb : 10 * (10 * (10 * (10 * (10 * (10 * 0 + a0) + a1) + e0) + e1) + h0) + h1 = bx a0 a1 e0 e1 h0 h1 := by unfold bx; omega
    rw [hb, r_isIn hc (by unfold bx; omega)]
    simp only [Option.bind_some, n_inc]
    obtain ⟨g0, g1, g2, g3, g4, g5⟩ := fig_bx l0 l1 l2 l3 l4 l5
    have hin : inPB X i c = true ↔ inB c (bx a0 a1 e0 e1 h0 h1) := by
      unfold inPB inB
      rw [decide_eq_true_iff, q0, q1, q2, q3, q4, q5, g0, g1, g2, g3, g4, g5, n_le (by omega) (by omega), n_le (by omega) (by omega), n_le (by omega) (by omega), n_le (by omega) (by omega), n_le (by omega) (by omega), n_le (by omega) (by omega)]
      omega
    unfold jaV inBB
    by_cases e : inB c (bx a0 a1 e0 e1 h0 h1)
    · rw [if_pos e, if_pos (hin.mpr e), if_neg (show ¬ (1 : Int32) = 0 by decide)]
      have hix : tb_ix ((70 : Int32) * nI q + 7 * nI i + 6) 280 = some (70 * q + (7 * i + 6)) := by
        rw [show (70 : Int32) = nI 70 from rfl, show (7 : Int32) = nI 7 from rfl, show (6 : Int32) = nI 6 from rfl, n_mul (by omega) (by omega) (by omega), n_mul (by omega) (by omega) (by omega), n_add (by omega), n_add (by omega), n_ix (by omega) (by omega)]
        congr 1
      rw [hix]
      simp only [Option.bind_some]
      rw [hX _ (by omega)]
    · rw [if_neg e, if_neg (fun z => e (hin.mp z)), if_pos rfl]
      exact ih (i + 1) (by omega) _ _
def jcV (a b : Nat → Int32) : Nat → Nat → Int32
  | 0, _ => -5
  | g + 1, c => if a c = b c then jcV a b g (c + 1) else 500 + nI c
theorem c_judgeL {d n t q m p : Nat} {S : tb_St} {w2 w3 : Value} (hT : jTS n S) (ht : t < n) (h : q < 4) (hl : S 44 q = nI m) (hn : m ≤ 70) (hp : m = 7 * p) : ∀ g c S', c + g = 224 → TR S n t S' → S' 24 6 = -1 → (∀ q, q ≠ 24 → q ≠ 25 → q ≠ 26 → q ≠ 27 → S' q = S q) → ∃ S'', tb_E (d + 6) mX7_judge tb_dI 65 [.ref 1, .int (nI q), w2, w3, .int (nI c)] [] tb_S S' = some (jcV (fun c => jaV (S (40 + q)) c p 0) (sayV S t) g c, S'') ∧ ∀ q, q ≠ 24 → q ≠ 25 → q ≠ 26 → q ≠ 27 → S'' q = S q := by
  intro g
  induction g with
  | zero =>
    intro c S' hc h1 h2 h3
    refine ⟨S', BX7_judge_65 ?_, h3⟩
    obtain rfl : c = 224 := by omega
    rw [if_pos (show (224 : Int32) ≤ nI 224 by decide)]
    rfl
  | succ g ih =>
    intro c S' hc h1 h2 h3
    have ha := c_rackAns (d := d) (S := S') (c := c) h (by rw [h3 44 (by omega) (by omega) (by omega) (by omega)]; exact hl) hn hp (by omega)
    rw [h3 (40 + q) (by omega) (by omega) (by omega) (by omega)] at ha
    obtain ⟨V, v1, v2, v3, v4⟩ := c_ask (d := d + 1) (c := c) hT ht h1 h2 (by omega)
    have hV : ∀ q, q ≠ 24 → q ≠ 25 → q ≠ 26 → q ≠ 27 → V q = S q := fun q q1 q2 q3 q4 => (v4 q q4).trans (h3 q q1 q2 q3 q4)
    unfold jcV
    by_cases e : jaV (S (40 + q)) c p 0 = sayV S t c
    · obtain ⟨W, w1, w2⟩ := ih (c + 1) V (by omega) v2 v3 hV
      refine ⟨W, BX7_judge_65 ?_, w2⟩
      rw [if_neg (end224 (by omega)), ha]
      simp only [Option.bind_some]
      rw [v1]
      simp only [Option.bind_some, n_inc]
      rw [if_pos e, if_pos e]
      exact w1
    · refine ⟨V, BX7_judge_65 ?_, hV⟩
      rw [if_neg (end224 (by omega)), ha]
      simp only [Option.bind_some]
      rw [v1]
      simp only [Option.bind_some]
      rw [if_neg e, if_neg e]
theorem r_judgeL {d n t q m p : Nat} {S : tb_St} {X : Nat → Int32} (hT : jTS n S) (ht : t < n) (h19 : S 45 19 = -1) (h : q < 4) (hn : m ≤ 70) (hp : m = 7 * p) (hX : ∀ k, k < m → S 65 (70 * q + k) = X k) (hok : ∀ j, j < m → okB X j = true) : ∀ g c T, c + g = 224 → tb_Kp S T → T 45 17 = -1 → ∃ T', (∀ w5 w6 w7 : Value, tb_E (d + 27) mX8_judge tb_dI 175 [.ref 45, .int (nI q), .int (nI t), .int (nI m), .int (nI c), w5, w6, w7] [] tb_S T = some (jcV (fun c => jaV X c p 0) (sayV S t) g c, T')) ∧ tb_Kp T T' := by
  intro g
  induction g with
  | zero =>
    intro c T hc h1 h2
    refine ⟨T, fun w5 w6 w7 => BX8_judge_175 ?_, tb_Kp.refl⟩
    obtain rfl : c = 224 := by omega
    rw [if_pos (show (224 : Int32) ≤ nI 224 by decide)]
    rfl
  | succ g ih =>
    intro c T hc h1 h2
    have ha : tb_cI (d + 27) mX8_tellsOf [.ref 45, .int (nI q), .int (nI p), .int (nI c)] T = some (jaV X c p 0, T) := MX8_tellsOf (r_tellsOfL (d := d + 24) h hn hp (by omega) (fun k hk => by rw [h1.p 65 rfl]; exact hX k hk) hok p 0 (by omega) _ _)
    have hd : nI m / 7 = nI p := by rw [show (7 : Int32) = nI 7 from rfl, n_div (by omega) (by omega)]; congr 1; omega
    obtain ⟨V, v1, v2, v3, v4⟩ := r_ask (d := d) (c := c) hT ht h1 h19 h2 (by omega)
    unfold jcV
    by_cases e : jaV X c p 0 = sayV S t c
    · obtain ⟨W, w1, w2⟩ := ih (c + 1) V (by omega) (h1.trans v2) v3
      refine ⟨W, fun w5 w6 w7 => BX8_judge_175 ?_, v2.trans w2⟩
      rw [if_neg (end224 (by omega)), hd, ha]
      simp only [Option.bind_some]
      rw [v1]
      simp only [Option.bind_some, n_inc]
      rw [if_pos e, if_pos e]
      exact w1 _ _ _
    · refine ⟨V, fun w5 w6 w7 => BX8_judge_175 ?_, v2⟩
      rw [if_neg (end224 (by omega)), hd, ha]
      simp only [Option.bind_some]
      rw [v1]
      simp only [Option.bind_some]
      rw [if_neg e, if_neg e]
