/-! Part 56: sum, would, till -/
def runV (f : Nat → Int32 → Int32) : Nat → Nat → Int32 → Int32
  | 0, _, x => x
  | g + 1, c, x => runV f g (c + 1) (f c x)
noncomputable def earnF (S : tb_St) (t c : Nat) (x : Int32) : Int32 := if sayV S t c = -5 then x else x + sayV S t c
noncomputable def covF (S : tb_St) (t c : Nat) (x : Int32) : Int32 := if sayV S t c = -5 then x else x + 1
theorem n_le' {a b : Nat} (ha : a < 2 ^ 31) (hb : b < 2 ^ 31) (h : a ≤ b) : nI a ≤ nI b := (n_le ha hb).mpr h
theorem n_nle {a b : Nat} (ha : a < 2 ^ 31) (hb : b < 2 ^ 31) (h : b < a) : ¬ nI a ≤ nI b := fun z => by rw [n_le ha hb] at z; omega
theorem end224 {c : Nat} (h : c < 224) : ¬ (224 : Int32) ≤ nI c := n_nle (a := 224) (by omega) (by omega) h
theorem max0 {v : Int32} (h : valR v) (x : Int32) : x + tb_max 0 v = if v = -5 then x else x + v := by
  unfold tb_max
  rcases h with h | h
  · rw [h, if_pos rfl, if_neg (by decide)]; grind
  · have h0 := (feeOK_0 h).1
    rw [if_neg (show ¬ v = -5 from fun z => by rw [z] at h0; exact absurd h0 (by decide))]
    by_cases e : 0 < v
    · rw [if_pos e]
    · rw [if_neg e]; grind
theorem c_earnL {d n t : Nat} {S : tb_St} {w : Value} (hT : jTS n S) (ht : t < n) : ∀ g c x S', c + g = 224 → TR S n t S' → S' 24 6 = -1 → ∃ S'', tb_E (d + 5) mX7_earned tb_dI 12 [.ref 1, w, .int x, .int (nI c)] [] tb_S S' = some (runV (earnF S t) g c x, S'') ∧ ∀ q, q ≠ 27 → S'' q = S' q := by
  intro g
  induction g with
  | zero =>
    intro c x S' hc h1 h2
    refine ⟨S', BX7_earned_12 ?_, fun _ _ => rfl⟩
    obtain rfl : c = 224 := by omega
    rw [if_pos (show (224 : Int32) ≤ nI 224 by decide)]
    rfl
  | succ g ih =>
    intro c x S' hc h1 h2
    obtain ⟨V, v1, v2, v3, v4⟩ := c_ask (d := d) (c := c) hT ht h1 h2 (by omega)
    obtain ⟨W, w1, w2⟩ := ih (c + 1) (earnF S t c x) V (by omega) v2 v3
    refine ⟨W, BX7_earned_12 ?_, fun q hq => (w2 q hq).trans (v4 q hq)⟩
    rw [if_neg (end224 (by omega)), v1]
    simp only [Option.bind_some, n_inc]
    rw [max0 (say_val hT ht)]
    exact w1
theorem c_covL {d n t : Nat} {S : tb_St} {w : Value} (hT : jTS n S) (ht : t < n) : ∀ g c x S', c + g = 224 → TR S n t S' → S' 24 6 = -1 → ∃ S'', tb_E (d + 5) mX7_covered tb_dI 12 [.ref 1, w, .int x, .int (nI c)] [] tb_S S' = some (runV (covF S t) g c x, S'') ∧ ∀ q, q ≠ 27 → S'' q = S' q := by
  intro g
  induction g with
  | zero =>
    intro c x S' hc h1 h2
    refine ⟨S', BX7_covered_12 ?_, fun _ _ => rfl⟩
    obtain rfl : c = 224 := by omega
    rw [if_pos (show (224 : Int32) ≤ nI 224 by decide)]
    rfl
  | succ g ih =>
    intro c x S' hc h1 h2
    obtain ⟨V, v1, v2, v3, v4⟩ := c_ask (d := d) (c := c) hT ht h1 h2 (by omega)
    obtain ⟨W, w1, w2⟩ := ih (c + 1) (covF S t c x) V (by omega) v2 v3
    refine ⟨W, BX7_covered_12 ?_, fun q hq => (w2 q hq).trans (v4 q hq)⟩
    rw [if_neg (end224 (by omega)), v1]
    simp only [Option.bind_some, n_inc]
    unfold covF at w1 ⊢
    by_cases e : sayV S t c = -5
    · rw [if_pos e]
      rw [if_pos e] at w1
      unfold runV
      rw [if_pos e]
      exact w1
    · rw [if_neg e]
      rw [if_neg e] at w1
      unfold runV
      rw [if_neg e]
      exact w1
theorem c_earned {d n t : Nat} {S : tb_St} (hT : jTS n S) (ht : t < n) : ∃ S', tb_cI (d + 6) mX7_earned [.ref 1, .int (nI t)] S = some (runV (earnF S t) 224 0 0, S') ∧ tb_Kp S S' := by
  obtain ⟨S', h1, h2, h3, h4⟩ := c_open (d := d + 1) hT ht
  obtain ⟨W, w1, w2⟩ := c_earnL (d := d) (w := .int (nI t)) hT ht 224 0 0 S' rfl h2 h3
  refine ⟨W, MX7_earned ?_, kp_of (fun q q1 q2 q3 q4 => (w2 q q4).trans (h4 q q1 q2 q3))⟩
  rw [h1]
  exact w1
theorem c_covered {d n t : Nat} {S : tb_St} (hT : jTS n S) (ht : t < n) : ∃ S', tb_cI (d + 6) mX7_covered [.ref 1, .int (nI t)] S = some (runV (covF S t) 224 0 0, S') ∧ tb_Kp S S' := by
  obtain ⟨S', h1, h2, h3, h4⟩ := c_open (d := d + 1) hT ht
  obtain ⟨W, w1, w2⟩ := c_covL (d := d) (w := .int (nI t)) hT ht 224 0 0 S' rfl h2 h3
  refine ⟨W, MX7_covered ?_, kp_of (fun q q1 q2 q3 q4 => (w2 q q4).trans (h4 q q1 q2 q3))⟩
  rw [h1]
  exact w1
/-- the reference fills a row with what a term says -/
theorem r_tellsL {d n t : Nat} {S : tb_St} (hT : jTS n S) (ht : t < n) (h19 : S 45 19 = -1) : ∀ g c T, c + g = 224 → tb_Kp S T → T 45 17 = -1 → ∃ T', tb_E (d + 27) mX8_tells tb_dV 2 [.ref 45, .int (nI t), .ref 55, .int (nI c)] [] tb_S T = some T' ∧ tb_Kp T T' ∧ T' 45 17 = -1 ∧ (∀ q, q ≠ 45 → q ≠ 55 → T' q = T q) ∧ ∀ j, j < 224 → T' 55 j = if j < c then T 55 j else sayV S t j := by
  intro g
  induction g with
  | zero =>
    intro c T hc h1 h2
    refine ⟨T, BX8_tells_2 ?_, tb_Kp.refl, h2, fun _ _ _ => rfl, fun j hj => by rw [if_pos (by omega)]⟩
    obtain rfl : c = 224 := by omega
    rw [if_pos (show (224 : Int32) ≤ nI 224 by decide)]
  | succ g ih =>
    intro c T hc h1 h2
    obtain ⟨V, v1, v2, v3, v4⟩ := r_ask (d := d) (c := c) hT ht h1 h19 h2 (by omega)
    have hk : tb_Kp T (tb_up V 55 c (sayV S t c)) := v2.trans (s_kp rfl)
    obtain ⟨W, w1, w2, w3, w4, w5⟩ := ih (c + 1) (tb_up V 55 c (sayV S t c)) (by omega) (h1.trans hk) (by rw [up_ne (by omega)]; exact v3)
    refine ⟨W, BX8_tells_2 ?_, hk.trans w2, w3, fun q q1 q2 => by rw [w4 q q1 q2, up_ne q2, v4 q q1], fun j hj => ?_⟩
    · rw [if_neg (end224 (by omega)), v1]
      simp only [Option.bind_some, n_ix (show c < 224 by omega) (show 224 ≤ 2 ^ 31 by omega), n_inc]
      exact w1
    · rw [w5 j hj, up_rd]
      by_cases e : j = c
      · rw [if_pos (by omega), if_pos ⟨rfl, e⟩, if_neg (by omega), e]
      · by_cases e2 : j < c
        · rw [if_pos (by omega), if_neg (fun z => e z.2), if_pos e2, v4 55 (by omega)]
        · rw [if_neg (by omega), if_neg e2]
theorem r_tells {d n t : Nat} {S T : tb_St} (hT : jTS n S) (ht : t < n) (h19 : S 45 19 = -1) (h1 : tb_Kp S T) (h2 : T 45 17 = -1) : ∃ T', tb_cV (d + 28) mX8_tells [.ref 45, .int (nI t), .ref 55] T = some T' ∧ tb_Kp T T' ∧ T' 45 17 = -1 ∧ (∀ q, q ≠ 45 → q ≠ 55 → T' q = T q) ∧ ∀ j, j < 224 → T' 55 j = sayV S t j := by
  obtain ⟨W, w1, w2, w3, w4, w5⟩ := r_tellsL (d := d) hT ht h19 224 0 T rfl h1 h2
  exact ⟨W, MX8_tells w1, w2, w3, w4, fun j hj => by rw [w5 j hj, if_neg (by omega)]⟩
theorem r_sumL {d t : Nat} {S T : tb_St} {w : Value} {x2 : Int32} (hT : ∀ j, j < 224 → T 55 j = sayV S t j) : ∀ g c x, c + g = 224 → tb_E d mX8_sum tb_dI 38 [.ref 45, w, .int x2, .int x, .int (nI c)] [] tb_S T = some (runV (if x2 = 0 then earnF S t else covF S t) g c x, T) := by
  intro g
  induction g with
  | zero =>
    intro c x hc
    refine BX8_sum_38 ?_
    obtain rfl : c = 224 := by omega
    rw [if_pos (show (224 : Int32) ≤ nI 224 by decide)]
    rfl
  | succ g ih =>
    intro c x hc
    refine BX8_sum_38 ?_
    rw [if_neg (end224 (by omega)), n_ix (show c < 224 by omega) (by omega)]
    simp only [Option.bind_some, n_inc, hT c (by omega)]
    unfold runV
    by_cases h2 : x2 = 0
    · rw [if_pos h2] at ih ⊢
      unfold earnF at ih ⊢
      by_cases e : sayV S t c = -5
      · rw [if_pos e, if_pos e]; exact ih _ _ (by omega)
      · rw [if_neg e, if_neg e, if_neg (fun z => z h2)]; exact ih _ _ (by omega)
    · rw [if_neg h2] at ih ⊢
      unfold covF at ih ⊢
      by_cases e : sayV S t c = -5
      · rw [if_pos e, if_pos e]; exact ih _ _ (by omega)
      · rw [if_neg e, if_neg e, if_pos h2]; exact ih _ _ (by omega)
theorem p_sum : ∀ a b : Int32, tb_PI mX7_sum mX8_sum [.int a, .int b] := by
  intro a b
  refine tb_PI_ask (fun S hJ => ?_)
  obtain ⟨n, hT⟩ := hJ.1
  have hn := hT.1
  have hT' : jTS n S := hT
  have hj := hJ.2.2.2.2.2.2.2
  rcases term_or (n := n) (by omega) a with ⟨t, ht, rfl⟩ | hx
  · by_cases hb : 0 ≤ b ∧ b ≤ 1
    · refine ⟨runV (if b = 0 then earnF S t else covF S t) 224 0 0, ?_, fun T hJT hk => ?_⟩
      · by_cases h0 : b = 0
        · rw [if_pos h0]
          obtain ⟨S', h1, h2⟩ := c_earned (d := 93) hT' ht
          refine ⟨S', MX7_sum ?_, h2⟩
          rw [c_hasY hn hT.2.1 ht]
          simp only [Option.bind_some, one0, if_false]
          rw [if_neg (show ¬ b < 0 by have := hb.1; grind), if_pos hb.2, if_neg (fun z => z h0), h1]
          simp only [Option.bind_some]
        · rw [if_neg h0]
          obtain ⟨S', h1, h2⟩ := c_covered (d := 93) hT' ht
          refine ⟨S', MX7_sum ?_, h2⟩
          rw [c_hasY hn hT.2.1 ht]
          simp only [Option.bind_some, one0, if_false]
          rw [if_neg (show ¬ b < 0 by have := hb.1; grind), if_pos hb.2, if_pos h0, h1]
          simp only [Option.bind_some]
      · obtain ⟨T', g1, g2, g3, g4, g5⟩ := r_tells (d := 71) (t := t) hT' ht hj (hk.trans (s_kp45 (j := 17) (v := -1) rfl)) (by rw [up_rd, if_pos ⟨rfl, rfl⟩])
        refine ⟨T', MX8_sum ?_, (s_kp45 (j := 17) (v := -1) rfl).trans g2⟩
        rw [r_termY hn (by rw [hk.f 0 rfl]; exact hT.2.2.1) ht]
        simp only [Option.bind_some, one0, if_false]
        rw [s_within, b2_t hb]
        simp only [Option.bind_some, one0, not_false_eq_true, if_true, g1]
        exact r_sumL g5 224 0 0 rfl
    · refine ⟨-1, ⟨S, MX7_sum ?_, tb_Kp.refl⟩, fun T hJT hk => ⟨T, MX8_sum ?_, tb_Kp.refl⟩⟩
      · rw [c_hasY hn hT.2.1 ht]
        simp only [Option.bind_some, one0, if_false]
        by_cases h0 : b < 0
        · rw [if_pos h0]
        · rw [if_neg h0, if_neg (by grind)]
      · rw [r_termY hn (by rw [hk.f 0 rfl]; exact hT.2.2.1) ht]
        simp only [Option.bind_some, one0, if_false]
        rw [s_within, b2_f hb]
        simp only [Option.bind_some, not_true_eq_false, if_false]
  · refine ⟨-1, ⟨S, MX7_sum ?_, tb_Kp.refl⟩, fun T hJT hk => ⟨T, MX8_sum ?_, tb_Kp.refl⟩⟩
    · rw [c_hasN hT.2.1 hx]
      simp only [Option.bind_some, if_true]
    · rw [r_termN hn (by rw [hk.f 0 rfl]; exact hT.2.2.1) hx]
      simp only [Option.bind_some, if_true]
