/-! Part 57: odds -/
theorem tb_PL_ask {y z : tb_MD} {a : List Value} (h : ∀ S, tb_J S → ∃ v, (∃ S1, tb_cL 100 y (.ref 1 :: a) S = some (v, S1) ∧ tb_Kp S S1) ∧ ∀ T, tb_J T → tb_Kp S T → ∃ T1, tb_cL 100 z (.ref 45 :: a) T = some (v, T1) ∧ tb_Kp T T1) : tb_PL y z a := by
  intro S hJ
  obtain ⟨v, ⟨S1, h1, h2⟩, h3⟩ := h S hJ
  obtain ⟨T1, h4, h5⟩ := h3 S1 (hJ.kp h2) h2
  exact ⟨v, S1, T1, h1, h2.p 0 rfl, h4, (h2.trans h5).p 0 rfl, hJ.kp (h2.trans h5)⟩
theorem cov_nat {S : tb_St} {t : Nat} : ∀ g c k, ∃ m, m ≤ k + g ∧ runV (covF S t) g c (nI k) = nI m := by
  intro g
  induction g with
  | zero => intro c k; exact ⟨k, by omega, rfl⟩
  | succ g ih =>
    intro c k
    unfold runV
    by_cases e : sayV S t c = -5
    · obtain ⟨m, h1, h2⟩ := ih (c + 1) k
      refine ⟨m, by omega, ?_⟩
      rw [← h2]
      congr 1
      exact if_pos e
    · obtain ⟨m, h1, h2⟩ := ih (c + 1) (k + 1)
      refine ⟨m, by omega, ?_⟩
      rw [← h2]
      congr 1
      rw [← n_inc]
      exact if_neg e
theorem n_0 {k : Nat} (h : k < 2 ^ 31) : nI k = 0 ↔ k = 0 := n_eq (b := 0) h (by omega)
theorem n_div1 (x : Int32) : x / nI 1 = x := by
  rw [show nI 1 = (1 : Int32) from rfl]
  exact Int32.div_one
theorem c_gcdL {d m : Nat} {S : tb_St} {x0 : Int32} (hm : m ≤ 224) : ∀ e, e ≤ 224 → Nat.gcd m 224 ≤ e → tb_E d mX7_inLowestTerms tb_dI 4 [.int x0, .int (nI m), .int (nI e)] [] tb_S S = some (x0 / nI (Nat.gcd m 224), S) := by
  intro e
  have hg : 1 ≤ Nat.gcd m 224 := Nat.gcd_pos_of_pos_right _ (by omega)
  induction e with
  | zero => intro _ h; omega
  | succ e ih =>
    intro h1 h2
    refine BX7_inLowestTerms_4 ?_
    by_cases h : e = 0
    · subst h
      rw [if_pos (show nI (0 + 1) ≤ 1 by decide)]
      rw [show Nat.gcd m 224 = 1 by omega, n_div1]
    rw [if_neg (show ¬ nI (e + 1) ≤ 1 from n_nle (b := 1) (by omega) (by omega) (by omega)), if_neg (show ¬ nI (e + 1) = 0 by rw [n_0 (by omega)]; omega), if_neg (show ¬ nI (e + 1) = 0 by rw [n_0 (by omega)]; omega)]
    rw [n_rem (by omega) (by omega), show (224 : Int32) = nI 224 from rfl, n_rem (by omega) (by omega), n_dec]
    have hml : m % (e + 1) < 2 ^ 31 := by have := Nat.mod_lt m (show e + 1 > 0 by omega); omega
    have hml2 : 224 % (e + 1) < 2 ^ 31 := by have := Nat.mod_lt 224 (show e + 1 > 0 by omega); omega
    by_cases a : m % (e + 1) = 0 ∧ 224 % (e + 1) = 0
    · rw [if_neg (by rw [n_0 hml]; exact fun z => z a.1), if_neg (by rw [n_0 hml2]; exact fun z => z a.2), if_neg (show ¬ nI (e + 1) = 0 by rw [n_0 (by omega)]; omega)]
      have hd : e + 1 ∣ Nat.gcd m 224 := Nat.dvd_gcd (Nat.dvd_of_mod_eq_zero a.1) (Nat.dvd_of_mod_eq_zero a.2)
      have := Nat.le_of_dvd (by omega) hd
      rw [show Nat.gcd m 224 = e + 1 by omega]
    · have hne : Nat.gcd m 224 ≠ e + 1 := by
        intro z
        refine a ⟨Nat.mod_eq_zero_of_dvd ?_, Nat.mod_eq_zero_of_dvd ?_⟩
        · rw [← z]; exact Nat.gcd_dvd_left m 224
        · rw [← z]; exact Nat.gcd_dvd_right m 224
      have hi := ih (by omega) (by omega)
      by_cases b : m % (e + 1) = 0
      · rw [if_neg (by rw [n_0 hml]; exact fun z => z b), if_pos (by rw [n_0 hml2]; exact fun z => a ⟨b, z⟩)]
        exact hi
      · rw [if_pos (by rw [n_0 hml]; exact b)]
        exact hi
theorem r_gcdL {d : Nat} {S : tb_St} {w : Value} {x2 x3 : Int32} : ∀ b a (w6 : Value), a ≤ 224 → b ≤ 224 → 1 ≤ a ∨ 1 ≤ b → tb_E d mX8_odds tb_dL 36 [.ref 45, w, .int x2, .int x3, .int (nI a), .int (nI b), w6] [] tb_S S = some (if ¬ x2 = 0 then (224 / nI (Nat.gcd a b)).toInt64 else (x3 / nI (Nat.gcd a b)).toInt64, S) := by
  intro b
  induction b using Nat.strongRecOn with
  | ind b ih =>
    intro a w6 ha hb hab
    refine BX8_odds_36 ?_
    by_cases h : b = 0
    · subst h
      rw [if_pos (show nI 0 = 0 from rfl), Nat.gcd_zero_right]
      have : ¬ nI a = 0 := by rw [n_0 (by omega)]; omega
      by_cases e : x2 = 0
      · rw [if_neg (fun z => z e), if_neg this, if_neg (fun z => z e)]
      · rw [if_pos e, if_neg this, if_pos e]
    · have : ¬ nI b = 0 := by rw [n_0 (by omega)]; omega
      rw [if_neg this, if_neg this, n_rem (by omega) (by omega)]
      have hm := Nat.mod_lt a (show b > 0 by omega)
      rw [ih (a % b) hm b _ hb (by omega) (Or.inl (by omega))]
      rw [show Nat.gcd b (a % b) = Nat.gcd a b by rw [Nat.gcd_comm a b, Nat.gcd_rec b a, Nat.gcd_comm]]
theorem p_odds : ∀ a b : Int32, tb_PL mX7_odds mX8_odds [.int a, .int b] := by
  intro a b
  refine tb_PL_ask (fun S hJ => ?_)
  obtain ⟨n, hT⟩ := hJ.1
  have hn := hT.1
  have hT' : jTS n S := hT
  have hj := hJ.2.2.2.2.2.2.2
  rcases term_or (n := n) (by omega) a with ⟨t, ht, rfl⟩ | hx
  · by_cases hb : 0 ≤ b ∧ b ≤ 1
    · obtain ⟨m, hm, em⟩ := cov_nat (S := S) (t := t) 224 0 0
      rw [show nI 0 = 0 from rfl] at em
      have hg : 1 ≤ Nat.gcd m 224 := Nat.gcd_pos_of_pos_right _ (by omega)
      have hg2 : Nat.gcd m 224 ≤ 224 := Nat.gcd_le_right m (by omega)
      have hg0 : ¬ nI (Nat.gcd m 224) = 0 := by rw [n_0 (by omega)]; omega
      refine ⟨if ¬ b = 0 then (224 / nI (Nat.gcd m 224)).toInt64 else (nI m / nI (Nat.gcd m 224)).toInt64, ?_, fun T hJT hk => ?_⟩
      · obtain ⟨S', h1, h2⟩ := c_covered (d := 93) hT' ht
        refine ⟨S', MX7_odds ?_, h2⟩
        rw [c_hasY hn hT.2.1 ht]
        simp only [Option.bind_some, one0, if_false]
        rw [if_neg (show ¬ b < 0 by have := hb.1; grind), if_pos hb.2, h1, em]
        simp only [Option.bind_some]
        have hc : ∀ x : Int32, tb_cI 99 mX7_inLowestTerms [.int x, .int (nI m)] S' = some (x / nI (Nat.gcd m 224), S') := fun x => MX7_inLowestTerms (c_gcdL (by omega) 224 (by omega) hg2)
        by_cases e : b = 0
        · rw [if_neg (fun z => z e), if_neg (fun z => z e), hc]
          simp only [Option.bind_some]
        · rw [if_pos e, if_pos e, hc]
          simp only [Option.bind_some]
      · obtain ⟨T', g1, g2, g3, g4, g5⟩ := r_tells (d := 70) (t := t) hT' ht hj (hk.trans (s_kp45 (j := 17) (v := -1) rfl)) (by rw [up_rd, if_pos ⟨rfl, rfl⟩])
        have hsum : tb_cI 99 mX8_sum [.ref 45, .int (nI t), .int 1] T = some (nI m, T') := by
          refine MX8_sum ?_
          rw [r_termY hn (by rw [hk.f 0 rfl]; exact hT.2.2.1) ht]
          simp only [Option.bind_some, one0, if_false]
          rw [s_within, b2_t (show (0 : Int32) ≤ 1 ∧ (1 : Int32) ≤ 1 by decide)]
          simp only [Option.bind_some, one0, not_false_eq_true, if_true, g1]
          have hs := r_sumL (d := 98) (w := .int (nI t)) (x2 := 1) g5 224 0 0 rfl
          rw [if_neg (by decide), em] at hs
          exact hs
        refine ⟨T', MX8_odds ?_, (s_kp45 (j := 17) (v := -1) rfl).trans g2⟩
        rw [r_termY hn (by rw [hk.f 0 rfl]; exact hT.2.2.1) ht]
        simp only [Option.bind_some, one0, if_false]
        rw [s_within, b2_t hb]
        simp only [Option.bind_some, one0, not_false_eq_true, if_true, hsum]
        exact r_gcdL 224 m _ (by omega) (by omega) (by omega)
    · refine ⟨(-9223372036854775808 : Int64), ⟨S, MX7_odds ?_, tb_Kp.refl⟩, fun T hJT hk => ⟨T, MX8_odds ?_, tb_Kp.refl⟩⟩
      · rw [c_hasY hn hT.2.1 ht]
        simp only [Option.bind_some, one0, if_false]
        by_cases h0 : b < 0
        · rw [if_pos h0]
        · rw [if_neg h0, if_neg (by grind)]
      · rw [r_termY hn (by rw [hk.f 0 rfl]; exact hT.2.2.1) ht]
        simp only [Option.bind_some, one0, if_false]
        rw [s_within, b2_f hb]
        simp only [Option.bind_some, not_true_eq_false, if_false]
  · refine ⟨(-9223372036854775808 : Int64), ⟨S, MX7_odds ?_, tb_Kp.refl⟩, fun T hJT hk => ⟨T, MX8_odds ?_, tb_Kp.refl⟩⟩
    · rw [c_hasN hT.2.1 hx]
      simp only [Option.bind_some, if_true]
    · rw [r_termN hn (by rw [hk.f 0 rfl]; exact hT.2.2.1) hx]
      simp only [Option.bind_some, if_true]
