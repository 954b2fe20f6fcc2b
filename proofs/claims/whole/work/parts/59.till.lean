/-! Part 59: till -/
theorem and_nn (x : Int32) : 0 ≤ x &&& 2147483647 := by
  rw [Int32.le_iff_toInt_le]
  have h0 : (0 : Int32).toInt = 0 := by decide
  rw [h0]
  show 0 ≤ (x &&& 2147483647).toBitVec.toInt
  rw [Int32.toBitVec_and]
  have hm : (x.toBitVec &&& (2147483647 : Int32).toBitVec).msb = false := by
    rw [BitVec.msb_and]
    have : (2147483647 : Int32).toBitVec.msb = false := by decide
    rw [this, Bool.and_false]
  rw [BitVec.toInt_eq_msb_cond, hm]
  simp
def csV (z : Int32) : Int32 := tb_rem ((z &&& 2147483647) / 256) 224
theorem cs_ok (z : Int32) : ∃ c, c < 224 ∧ csV z = nI c := by
  unfold csV
  rw [n_of (and_nn z)]
  have h := (z &&& 2147483647).toNatClampNeg_lt
  generalize (z &&& 2147483647).toNatClampNeg = m at h
  have hd : m / 256 ≤ m := Nat.div_le_self m 256
  rw [show (256 : Int32) = nI 256 from rfl, show (224 : Int32) = nI 224 from rfl, n_div h (by omega), n_rem (by omega) (by omega)]
  exact ⟨_, Nat.mod_lt _ (by omega), rfl⟩
noncomputable def tlV (S : tb_St) (t : Nat) (x : Int32) : Nat → Int32 → Int32 → Int32 → Int32 → Int32
  | 0, _, a, b, g => if x = 0 then a else if x = 1 then b else g
  | m + 1, z, a, b, g => if sayV S t (csV (z * 1664525 + 1013904223)).toNatClampNeg = -5 then tlV S t x m (z * 1664525 + 1013904223) a (b + 1) g else tlV S t x m (z * 1664525 + 1013904223) (a + sayV S t (csV (z * 1664525 + 1013904223)).toNatClampNeg) b (tb_max g (sayV S t (csV (z * 1664525 + 1013904223)).toNatClampNeg))
theorem c_tillL {d n t N : Nat} {S : tb_St} {x4 : Int32} {w1 w2 : Value} (hT : jTS n S) (ht : t < n) (hN : N ≤ 40) : ∀ m k z a b g (w10 : Value) S', k + m = N → TR S n t S' → S' 24 6 = -1 → ∃ S'', tb_E (d + 5) mX7_till tb_dI 62 [.ref 1, w1, w2, .int (nI N), .int x4, .int z, .int a, .int b, .int g, .int (nI k), w10] [] tb_S S' = some (tlV S t x4 m z a b g, S'') ∧ ∀ q, q ≠ 27 → S'' q = S' q := by
  intro m
  induction m with
  | zero =>
    intro k z a b g w10 S' hk h1 h2
    refine ⟨S', BX7_till_62 ?_, fun _ _ => rfl⟩
    rw [if_pos (n_le' (by omega) (by omega) (by omega))]
    unfold tlV
    by_cases e : x4 = 0
    · rw [if_neg (fun z => z e), if_pos e]
    · rw [if_pos e, if_neg e]
      by_cases e1 : x4 = 1
      · rw [if_neg (fun z => z e1), if_pos e1]
      · rw [if_pos e1, if_neg e1]
  | succ m ih =>
    intro k z a b g w10 S' hk h1 h2
    obtain ⟨c, hc, ec⟩ := cs_ok (z * 1664525 + 1013904223)
    obtain ⟨V, v1, v2, v3, v4⟩ := c_ask (d := d) (c := c) hT ht h1 h2 hc
    unfold tlV
    rw [ec, nI_clamp (by omega)]
    have ec' : tb_rem ((z * 1664525 + 1013904223 &&& 2147483647) / 256) 224 = nI c := ec
    by_cases e : sayV S t c = -5
    · obtain ⟨W, w1, w2⟩ := ih (k + 1) (z * 1664525 + 1013904223) a (b + 1) g (.int (sayV S t c)) V (by omega) v2 v3
      refine ⟨W, BX7_till_62 ?_, fun q hq => (w2 q hq).trans (v4 q hq)⟩
      rw [if_neg (n_nle (by omega) (by omega) (by omega)), ec', v1, if_pos e]
      simp only [Option.bind_some, n_inc]
      rw [if_neg (fun z => z e)]
      exact w1
    · obtain ⟨W, w1, w2⟩ := ih (k + 1) (z * 1664525 + 1013904223) (a + sayV S t c) b (tb_max g (sayV S t c)) (.int (sayV S t c)) V (by omega) v2 v3
      refine ⟨W, BX7_till_62 ?_, fun q hq => (w2 q hq).trans (v4 q hq)⟩
      rw [if_neg (n_nle (by omega) (by omega) (by omega)), ec', v1, if_neg e]
      simp only [Option.bind_some, n_inc]
      rw [if_pos e]
      exact w1
theorem max_m5 {g : Int32} (h : valR g) : tb_max g (-5) = g := by
  unfold tb_max
  rw [if_neg]
  rcases h with rfl | h
  · decide
  · have := (feeOK_0 h).1
    have h5 : (-5 : Int32) < 0 := by decide
    grind
theorem max_val {g v : Int32} (h : valR g) (h2 : valR v) : valR (tb_max g v) := by
  unfold tb_max
  split <;> assumption
theorem r_tillL {d n t N : Nat} {S : tb_St} {x4 : Int32} {w2 : Value} (hT : jTS n S) (ht : t < n) (hN : N ≤ 40) (h19 : S 45 19 = -1) : ∀ m k z a b g (w10 : Value) T, k + m = N → tb_Kp S T → T 45 17 = -1 → valR g → ∃ T', tb_E (d + 27) mX8_till tb_dI 54 [.ref 45, .int (nI t), w2, .int (nI N), .int x4, .int z, .int a, .int b, .int g, .int (nI k), w10] [] tb_S T = some (tlV S t x4 m z a b g, T') ∧ tb_Kp T T' := by
  intro m
  induction m with
  | zero =>
    intro k z a b g w10 T hk h1 h2 hg
    refine ⟨T, BX8_till_54 ?_, tb_Kp.refl⟩
    rw [if_pos (n_le' (by omega) (by omega) (by omega))]
    unfold tlV
    by_cases e : x4 = 0
    · rw [if_neg (fun z => z e), if_pos e]
    · rw [if_pos e, if_neg e]
      by_cases e1 : x4 = 1
      · rw [if_neg (fun z => z e1), if_pos e1]
      · rw [if_pos e1, if_neg e1]
  | succ m ih =>
    intro k z a b g w10 T hk h1 h2 hg
    obtain ⟨c, hc, ec⟩ := cs_ok (z * 1664525 + 1013904223)
    obtain ⟨V, v1, v2, v3, v4⟩ := r_ask (d := d) (c := c) hT ht h1 h19 h2 hc
    unfold tlV
    rw [ec, nI_clamp (by omega)]
    have ec' : tb_rem ((z * 1664525 + 1013904223 &&& 2147483647) / 256) 224 = nI c := ec
    by_cases e : sayV S t c = -5
    · obtain ⟨W, w1, w2⟩ := ih (k + 1) (z * 1664525 + 1013904223) a (b + 1) g (.int (sayV S t c)) V (by omega) (h1.trans v2) v3 hg
      refine ⟨W, BX8_till_54 ?_, v2.trans w2⟩
      rw [if_neg (n_nle (by omega) (by omega) (by omega)), ec', v1, if_pos e]
      simp only [Option.bind_some, n_inc]
      rw [if_neg (fun z => z e), e, max_m5 hg]
      rw [e] at w1
      exact w1
    · obtain ⟨W, w1, w2⟩ := ih (k + 1) (z * 1664525 + 1013904223) (a + sayV S t c) b (tb_max g (sayV S t c)) (.int (sayV S t c)) V (by omega) (h1.trans v2) v3 (max_val hg (say_val hT ht))
      refine ⟨W, BX8_till_54 ?_, v2.trans w2⟩
      rw [if_neg (n_nle (by omega) (by omega) (by omega)), ec', v1, if_neg e]
      simp only [Option.bind_some, n_inc]
      rw [if_pos e]
      exact w1
theorem p_till : ∀ a b c e : Int32, tb_PI mX7_till mX8_till [.int a, .int b, .int c, .int e] := by
  intro a b c e
  refine tb_PI_ask (fun S hJ => ?_)
  obtain ⟨n, hT⟩ := hJ.1
  have hn := hT.1
  have hT' : jTS n S := hT
  have hj := hJ.2.2.2.2.2.2.2
  rcases term_or (n := n) (by omega) a with ⟨t, ht, rfl⟩ | hx
  · by_cases he : 0 ≤ e ∧ e ≤ 2
    · have he0 : ¬ e < 0 := by have := he.1; grind
      by_cases hc : 1 ≤ c ∧ c ≤ 40
      · obtain ⟨N, hN, rfl⟩ := n_of_le (x := c) (n := 40) (by have h1 : (0 : Int32) ≤ 1 := by decide
                                                              have := hc.1; grind) hc.2 (by omega)
        have h40 : nI N ≤ 40 := hc.2
        have h1' : ¬ nI N < 1 := by have := hc.1; grind
        refine ⟨tlV S t e N b 0 0 (-5), ?_, fun T hJT hkp => ?_⟩
        · obtain ⟨S', h1, h2, h3, h4⟩ := c_open (d := 95) hT' ht
          obtain ⟨W, w1, w2⟩ := c_tillL (d := 94) (N := N) (x4 := e) (w1 := .int (nI t)) (w2 := .int b) hT' ht (by omega) N 0 b 0 0 (-5) tb_jk S' (by omega) h2 h3
          refine ⟨W, MX7_till ?_, kp_of (fun q q1 q2 q3 q4 => (w2 q q4).trans (h4 q q1 q2 q3))⟩
          rw [c_hasY hn hT.2.1 ht]
          simp only [Option.bind_some, one0, if_false]
          rw [if_neg he0, if_pos he.2, if_neg h1', if_pos h40, h1]
          exact w1
        · obtain ⟨W, w1, w2⟩ := r_tillL (d := 72) (N := N) (x4 := e) (w2 := .int b) hT' ht (by omega) hj N 0 b 0 0 (-5) tb_jk (tb_up T 45 17 (-1)) (by omega) (hkp.trans (s_kp45 (j := 17) (v := -1) rfl)) (by rw [up_rd, if_pos ⟨rfl, rfl⟩]) (Or.inl rfl)
          refine ⟨W, MX8_till ?_, (s_kp45 (j := 17) (v := -1) rfl).trans w2⟩
          rw [r_termY hn (by rw [hkp.f 0 rfl]; exact hT.2.2.1) ht]
          simp only [Option.bind_some, one0, if_false]
          rw [s_within, b2_t he]
          simp only [Option.bind_some, one0, not_false_eq_true, if_true]
          rw [s_within, b2_t hc]
          simp only [Option.bind_some, one0, not_false_eq_true, if_true]
          exact w1
      · refine ⟨-2, ⟨S, MX7_till ?_, tb_Kp.refl⟩, fun T hJT hkp => ⟨T, MX8_till ?_, tb_Kp.refl⟩⟩
        · rw [c_hasY hn hT.2.1 ht]
          simp only [Option.bind_some, one0, if_false]
          rw [if_neg he0, if_pos he.2]
          by_cases h0 : c < 1
          · rw [if_pos h0]
          · rw [if_neg h0, if_neg (by grind)]
        · rw [r_termY hn (by rw [hkp.f 0 rfl]; exact hT.2.2.1) ht]
          simp only [Option.bind_some, one0, if_false]
          rw [s_within, b2_t he]
          simp only [Option.bind_some, one0, not_false_eq_true, if_true]
          rw [s_within, b2_f hc]
          simp only [Option.bind_some, not_true_eq_false, if_false]
    · refine ⟨-1, ⟨S, MX7_till ?_, tb_Kp.refl⟩, fun T hJT hkp => ⟨T, MX8_till ?_, tb_Kp.refl⟩⟩
      · rw [c_hasY hn hT.2.1 ht]
        simp only [Option.bind_some, one0, if_false]
        by_cases h0 : e < 0
        · rw [if_pos h0]
        · rw [if_neg h0, if_neg (by grind)]
      · rw [r_termY hn (by rw [hkp.f 0 rfl]; exact hT.2.2.1) ht]
        simp only [Option.bind_some, one0, if_false]
        rw [s_within, b2_f he]
        simp only [Option.bind_some, not_true_eq_false, if_false]
  · refine ⟨-1, ⟨S, MX7_till ?_, tb_Kp.refl⟩, fun T hJT hkp => ⟨T, MX8_till ?_, tb_Kp.refl⟩⟩
    · rw [c_hasN hT.2.1 hx]
      simp only [Option.bind_some, if_true]
    · rw [r_termN hn (by rw [hkp.f 0 rfl]; exact hT.2.2.1) hx]
      simp only [Option.bind_some, if_true]
