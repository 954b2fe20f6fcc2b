/-! Part 64: pair: idle -/
noncomputable def silV (S : tb_St) (q : Nat → Bool) (t c : Nat) : Int32 := ev (S 3) (S 4) (S 5) (S 6) (S 7) (S 8) q (-1) (-5) c 24 t 0
theorem r_askq {d n t c : Nat} {S T : tb_St} {q : Nat → Bool} {w : Int32} (hT : jTS n S) (ht : t < n) (hk : tb_Kp S T) (h19 : S 45 19 = -1) (h17 : T 45 17 = w) (hm : Mt (S 3) (S 6) (S 7) (S 8) q (rof w) 24 t 0 0) (hc : c < 224) : ∃ T', tb_cI (d + 27) mX8_sayOf [.ref 45, .int (nI t), .int (nI c)] T = some (silV S q t c, T') ∧ tb_Kp T T' ∧ T' 45 17 = w ∧ ∀ q, q ≠ 45 → T' q = T q := by
  have hn := hT.1
  have h19' : T 45 19 = -1 := by rw [hk.f 19 rfl]; exact h19
  have hp : ∀ q, 46 ≤ q → q ≤ 50 → T q = S q := fun q h1 h2 => hk.p q (by
    obtain rfl | rfl | rfl | rfl | rfl : q = 46 ∨ q = 47 ∨ q = 48 ∨ q = 49 ∨ q = 50 := by omega
    all_goals rfl)
  have h := r_said (d := d) (q := q) (sf := T 45 19) (sv := T 45 20) (w := w) (c := c) (jts_w hT) (Or.inr (fun t ht z => neg1 (by omega) (z.trans h19'))) (fun t ht z => absurd (z.trans h19') (neg1 (by omega))) hc 24 t 0 0 (tb_up T 45 16 0) (by omega) ht ((r_tab hT hp).keep (fun q h1 h2 => up_ne (by omega))) (by rw [up_rd, if_pos ⟨rfl, rfl⟩]; rfl) (by rw [up_rd, if_neg (by omega)]; exact h17) (by rw [up_rd, if_neg (by omega)]) (by rw [up_rd, if_neg (by omega)]) (by have := jts_z hT ht; omega) hm
  refine ⟨tb_up T 45 16 (nI (0 + wh (S 3) (S 6) (S 7) 24 t)), MX8_sayOf ?_, s_kp45 rfl, by rw [up_rd, if_neg (by omega)]; exact h17, fun q hq => up_ne hq⟩
  rw [h]
  simp only [Option.bind_some, up_up]
  rw [h19', ev_noflat (sw := -5) hn (jts_w hT) (fun t ht => neg1 (by omega)) 24 t 0 ht]
  rfl
theorem r_tells2L {d n t : Nat} {S : tb_St} {q : Nat → Bool} {w : Int32} (hT : jTS n S) (ht : t < n) (h19 : S 45 19 = -1) (hm : Mt (S 3) (S 6) (S 7) (S 8) q (rof w) 24 t 0 0) : ∀ g c T, c + g = 224 → tb_Kp S T → T 45 17 = w → ∃ T', tb_E (d + 27) mX8_tells tb_dV 2 [.ref 45, .int (nI t), .ref 56, .int (nI c)] [] tb_S T = some T' ∧ tb_Kp T T' ∧ T' 45 17 = w ∧ (∀ q, q ≠ 45 → q ≠ 56 → T' q = T q) ∧ ∀ j, j < 224 → T' 56 j = if j < c then T 56 j else silV S q t j := by
  intro g
  induction g with
  | zero =>
    intro c T hc h1 h2
    refine ⟨T, BX8_tells_2_2 ?_, tb_Kp.refl, h2, fun _ _ _ => rfl, fun j hj => by rw [if_pos (by omega)]⟩
    obtain rfl : c = 224 := by omega
    rw [if_pos (show (224 : Int32) ≤ nI 224 by decide)]
  | succ g ih =>
    intro c T hc h1 h2
    obtain ⟨V, v1, v2, v3, v4⟩ := r_askq (d := d) (c := c) hT ht h1 h19 h2 hm (by omega)
    have hk : tb_Kp T (tb_up V 56 c (silV S q t c)) := v2.trans (s_kp rfl)
    obtain ⟨W, w1, w2, w3, w4, w5⟩ := ih (c + 1) (tb_up V 56 c (silV S q t c)) (by omega) (h1.trans hk) (by rw [up_ne (by omega)]; exact v3)
    refine ⟨W, BX8_tells_2_2 ?_, hk.trans w2, w3, fun q q1 q2 => by rw [w4 q q1 q2, up_ne q2, v4 q q1], fun j hj => ?_⟩
    · rw [if_neg (end224 (by omega)), v1]
      simp only [Option.bind_some, n_ix (show c < 224 by omega) (show 224 ≤ 2 ^ 31 by omega), n_inc]
      exact w1
    · rw [w5 j hj, up_rd]
      by_cases e : j = c
      · rw [if_pos (by omega), if_pos ⟨rfl, e⟩, if_neg (by omega), e]
      · by_cases e2 : j < c
        · rw [if_pos (by omega), if_neg (fun z => e z.2), if_pos e2, v4 56 (by omega)]
        · rw [if_neg (by omega), if_neg e2]
theorem r_tells2 {d n t : Nat} {S T : tb_St} {q : Nat → Bool} {w : Int32} (hT : jTS n S) (ht : t < n) (h19 : S 45 19 = -1) (hm : Mt (S 3) (S 6) (S 7) (S 8) q (rof w) 24 t 0 0) (h1 : tb_Kp S T) (h2 : T 45 17 = w) : ∃ T', tb_cV (d + 28) mX8_tells [.ref 45, .int (nI t), .ref 56] T = some T' ∧ tb_Kp T T' ∧ T' 45 17 = w ∧ (∀ q, q ≠ 45 → q ≠ 56 → T' q = T q) ∧ ∀ j, j < 224 → T' 56 j = silV S q t j := by
  obtain ⟨W, w1, w2, w3, w4, w5⟩ := r_tells2L (d := d) hT ht h19 hm 224 0 T rfl h1 h2
  exact ⟨W, MX8_tells_2 w1, w2, w3, w4, fun j hj => by rw [w5 j hj, if_neg (by omega)]⟩
def eqV (a b : Nat → Int32) : Nat → Nat → Bool
  | 0, _ => true
  | g + 1, c => decide (a c = b c) && eqV a b g (c + 1)
theorem c_idleL {d n t p : Nat} {S : tb_St} (hT : jTS n S) (ht : t < n) (hp : p < 1000) : ∀ g c (w3 : Value) S', c + g = 224 → TR S n t (tb_up S' 24 5 (-1)) → S' 24 6 = -1 → ∃ S'', tb_E (d + 5) mX7_isIdle tb_dI 2 [.ref 1, .int (nI p), .int (nI c), w3] [] tb_S S' = some (if eqV (sayV S t) (silV S (fun j => decide (j < 1000 ∧ nI j = nI p)) t) g c = true then 1 else 0, S'') ∧ ∀ q, q ≠ 24 → q ≠ 27 → S'' q = S' q := by
  have hn := hT.1
  intro g
  induction g with
  | zero =>
    intro c w3 S' hc h1 h2
    refine ⟨S', BX7_isIdle_2 ?_, fun _ _ _ => rfl⟩
    obtain rfl : c = 224 := by omega
    rw [if_pos (show (224 : Int32) ≤ nI 224 by decide)]
    rfl
  | succ g ih =>
    intro c w3 S' hc h1 h2
    have s1 : ∀ w S', tb_cV (d + 4 + 1) mX6_silence [.ref 24, .int w] S' = some (tb_up S' 24 5 w) := fun w S' => MX6_silence rfl
    obtain ⟨V, v1, v2, v3, v4⟩ := c_ask (d := d) (c := c) hT ht h1 (by rw [up_rd, if_neg (by omega)]; exact h2) (by omega)
    obtain ⟨i1, i2, i3, i4, i5, i6⟩ := v2
    obtain ⟨W, w1, w2⟩ := c_answer (d := d) (c := c) (S := tb_up V 24 5 (nI p)) (jts_w hT) (i1.keep (fun q hq => up_ne (by omega))) ht (by rw [up_rd, if_neg (by omega)]; exact i2) i3 i4 (by rw [up_ne (by omega), up_ne (by omega)]; exact i5) (fun t ht z => by
      rw [up_rd, if_neg (by omega), v3] at z
      exact absurd z (neg1 (by omega))) (by omega)
    have hq : qof (tb_up V 24 5 (nI p)) = fun j => decide (j < 1000 ∧ nI j = nI p) := by
      funext j
      unfold qof
      rw [up_rd, if_pos ⟨rfl, rfl⟩]
    have e6 : tb_up V 24 5 (nI p) 24 6 = -1 := by rw [up_rd, if_neg (by omega)]; exact v3
    rw [hq, e6, ev_noflat (sw := -5) hn (jts_w hT) (fun t ht => neg1 (by omega)) 24 t 0 ht] at w1
    have w1' : tb_cI (d + 5) mX6_answer [.ref 24, .int (nI c)] (tb_up V 24 5 (nI p)) = some (silV S (fun j => decide (j < 1000 ∧ nI j = nI p)) t c, W) := w1
    have hR : TR S n t (tb_up W 24 5 (-1)) := by
      refine ⟨i1.keep (fun q hq => by rw [up_ne (by omega), w2 q (by omega), up_ne (by omega)]), ?_, i3, i4, ?_, by rw [up_rd, if_pos ⟨rfl, rfl⟩]⟩
      · rw [up_rd, if_neg (by omega), w2 24 (by omega), up_rd, if_neg (by omega)]; exact i2
      · rw [up_ne (by omega), up_ne (by omega), w2 25 (by omega), w2 26 (by omega), up_ne (by omega), up_ne (by omega)]; exact i5
    obtain ⟨X, x1, x2⟩ := ih (c + 1) (.int (sayV S t c)) W (by omega) hR (by rw [w2 24 (by omega)]; exact e6)
    have hWS : ∀ q, q ≠ 24 → q ≠ 27 → W q = S' q := fun q q1 q2 => by rw [w2 q q2, up_ne q1, v4 q q2, up_ne q1]
    unfold eqV
    by_cases e : sayV S t c = silV S (fun j => decide (j < 1000 ∧ nI j = nI p)) t c
    · refine ⟨X, BX7_isIdle_2 ?_, fun q q1 q2 => (x2 q q1 q2).trans (hWS q q1 q2)⟩
      rw [if_neg (end224 (by omega)), s1]
      simp only [Option.bind_some]
      rw [v1]
      simp only [Option.bind_some]
      rw [s1]
      simp only [Option.bind_some]
      rw [w1']
      simp only [Option.bind_some, n_inc]
      rw [if_pos e.symm, x1]
      simp [e]
    · refine ⟨W, BX7_isIdle_2 ?_, hWS⟩
      rw [if_neg (end224 (by omega)), s1]
      simp only [Option.bind_some]
      rw [v1]
      simp only [Option.bind_some]
      rw [s1]
      simp only [Option.bind_some]
      rw [w1']
      simp only [Option.bind_some, n_inc]
      rw [if_neg (fun z => e z.symm), if_neg (fun z => by rw [Bool.and_eq_true, decide_eq_true_iff] at z; exact e z.1)]
theorem r_idleL {d : Nat} {T : tb_St} {a b : Nat → Int32} {w1 w2 : Value} (h1 : ∀ j, j < 224 → T 55 j = a j) (h2 : ∀ j, j < 224 → T 56 j = b j) : ∀ g c, c + g = 224 → tb_E d mX8_idle tb_dI 46 [.ref 45, w1, w2, .int (nI c)] [] tb_S T = some (if eqV a b g c = true then 1 else 0, T) := by
  intro g
  induction g with
  | zero =>
    intro c hc
    refine BX8_idle_46 ?_
    obtain rfl : c = 224 := by omega
    rw [if_pos (show (224 : Int32) ≤ nI 224 by decide)]
    rfl
  | succ g ih =>
    intro c hc
    refine BX8_idle_46 ?_
    rw [if_neg (end224 (by omega)), n_ix (show c < 224 by omega) (by omega)]
    simp only [Option.bind_some, n_inc]
    rw [h1 c (by omega), h2 c (by omega)]
    unfold eqV
    by_cases e : a c = b c
    · rw [if_pos e, ih (c + 1) (by omega)]
      simp [e]
    · rw [if_neg e]
      simp [e]
theorem p_idle : ∀ a b : Int32, tb_PI mX7_idle mX8_idle [.int a, .int b] := by
  intro a b
  refine tb_PI_ask (fun S hJ => ?_)
  obtain ⟨n, hT⟩ := hJ.1
  have hn := hT.1
  have hT' : jTS n S := hT
  have hj := hJ.2.2.2.2.2.2.2
  rcases term_or (n := n) (by omega) a with ⟨t, ht, rfl⟩ | hx
  · obtain ⟨S', h1, h2, h3, h4⟩ := c_open (d := 95) hT' ht
    cases e : fd b (rlS S t) 0 with
    | none =>
      refine ⟨-1, ⟨S', MX7_idle ?_, kp_of (fun q q1 q2 q3 q4 => h4 q q1 q2 q3)⟩, fun T hJT hk => ?_⟩
      · rw [c_hasY hn hT.2.1 ht]
        simp only [Option.bind_some, one0, not_false_eq_true, if_true, h1]
        rw [c_place hT' ht h2, e]
        simp only [Option.bind_some, not_true_eq_false, if_false]
      · by_cases hb : b < 0
        · exact ⟨T, MX8_idle (by rw [if_pos hb]), tb_Kp.refl⟩
        · obtain ⟨T', g1, g2⟩ := r_rule (d := 73) (b := b) hT' ht hk
          refine ⟨T', MX8_idle ?_, g2⟩
          rw [if_neg hb, g1]
          unfold ruleV fdT
          rw [e, if_neg (show ¬ b = -1 from fun z => hb (by rw [z]; decide))]
          simp only [Option.bind_some, not_true_eq_false, if_false]
    | some x =>
      obtain ⟨hm, i, hi, hi2⟩ := fd_some _ _ e
      have hin := rl_in (F := S 4) (B := S 5) (jts_w hT') hn 24 t 0 ht x hm
      have hz := jts_z hT' ht
      have hl := rlS_len hT' ht
      have hb : ¬ b < 0 := by rw [← hi2]; exact n_nlt (by omega)
      refine ⟨if eqV (sayV S t) (silV S (fun j => decide (j < 1000 ∧ nI j = nI x.1)) t) 224 0 = true then 1 else 0, ?_, fun T hJT hk => ?_⟩
      · have hR : TR S n t (tb_up S' 24 5 (-1)) := by rw [up_self h2.2.2.2.2.2]; exact h2
        obtain ⟨W, w1, w2⟩ := c_idleL (d := 93) (p := x.1) hT' ht (by omega) 224 0 tb_jk S' rfl hR h3
        refine ⟨W, MX7_idle ?_, kp_of (fun q q1 q2 q3 q4 => (w2 q q1 q4).trans (h4 q q1 q2 q3))⟩
        rw [c_hasY hn hT.2.1 ht]
        simp only [Option.bind_some, one0, not_false_eq_true, if_true, h1]
        rw [c_place hT' ht h2, e]
        simp only [Option.bind_some]
        rw [if_pos (neg1 (by omega))]
        have hc : tb_cI 99 mX7_isIdle [.ref 1, .int (nI x.1)] S' = _ := MX7_isIdle w1
        rw [hc]
        simp only [Option.bind_some]
        by_cases e3 : eqV (sayV S t) (silV S (fun j => decide (j < 1000 ∧ nI j = nI x.1)) t) 224 0 = true
        · rw [if_pos e3]; simp only [one0, if_false]
        · rw [if_neg e3]; simp only [if_true]
      · obtain ⟨T', g1, g2⟩ := r_rule (d := 73) (b := b) hT' ht hk
        have hmt : Mt (S 3) (S 6) (S 7) (S 8) (fun j => decide (j < 1000 ∧ nI j = nI x.1)) (rof b) 24 t 0 0 := by
          refine mt_of (p := x.1) hn (jts_w hT') (fun j hj => ?_) 24 t 0 0 ht (by omega) (by omega) (Or.inr ⟨x, e, rfl⟩)
          congr 1
          rw [eq_iff_iff]
          exact ⟨fun z => (n_eq (by omega) (by omega)).mp z.2, fun z => ⟨hj, by rw [z]⟩⟩
        have k1 : tb_Kp S (tb_up T' 45 17 (-1)) := (hk.trans g2).trans (s_kp45 rfl)
        obtain ⟨U, u1, u2, u3, u4, u5⟩ := r_tells (d := 71) hT' ht hj k1 (by rw [up_rd, if_pos ⟨rfl, rfl⟩])
        have k2 : tb_Kp S (tb_up U 45 17 b) := (k1.trans u2).trans (s_kp45 rfl)
        obtain ⟨V, v1, v2, v3, v4, v5⟩ := r_tells2 (d := 71) (w := b) hT' ht hj hmt k2 (by rw [up_rd, if_pos ⟨rfl, rfl⟩])
        refine ⟨V, MX8_idle ?_, ((g2.trans (s_kp45 (j := 17) (v := -1) rfl)).trans (u2.trans (s_kp45 (j := 17) (v := b) rfl))).trans v2⟩
        rw [if_neg hb, g1]
        unfold ruleV fdT
        rw [e, if_neg (show ¬ b = -1 from fun z => hb (by rw [z]; decide))]
        simp only [Option.bind_some]
        rw [if_pos (neg1 (by omega)), u1]
        simp only [Option.bind_some]
        rw [v1]
        simp only [Option.bind_some]
        exact r_idleL (fun j hj => by rw [v4 55 (by omega) (by omega), up_ne (by omega)]; exact u5 j hj) v5 224 0 rfl
  · refine ⟨-1, ⟨S, MX7_idle ?_, tb_Kp.refl⟩, fun T hJT hk => ?_⟩
    · rw [c_hasN hT.2.1 hx]
      simp only [Option.bind_some, not_true_eq_false, if_false]
    · by_cases hb : b < 0
      · exact ⟨T, MX8_idle (by rw [if_pos hb]), tb_Kp.refl⟩
      · refine ⟨T, MX8_idle ?_, tb_Kp.refl⟩
        have hr : tb_cI 99 mX8_rule [.ref 45, .int a, .int b] T = some (-1, T) := by
          refine MX8_rule ?_
          rw [r_termN hn (by rw [hk.f 0 rfl]; exact hT.2.2.1) hx]
          simp only [Option.bind_some, not_true_eq_false, if_false]
        rw [if_neg hb, hr]
        simp only [Option.bind_some, not_true_eq_false, if_false]
