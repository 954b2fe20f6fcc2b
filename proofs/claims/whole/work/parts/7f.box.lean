/-! Part 7f: reading: a box: both -/
def okL : Nat → Nat → List Nat → Prop
  | _, _, [] => True
  | k, b, v :: l => v ≤ mostN k ∧ (k % 2 = 1 → b ≤ v) ∧ okL (k + 1) v l
def valL : Nat → List Nat → Nat
  | a, [] => a
  | a, v :: l => valL (10 * a + v) l
theorem c_boxD {d : Nat} {x1 x2 x3 : Int32} {w4 : Value} {S : tb_St} (h : ¬ S 32 7 = -1) : tb_E d mX4_readBox tb_dI 6 [.ref 32, .int x1, .int x2, .int x3, w4] [] tb_S S = some (x1, S) := by
  refine BX4_readBox_6 ?_
  by_cases e : (6 : Int32) ≤ x3
  · rw [if_pos e]
  · rw [if_neg e, if_pos h]
theorem not_can {x : Int32} {k : Nat} {a : Nat} (h : ¬ (48 ≤ x ∧ x ≤ 57)) : ¬ ((if k % 2 = 0 then (0 : Int32) else nI a) ≤ x - 48 ∧ x - 48 ≤ nI (mostN k)) ∨ ¬ (a < 2 ^ 31) := by
  by_cases ha : a < 2 ^ 31
  · refine Or.inl ?_
    rintro ⟨h1, h2⟩
    have hm := most_le k
    have h0 : 0 ≤ x - 48 := by
      by_cases e : k % 2 = 0
      · rw [if_pos e] at h1; exact h1
      · rw [if_neg e] at h1
        have := n_nn (k := a) ha
        grind
    obtain ⟨v, hv, e⟩ := n_of_le (x := x - 48) (n := mostN k) h0 h2 (by omega)
    have ex : x = nI (48 + v) := by
      rw [← n_add (a := 48) (by omega), ← e, show nI 48 = (48 : Int32) from rfl]
      grind
    rw [ex] at h
    exact h (fig_in (by omega))
  · exact Or.inr ha
theorem rem2 {k : Nat} (hk : k < 1000) : tb_rem (nI k) 2 = nI (k % 2) := by
  rw [show (2 : Int32) = nI 2 from rfl, n_rem (by omega) (by omega)]
theorem box_pairL {n len m w : Nat} {tp : Nat → Int32} : ∀ g k acc bef p S T, k + g = 6 → acc < 10 ^ k → bef ≤ 9 → Rb n len tp p m S T → St w S T →
    (∃ L, L.length = g ∧ okL k bef L ∧ p + g ≤ len ∧ (∀ d (w4 : Value), tb_E (d + 2) mX4_readBox tb_dI 6 [.ref 32, .int (nI acc), .int (nI bef), .int (nI k), w4] [] tb_S S = some (nI (valL acc L), tb_up S 32 5 (nI (p + g)))) ∧ (∀ d (w4 : Value), tb_E (d + 3) mX8_boxThere tb_dI 6 [.ref 45, .int (nI acc), .int (nI bef), .int (nI k), w4] [] tb_S T = some (nI (valL acc L), tb_up T 45 23 (nI (p + g))))) ∨
    (∃ b S' T', (∀ d (w4 : Value), tb_E (d + 2) mX4_readBox tb_dI 6 [.ref 32, .int (nI acc), .int (nI bef), .int (nI k), w4] [] tb_S S = some (b, S')) ∧ (∀ d (w4 : Value), tb_E (d + 3) mX8_boxThere tb_dI 6 [.ref 45, .int (nI acc), .int (nI bef), .int (nI k), w4] [] tb_S T = some (-1, T')) ∧ Flt n S' T' ∧ CF S S' ∧ RF T T' ∧ ¬ S' 32 7 = -1) := by
  intro g
  induction g with
  | zero =>
    intro k acc bef p S T hk hacc hbef h hS
    obtain rfl : k = 6 := by omega
    refine Or.inl ⟨[], rfl, trivial, h.1.2.1, fun d w4 => BX4_readBox_6 ?_, fun d w4 => BX8_boxThere_6 ?_⟩
    · rw [if_pos (by decide), Nat.add_zero, up_self h.1.2.2.2.1]
      rfl
    · rw [if_pos (by decide), Nat.add_zero, up_self h.2.1.2.2.2.1]
      rfl
  | succ g ih =>
    intro k acc bef p S T hk hacc hbef h hS
    have hc := h.1
    have hr := h.2.1
    have h7 := h.2.2.2.2.2.1
    have hl := hc.1
    have hp := hc.2.1
    have e5 := hc.2.2.2.1
    have e23 := hr.2.2.2.1
    have k6 : ¬ (6 : Int32) ≤ nI k := n_nle (a := 6) (by omega) (by omega) (by omega)
    have h10 : (10 : Nat) ^ k ≤ 10 ^ 5 := Nat.pow_le_pow_right (by omega) (by omega)
    have hpow : (10 : Nat) ^ (k + 1) = 10 * 10 ^ k := Nat.pow_succ'
    have hm7 := most_le k
    obtain ⟨S', f1, f2, f3, f4⟩ := flt_at (f := p) h hS (by omega)
    -- both fail here
    have bad : (¬ ((if k % 2 = 0 then (0 : Int32) else nI bef) ≤ chA len p tp - 48 ∧ chA len p tp - 48 ≤ nI (mostN k))) → (∀ d (w4 : Value), tb_E (d + 3) mX8_boxThere tb_dI 6 [.ref 45, .int (nI acc), .int (nI bef), .int (nI k), w4] [] tb_S T = some (-1, tb_up T 45 28 (nI p))) → (∃ b S' T', (∀ d (w4 : Value), tb_E (d + 2) mX4_readBox tb_dI 6 [.ref 32, .int (nI acc), .int (nI bef), .int (nI k), w4] [] tb_S S = some (b, S')) ∧ (∀ d (w4 : Value), tb_E (d + 3) mX8_boxThere tb_dI 6 [.ref 45, .int (nI acc), .int (nI bef), .int (nI k), w4] [] tb_S T = some (-1, T')) ∧ Flt n S' T' ∧ CF S S' ∧ RF T T' ∧ ¬ S' 32 7 = -1) := by
      intro hcan hR
      refine ⟨(10 : Int32) * nI acc + (chA len p tp - 48), S', tb_up T 45 28 (nI p), fun d w4 => BX4_readBox_6 ?_, hR, f2, f3, RF.up45 (by omega), f4⟩
      rw [if_neg k6, if_neg (fun z => z h7), c_here hc]
      simp only [Option.bind_some]
      rw [c_canBe (by omega), b2_f hcan]
      simp only [Option.bind_some, if_true]
      rw [e5, f1]
      simp only [Option.bind_some]
      refine BX4_readBox_60 ?_
      exact c_boxD f4
    rcases fig_or (chA len p tp) with ⟨v, hv, hch⟩ | hch
    · have hlt := fig_lt' hch hv
      have hcanI : ((if k % 2 = 0 then (0 : Int32) else nI bef) ≤ chA len p tp - 48 ∧ chA len p tp - 48 ≤ nI (mostN k)) ↔ (v ≤ mostN k ∧ (k % 2 = 1 → bef ≤ v)) := by
        rw [hch, fig_v hv, n_le (by omega) (by omega)]
        by_cases e : k % 2 = 0
        · rw [if_pos e]
          exact ⟨fun z => ⟨z.2, fun y => by omega⟩, fun z => ⟨n_nn (by omega), z.1⟩⟩
        · rw [if_neg e, n_le (by omega) (by omega)]
          exact ⟨fun z => ⟨z.2, fun _ => z.1⟩, fun z => ⟨z.2 (by omega), z.1⟩⟩
      have hR0 : ∀ d r, (if nI (mostN k) < nI v then some ((-1 : Int32), tb_up T 45 28 (nI p)) else (if ¬ nI (k % 2) = (1 : Int32) then tb_E (d + 3) mX8_boxThere tb_dI 60 [.ref 45, .int (nI acc), .int (nI bef), .int (nI k), .int (nI v)] [] tb_S T else (if nI bef ≤ nI v then tb_E (d + 3) mX8_boxThere tb_dI 60 [.ref 45, .int (nI acc), .int (nI bef), .int (nI k), .int (nI v)] [] tb_S T else some ((-1 : Int32), tb_up T 45 28 (nI p))))) = some r → ∀ w4 : Value, tb_E (d + 3) mX8_boxThere tb_dI 6 [.ref 45, .int (nI acc), .int (nI bef), .int (nI k), w4] [] tb_S T = some r := by
        intro d r hr' w4
        refine BX8_boxThere_6 ?_
        rw [if_neg k6, r_next hr]
        simp only [Option.bind_some]
        rw [r_isFig hr, hch, b2_t (fig_in hv)]
        simp only [Option.bind_some, one0, if_false]
        rw [r_most (by omega), fig_v hv]
        simp only [Option.bind_some]
        rw [rem2 (by omega), e23]
        exact hr'
      by_cases hQ : v ≤ mostN k ∧ (k % 2 = 1 → bef ≤ v)
      · have hcan := hcanI.mpr hQ
        have hacc' : (10 : Int32) * nI acc + nI v = nI (10 * acc + v) := by
          rw [show (10 : Int32) = nI 10 from rfl, n_mul (by omega) (by omega) (by omega), n_add (by omega)]
        have hC0 : ∀ d r, tb_E (d + 2) mX4_readBox tb_dI 6 [.ref 32, .int (nI (10 * acc + v)), .int (nI v), .int (nI (k + 1)), .int (nI v)] [] tb_S (tb_up S 32 5 (nI (p + 1))) = some r → ∀ w4 : Value, tb_E (d + 2) mX4_readBox tb_dI 6 [.ref 32, .int (nI acc), .int (nI bef), .int (nI k), w4] [] tb_S S = some r := by
          intro d r hr' w4
          refine BX4_readBox_6 ?_
          rw [if_neg k6, if_neg (fun z => z h7), c_here hc]
          simp only [Option.bind_some]
          rw [c_canBe (by omega), b2_t hcan]
          simp only [Option.bind_some, one0, if_false]
          rw [hch, fig_v hv, e5]
          refine BX4_readBox_60 ?_
          rw [hacc', n_inc, n_inc]
          exact hr'
        have hR1 : ∀ d r, tb_E (d + 3) mX8_boxThere tb_dI 6 [.ref 45, .int (nI (10 * acc + v)), .int (nI v), .int (nI (k + 1)), .int (nI v)] [] tb_S (tb_up T 45 23 (nI (p + 1))) = some r → ∀ w4 : Value, tb_E (d + 3) mX8_boxThere tb_dI 6 [.ref 45, .int (nI acc), .int (nI bef), .int (nI k), w4] [] tb_S T = some r := by
          intro d r hr' w4
          refine hR0 d r ?_ w4
          have h60 : tb_E (d + 3) mX8_boxThere tb_dI 60 [.ref 45, .int (nI acc), .int (nI bef), .int (nI k), .int (nI v)] [] tb_S T = some r := by
            refine BX8_boxThere_60 ?_
            rw [hacc', n_inc, e23, n_inc]
            exact hr'
          rw [if_neg (fun z => by rw [n_lt (by omega) (by omega)] at z; omega), h60]
          by_cases e : k % 2 = 1
          · rw [if_neg (fun z => z (by rw [e]; rfl)), if_pos ((n_le (by omega) (by omega)).mpr (hQ.2 e))]
          · rw [if_pos (by rw [show (1 : Int32) = nI 1 from rfl, n_eq (by omega) (by omega)]; exact e)]
        rcases ih (k + 1) (10 * acc + v) v (p + 1) (tb_up S 32 5 (nI (p + 1))) (tb_up T 45 23 (nI (p + 1))) (by omega) (by omega) hv (h.to (by omega) (by omega)) hS.to with ⟨L, l1, l2, l3, l4, l5⟩ | ⟨b, U, V, g1, g2, g3, g4, g5, g6⟩
        · refine Or.inl ⟨v :: L, by rw [List.length_cons, l1], ⟨hQ.1, hQ.2, l2⟩, by omega, fun d w4 => hC0 d _ ?_ w4, fun d w4 => hR1 d _ ?_ w4⟩
          · rw [l4 d, up_up, show p + 1 + g = p + (g + 1) by omega]
            rfl
          · rw [l5 d, up_up, show p + 1 + g = p + (g + 1) by omega]
            rfl
        · exact Or.inr ⟨b, U, V, fun d w4 => hC0 d _ (g1 d _) w4, fun d w4 => hR1 d _ (g2 d _) w4, g3, CF.up32.trans g4, (RF.up45 (by omega)).trans g5, g6⟩
      · refine Or.inr (bad (fun z => hQ (hcanI.mp z)) (fun d w4 => hR0 d _ ?_ w4))
        by_cases e1 : v ≤ mostN k
        · rw [if_neg (fun z => by rw [n_lt (by omega) (by omega)] at z; omega)]
          have e2 : k % 2 = 1 ∧ ¬ bef ≤ v := by
            constructor
            · by_cases e : k % 2 = 1
              · exact e
              · exact absurd ⟨e1, fun z => absurd z e⟩ hQ
            · exact fun z => hQ ⟨e1, fun _ => z⟩
          rw [if_neg (fun z => z (by rw [e2.1]; rfl)), if_neg (fun z => e2.2 ((n_le (by omega) (by omega)).mp z))]
        · rw [if_pos ((n_lt (by omega) (by omega)).mpr (by omega))]
    · refine Or.inr (bad ?_ (fun d w4 => BX8_boxThere_6 ?_))
      · rcases not_can (k := k) (a := bef) hch with z | z
        · exact z
        · exact absurd (by omega) z
      · rw [if_neg k6, r_next hr]
        simp only [Option.bind_some]
        rw [r_isFig hr, b2_f hch]
        simp only [Option.bind_some, if_true]
        rw [e23]
theorem box_pair {n len m w p : Nat} {tp : Nat → Int32} {S T : tb_St} (h : Rb n len tp p m S T) (hS : St w S T) :
    (∃ b p', boxOK b ∧ ¬ b = -1 ∧ p < p' ∧ p' ≤ len ∧ (∀ d, tb_cI (d + 3) mX4_readBox [.ref 32] S = some (b, tb_up S 32 5 (nI p'))) ∧ (∀ d, tb_cI (d + 4) mX8_boxThere [.ref 45] T = some (b, tb_up T 45 23 (nI p')))) ∨
    (∃ b S' T', (∀ d, tb_cI (d + 3) mX4_readBox [.ref 32] S = some (b, S')) ∧ (∀ d, tb_cI (d + 4) mX8_boxThere [.ref 45] T = some (-1, T')) ∧ Flt n S' T' ∧ CF S S' ∧ RF T T' ∧ ¬ S' 32 7 = -1) := by
  rcases box_pairL 6 0 0 0 p S T rfl (by omega) (by omega) h hS with ⟨L, l1, l2, l3, l4, l5⟩ | ⟨b, S', T', g1, g2, g3⟩
  · refine Or.inl ⟨nI (valL 0 L), p + 6, ?_, ?_, by omega, l3, fun d => MX4_readBox (l4 d _), fun d => MX8_boxThere (l5 d _)⟩
    · match L, l1, l2 with
      | [a0, a1, a2, a3, a4, a5], _, l2 =>
        obtain ⟨q0, -, q1, q1', q2, -, q3, q3', q4, -, q5, q5', -⟩ := l2
        simp [mostN] at q0 q1 q1' q2 q3 q3' q4 q5 q5'
        refine ⟨a0, a1, a2, a3, a4, a5, q1', q1, q3', q3, q5', q5, ?_⟩
        congr 1
        simp only [valL, bx]
        omega
    · match L, l1, l2 with
      | [a0, a1, a2, a3, a4, a5], _, l2 =>
        obtain ⟨q0, -, q1, q1', q2, -, q3, q3', q4, -, q5, q5', -⟩ := l2
        simp [mostN] at q0 q1 q1' q2 q3 q3' q4 q5 q5'
        refine n_ne_neg ?_ (by decide)
        simp only [valL]
        omega
  · exact Or.inr ⟨b, S', T', fun d => MX4_readBox (g1 d _), fun d => MX8_boxThere (g2 d _), g3⟩
