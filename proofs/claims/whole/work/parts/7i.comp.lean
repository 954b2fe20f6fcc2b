/-! Part 7i: reading: a term made of others: both -/
theorem kindOK.ne {k x3 fee box : Int32} (h : kindOK k x3 fee box) : ¬ box = -1 := by
  rcases h with ⟨-, ⟨a0, a1, e0, e1, h0, h1, q1, q2, q3, q4, q5, q6, rfl⟩, -⟩ | ⟨-, -, -, rfl⟩
  · exact n_ne_neg (by unfold bx; omega) (by decide)
  · decide
theorem c_deadX {d : Nat} {S : tb_St} {k x2 x3 box fee y : Int32} {w6 w7 : Value} (h : ¬ S 32 7 = -1) : (if x2 < (6 : Int32) then tb_E (d + 1) mX4_readComposed tb_dI 72 [.ref 32, .int k, .int x2, .int x3, .int box, .int fee, w6, w7] [] tb_S S else (tb_cV (d + 1) mX4_fail [.ref 32, .int y] S).bind fun q69 => tb_E (d + 1) mX4_readComposed tb_dI 72 [.ref 32, .int k, .int x2, .int x3, .int box, .int fee, w6, w7] [] tb_S q69) = some (-1, S) := by
  by_cases e : x2 < (6 : Int32)
  · rw [if_pos e]
    exact c_dead72 h
  · rw [if_neg e, c_failD h]
    exact c_dead72 h
section Comp
variable {n len w g p m : Nat} {tp : Nat → Int32} {S T : tb_St} {k x3 fee box : Int32}
theorem sim_open (hI : w = 6 ∨ (w < 6 ∧ ∃ g', g = g' + 1 ∧ SimH n len tp g' (w + 1))) (hk : kindOK k x3 fee box) (h : Rb n len tp p m S T) (hS : St (w + 1) S T) :
    ∃ v S' v' T', (∀ d (w6 w7 : Value), (if nI w < (6 : Int32) then tb_E (d + 2 * g + 6) mX4_readComposed tb_dI 72 [.ref 32, .int k, .int (nI w), .int x3, .int box, .int fee, w6, w7] [] tb_S S else (tb_cV (d + 2 * g + 6) mX4_fail [.ref 32, .int (S 32 5)] S).bind fun q69 => tb_E (d + 2 * g + 6) mX4_readComposed tb_dI 72 [.ref 32, .int k, .int (nI w), .int x3, .int box, .int fee, w6, w7] [] tb_S q69) = some (v, S')) ∧ (∀ d (w5 w6 : Value), tb_E (d + g + 7) mX8_term tb_dI 270 [.ref 45, .int (nI w), .int k, .int box, .int fee, w5, w6] [] tb_S T = some (v', T')) ∧ OutC n len tp p m w S T v S' v' T' := by
  rcases hI with rfl | ⟨hw, g', rfl, hI⟩
  · have hl := h.1.1
    have hp := h.1.2.1
    have e5 := h.1.2.2.2.1
    have e23 := h.2.1.2.2.2.1
    obtain ⟨U, f1, f2, f3, f4⟩ := flt_at (f := p) h hS (by omega)
    refine ⟨-1, U, -1, tb_up T 45 28 (nI p), fun d w6 w7 => ?_, fun d w5 w6 => BX8_term_270 ?_, f3, RF.up45 (by omega), Or.inl ⟨rfl, f2⟩⟩
    · rw [if_neg (show ¬ nI 6 < (6 : Int32) by decide), e5, f1]
      exact c_dead72 f4
    · rw [if_neg (show ¬ ¬ nI 6 = (6 : Int32) by decide), r_next h.2.1]
      simp only [Option.bind_some]
      by_cases e : chA len p tp = 40
      · rw [if_neg (fun z => z e), e23]
      · rw [if_pos e]
        refine BX8_term_295 ?_
        rw [r_isN h.2.1 e]
        simp only [Option.bind_some, not_true_eq_false, if_false]
  · obtain ⟨v, S', v', T', a1, a2, a3⟩ := sim_args hI hw hk h hS
    refine ⟨v, S', v', T', fun d w6 w7 => ?_, fun d w5 w6 => ?_, a3⟩
    · rw [if_pos (show nI w < (6 : Int32) from (n_lt (b := 6) (by omega) (by omega)).mpr hw), show d + 2 * (g' + 1) + 6 = d + 2 * g' + 8 by omega]
      exact a1 _ _ _
    · rw [show d + (g' + 1) + 7 = d + g' + 8 by omega]
      refine BX8_term_270 ?_
      rw [if_pos (show ¬ nI w = (6 : Int32) by rw [show (6 : Int32) = nI 6 from rfl, n_eq (by omega) (by omega)]; omega)]
      exact a2 _ _ _
theorem sim_fee (hI : w = 6 ∨ (w < 6 ∧ ∃ g', g = g' + 1 ∧ SimH n len tp g' (w + 1))) (hk : (x3 = 1 ∧ boxOK box ∧ (k = 2 ∨ k = 6)) ∨ (x3 = 0 ∧ (k = 3 ∨ k = 4 ∨ k = 5 ∨ k = 7) ∧ box = -5)) (h : Rb n len tp p m S T) (hS : St (w + 1) S T) :
    ∃ v S' v' T', (∀ d (w4 w5 w6 w7 : Value), tb_E (d + 2 * g + 6) mX4_readComposed tb_dI 30 [.ref 32, .int k, .int (nI w), .int x3, w4, w5, w6, w7] [.int box] tb_S S = some (v, S')) ∧ (∀ d (w3 w4 w5 w6 : Value), tb_E (d + g + 7) mX8_term tb_dI 224 [.ref 45, .int (nI w), .int k, w3, w4, w5, w6] [.int box] tb_S T = some (v', T')) ∧ OutC n len tp p m w S T v S' v' T' := by
  by_cases e6 : k = 6
  · subst e6
    have hb : x3 = 1 ∧ boxOK box := by
      rcases hk with ⟨h1, h2, -⟩ | ⟨-, h2, -⟩
      · exact ⟨h1, h2⟩
      · rcases h2 with h2 | h2 | h2 | h2 <;> exact absurd h2 (by decide)
    obtain ⟨rfl, hb⟩ := hb
    have hbne : ¬ box = -1 := kindOK.ne (k := 2) (fee := -5) (Or.inl ⟨rfl, hb, Or.inl ⟨rfl, rfl⟩⟩)
    rcases go_pair (x := 58) h hS (by decide) with ⟨-, g2, g3, g4, g5⟩ | ⟨U, g1, g2, g3, g4, g5⟩
    · have kA : KW S (tb_up S 32 5 (nI (p + 1))) := KW.up32 (by omega)
      have cA : CF S (tb_up S 32 5 (nI (p + 1))) := CF.up32
      have rB : RF T (tb_up T 45 23 (nI (p + 1))) := RF.up45 (by omega)
      have fA : tb_up S 32 5 (nI (p + 1)) 32 8 = S 32 8 := by rw [up_rd, if_neg (by omega)]
      generalize tb_up S 32 5 (nI (p + 1)) = A at *
      generalize tb_up T 45 23 (nI (p + 1)) = B at *
      have hl := g4.1.1
      have hp := g4.1.2.1
      have hC : ∀ d r (w4 w5 w6 w7 : Value), (tb_cI (d + 2 * g + 6) mX4_readNumber [.ref 32] A).bind (fun q48 => (if nI w < (6 : Int32) then tb_E (d + 2 * g + 6) mX4_readComposed tb_dI 72 [.ref 32, .int (6 : Int32), .int (nI w), .int (1 : Int32), .int box, .int (q48.1), w6, w7] [] tb_S (q48.2) else (tb_cV (d + 2 * g + 6) mX4_fail [.ref 32, .int ((q48.2) 32 5)] (q48.2)).bind fun q69 => tb_E (d + 2 * g + 6) mX4_readComposed tb_dI 72 [.ref 32, .int (6 : Int32), .int (nI w), .int (1 : Int32), .int box, .int (q48.1), w6, w7] [] tb_S q69)) = some r → tb_E (d + 2 * g + 6) mX4_readComposed tb_dI 30 [.ref 32, .int (6 : Int32), .int (nI w), .int (1 : Int32), w4, w5, w6, w7] [.int box] tb_S S = some r := by
        intro d r w4 w5 w6 w7 hr
        refine BX4_readComposed_30 ?_
        rw [if_neg (fun z => z rfl), g2]
        simp only [Option.bind_some, one0, if_false]
        exact hr
      have hR : ∀ d r (w3 w4 w5 w6 : Value), (tb_cI (d + g + 7) mX8_number [.ref 45] B).bind (fun q255 => (tb_cI (d + g + 7) mX8_ends [.ref 45, .int (q255.1)] (q255.2)).bind fun q258 => (if 0 ≤ q258.1 then tb_E (d + g + 7) mX8_term tb_dI 270 [.ref 45, .int (nI w), .int (6 : Int32), .int box, .int (q258.1), w5, w6] [] tb_S (q258.2) else some ((-1 : Int32), q258.2))) = some r → tb_E (d + g + 7) mX8_term tb_dI 224 [.ref 45, .int (nI w), .int (6 : Int32), w3, w4, w5, w6] [.int box] tb_S T = some r := by
        intro d r w3 w4 w5 w6 hr
        refine BX8_term_224 ?_
        rw [if_pos hbne, if_neg (fun z => z rfl), g3]
        simp only [Option.bind_some, one0, not_false_eq_true, if_true]
        exact hr
      rcases fig_or (chA len (p + 1) tp) with ⟨v, hv, hch⟩ | hch
      · obtain ⟨x, p', hx, hp1, hp2, n1, n2⟩ := num_ok g4.1 g4.2.1 hch hv
        have hR2 := g4.to (p' := p') (by omega) hp2
        have hS2 := g5.to (p' := p')
        have kA2 : KW A (tb_up A 32 5 (nI p')) := KW.up32 (by omega)
        have cA2 : CF A (tb_up A 32 5 (nI p')) := CF.up32
        have rB2 : RF B (tb_up B 45 23 (nI p')) := RF.up45 (by omega)
        have fA2 : tb_up A 32 5 (nI p') 32 8 = A 32 8 := by rw [up_rd, if_neg (by omega)]
        generalize tb_up A 32 5 (nI p') = A2 at *
        generalize tb_up B 45 23 (nI p') = B2 at *
        have e5 := hR2.1.2.2.2.1
        by_cases h3 : 48 ≤ chA len p' tp ∧ chA len p' tp ≤ 57
        · obtain ⟨U, f1, f2, f3, f4⟩ := flt_at (f := p') hR2 hS2 (by omega)
          refine ⟨-1, U, -1, tb_up B2 45 28 (nI p'), fun d w4 w5 w6 w7 => hC d _ w4 w5 w6 w7 ?_, fun d w3 w4 w5 w6 => hR d _ w3 w4 w5 w6 ?_, (cA.trans cA2).trans f3, (rB.trans rB2).trans (RF.up45 (by omega)), Or.inl ⟨rfl, f2⟩⟩
          · rw [n1]
            simp only [Option.bind_some]
            by_cases e : nI w < (6 : Int32)
            · rw [if_pos e]
              refine BX4_readComposed_72 ?_
              rw [c_goN hR2.1 hR2.2.2.2.2.2.1 (fun z => by rw [z] at h3; exact absurd h3 (by decide)) f1 f4]
              simp only [Option.bind_some, not_true_eq_false, if_false]
            · rw [if_neg e, e5, f1]
              exact c_dead72 f4
          · rw [n2]
            simp only [Option.bind_some]
            rw [r_endN hR2.2.1 hx h3]
            simp only [Option.bind_some]
            rw [if_neg not0m1]
        · obtain ⟨v, S', v', T', a1, a2, a3, a4, a5⟩ := sim_open (k := 6) (x3 := 1) (fee := nI x) (box := box) hI (Or.inl ⟨rfl, hb, Or.inr ⟨rfl, x, hx, rfl⟩⟩) hR2 hS2
          refine ⟨v, S', v', T', fun d w4 w5 w6 w7 => hC d _ w4 w5 w6 w7 ?_, fun d w3 w4 w5 w6 => hR d _ w3 w4 w5 w6 ?_, (cA.trans cA2).trans a3, (rB.trans rB2).trans a4, ?_⟩
          · rw [n1]
            simp only [Option.bind_some]
            exact a1 _ _ _
          · rw [n2]
            simp only [Option.bind_some]
            rw [r_endY hR2.2.1 hx h3]
            simp only [Option.bind_some]
            rw [if_pos (nI0 x (by omega))]
            exact a2 _ _ _
          · rcases a5 with z5 | ⟨q', m', y, l1, l2, l3, l4, l5, l6, l7, l8, l9, l10⟩
            · exact Or.inl z5
            · exact Or.inr ⟨q', m', y, by omega, by omega, l3, l4, l5, l6, (kA.trans kA2).trans l7, l8, l9, fun z => ⟨by rw [← fA, ← fA2]; exact (l10 z).1, (l10 z).2⟩⟩
      · obtain ⟨U, f1, f2, f3, f4⟩ := flt_at (f := p + 1) g4 g5 (by omega)
        refine ⟨-1, U, -1, tb_up B 45 28 (nI (p + 1)), fun d w4 w5 w6 w7 => hC d _ w4 w5 w6 w7 ?_, fun d w3 w4 w5 w6 => hR d _ w3 w4 w5 w6 ?_, cA.trans f3, rB.trans (RF.up45 (by omega)), Or.inl ⟨rfl, f2⟩⟩
        · rw [num_noC g4.1 hch (f1 _)]
          simp only [Option.bind_some]
          exact c_deadX f4
        · rw [num_noR g4.2.1 hch]
          simp only [Option.bind_some]
          rw [r_endM]
          simp only [Option.bind_some]
          rw [if_neg not0m1]
    · refine ⟨-1, U, -1, tb_up T 45 28 (nI p), fun d w4 w5 w6 w7 => BX4_readComposed_30 ?_, fun d w3 w4 w5 w6 => BX8_term_224 ?_, g4, RF.up45 (by omega), Or.inl ⟨rfl, g3⟩⟩
      · rw [if_neg (fun z => z rfl), g1]
        simp only [Option.bind_some, if_true]
        exact c_dead54 g5
      · rw [if_pos hbne, if_neg (fun z => z rfl), g2]
        simp only [Option.bind_some, not_true_eq_false, if_false]
  · have hkk : kindOK k x3 (-5) box := by
      rcases hk with ⟨h1, h2, h3 | h3⟩ | ⟨h1, h2, h3⟩
      · exact Or.inl ⟨h1, h2, Or.inl ⟨h3, rfl⟩⟩
      · exact absurd h3 e6
      · exact Or.inr ⟨h1, h2, rfl, h3⟩
    obtain ⟨v, S', v', T', a1, a2, a3⟩ := sim_open (fee := -5) hI hkk h hS
    refine ⟨v, S', v', T', fun d w4 w5 w6 w7 => BX4_readComposed_30 ?_, fun d w3 w4 w5 w6 => BX8_term_224 ?_, a3⟩
    · rw [if_pos e6]
      exact BX4_readComposed_54 (a1 _ _ _)
    · rw [if_pos hkk.ne, if_pos e6]
      exact a2 _ _ _
theorem sim_comp (hI : w = 6 ∨ (w < 6 ∧ ∃ g', g = g' + 1 ∧ SimH n len tp g' (w + 1))) (hk : k = 2 ∨ k = 3 ∨ k = 4 ∨ k = 5 ∨ k = 6 ∨ k = 7) (h : Rb n len tp p m S T) (hS : St (w + 1) S T) :
    ∃ v S' v' T', (∀ d, tb_cI (d + 2 * g + 7) mX4_readComposed [.ref 32, .int k, .int (nI w)] S = some (v, S')) ∧ (∀ d, ((tb_cI (d + g + 7) mX8_ofOne [.int k] T).bind fun q209 => (if q209.1 = 0 then tb_E (d + g + 7) mX8_term tb_dI 224 [.ref 45, .int (nI w), .int k, tb_jk, tb_jk, tb_jk, tb_jk] [.int (-5 : Int32)] tb_S (q209.2) else (tb_cI (d + g + 7) mX8_boxThere [.ref 45] (q209.2)).bind fun q216 => tb_E (d + g + 7) mX8_term tb_dI 224 [.ref 45, .int (nI w), .int k, tb_jk, tb_jk, tb_jk, tb_jk] [.int (q216.1)] tb_S (q216.2))) = some (v', T')) ∧ OutC n len tp p m w S T v S' v' T' := by
  by_cases e : k = 2 ∨ k = 6
  · have hC : ∀ d r, (tb_cI (d + 2 * g + 6) mX4_readBox [.ref 32] S).bind (fun q22 => tb_E (d + 2 * g + 6) mX4_readComposed tb_dI 30 [.ref 32, .int k, .int (nI w), .int (1 : Int32), tb_jk, tb_jk, tb_jk, tb_jk] [.int (q22.1)] tb_S (q22.2)) = some r → tb_cI (d + 2 * g + 7) mX4_readComposed [.ref 32, .int k, .int (nI w)] S = some r := by
      intro d r hr
      have h11 : tb_E (d + 2 * g + 6) mX4_readComposed tb_dI 11 [.ref 32, .int k, .int (nI w), tb_jk, tb_jk, tb_jk, tb_jk, tb_jk] [] tb_S S = some r := by
        refine BX4_readComposed_11 ?_
        rw [if_neg (by decide)]
        exact hr
      refine MX4_readComposed (d := d + 2 * g + 6) ?_
      rw [h11]
      rcases e with e | e
      · rw [if_pos e]
      · rw [if_neg (by rw [e]; decide), if_neg (fun z => z e)]
    have hR : ∀ d r, (tb_cI (d + g + 7) mX8_boxThere [.ref 45] T).bind (fun q216 => tb_E (d + g + 7) mX8_term tb_dI 224 [.ref 45, .int (nI w), .int k, tb_jk, tb_jk, tb_jk, tb_jk] [.int (q216.1)] tb_S (q216.2)) = some r → ((tb_cI (d + g + 7) mX8_ofOne [.int k] T).bind fun q209 => (if q209.1 = 0 then tb_E (d + g + 7) mX8_term tb_dI 224 [.ref 45, .int (nI w), .int k, tb_jk, tb_jk, tb_jk, tb_jk] [.int (-5 : Int32)] tb_S (q209.2) else (tb_cI (d + g + 7) mX8_boxThere [.ref 45] (q209.2)).bind fun q216 => tb_E (d + g + 7) mX8_term tb_dI 224 [.ref 45, .int (nI w), .int k, tb_jk, tb_jk, tb_jk, tb_jk] [.int (q216.1)] tb_S (q216.2))) = some r := by
      intro d r hr
      rw [r_ofOne, b2_t e]
      simp only [Option.bind_some, one0, if_false]
      exact hr
    rcases box_pair h hS with ⟨b, p', hb, hbne, hp1, hp2, b1, b2'⟩ | ⟨b, S', T', b1, b2', b3, b4, b5, b6⟩
    · have kA : KW S (tb_up S 32 5 (nI p')) := KW.up32 (by omega)
      have cA : CF S (tb_up S 32 5 (nI p')) := CF.up32
      have rB : RF T (tb_up T 45 23 (nI p')) := RF.up45 (by omega)
      have fA : tb_up S 32 5 (nI p') 32 8 = S 32 8 := by rw [up_rd, if_neg (by omega)]
      obtain ⟨v, S', v', T', a1, a2, a3, a4, a5⟩ := sim_fee (k := k) (x3 := 1) (box := b) hI (Or.inl ⟨rfl, hb, e⟩) (h.to (p' := p') (by omega) hp2) hS.to
      refine ⟨v, S', v', T', fun d => hC d _ ?_, fun d => hR d _ ?_, cA.trans a3, rB.trans a4, ?_⟩
      · rw [b1]
        exact a1 _ _ _ _ _
      · rw [b2']
        exact a2 _ _ _ _ _
      · rcases a5 with z5 | ⟨q', m', y, l1, l2, l3, l4, l5, l6, l7, l8, l9, l10⟩
        · exact Or.inl z5
        · exact Or.inr ⟨q', m', y, by omega, by omega, l3, l4, l5, l6, kA.trans l7, l8, l9, fun z => ⟨by rw [← fA]; exact (l10 z).1, (l10 z).2⟩⟩
    · refine ⟨-1, S', -1, T', fun d => hC d _ ?_, fun d => hR d _ ?_, b4, b5, Or.inl ⟨rfl, b3⟩⟩
      · rw [b1]
        exact c_dead30 b6
      · rw [b2']
        simp only [Option.bind_some]
        refine BX8_term_224 ?_
        rw [if_neg (fun z => z rfl)]
  · have h2 : ¬ k = 2 := fun z => e (Or.inl z)
    have h6 : ¬ k = 6 := fun z => e (Or.inr z)
    have hk2 : k = 3 ∨ k = 4 ∨ k = 5 ∨ k = 7 := by
      rcases hk with hk | hk | hk | hk | hk | hk
      · exact absurd hk h2
      · exact Or.inl hk
      · exact Or.inr (Or.inl hk)
      · exact Or.inr (Or.inr (Or.inl hk))
      · exact absurd hk h6
      · exact Or.inr (Or.inr (Or.inr hk))
    obtain ⟨v, S', v', T', a1, a2, a3⟩ := sim_fee (k := k) (x3 := 0) (box := -5) hI (Or.inr ⟨rfl, hk2, rfl⟩) h hS
    refine ⟨v, S', v', T', fun d => MX4_readComposed (d := d + 2 * g + 6) ?_, fun d => ?_, a3⟩
    · rw [if_neg h2, if_pos h6, if_pos rfl]
      exact a1 _ _ _ _ _
    · rw [r_ofOne, b2_f e]
      simp only [Option.bind_some, if_true]
      exact a2 _ _ _ _ _
end Comp
