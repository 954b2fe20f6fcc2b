/-! Part 60: fits -/
noncomputable def payV (A F : Nat → Int32) (g : Nat → Int32) : Nat → Nat → Bool
  | 0, _ => true
  | f + 1, k => decide (g (A k).toNatClampNeg = F k) && payV A F g f (k + 1)
noncomputable def fitV (p : Nat → Bool) (x : Int32) : Nat → Int32 → Int32 → Int32
  | 0, a, l => if x = 0 then a else l
  | v + 1, a, l => if p v = true then fitV p x v (a + 1) (nI v) else fitV p x v a l
theorem c_payL {d n t m fl v : Nat} {S : tb_St} (hT : jTS n S) (ht : t < n) (hfl : fl < n) (h3 : S 3 fl = 0) (hm : m ≤ 8) (hA : ∀ k, k < m → ∃ c, c < 224 ∧ S 11 k = nI c) : ∀ f k S', k + f = m → TR S n t S' → S' 24 6 = nI fl → S' 24 7 = nI v → (∀ q, q ≠ 24 → q ≠ 25 → q ≠ 26 → q ≠ 27 → S' q = S q) → S 10 2 = nI m → ∃ S'', tb_E (d + 5) mX7_saysWhatWasPaid tb_dI 2 [.ref 1, .int (nI k)] [] tb_S S' = some (if payV (S 11) (S 12) (wouldV S (nI fl) (nI v) t) f k = true then 1 else 0, S'') ∧ TR S n t S'' ∧ ∀ q, q ≠ 27 → S'' q = S' q := by
  have hn := hT.1
  intro f
  induction f with
  | zero =>
    intro k S' hk h1 h2 h4 h5 h6
    refine ⟨S', BX7_saysWhatWasPaid_2 ?_, h1, fun _ _ => rfl⟩
    rw [h5 10 (by omega) (by omega) (by omega) (by omega), h6, if_pos (n_le' (by omega) (by omega) (by omega))]
    unfold payV
    simp
  | succ f ih =>
    intro k S' hk h1 h2 h4 h5 h6
    obtain ⟨c, hc, ec⟩ := hA k (by omega)
    obtain ⟨V, v1, v2, v3⟩ := c_askw (d := d) (c := c) hT ht h1 (fun u hu z => by
      rw [h2, n_eq (by omega) (by omega)] at z
      rw [z]; exact h3) hc
    rw [h2, h4] at v1
    unfold payV
    rw [ec, nI_clamp (by omega)]
    have e12 : V 12 k = S 12 k := by rw [v3 12 (by omega), h5 12 (by omega) (by omega) (by omega) (by omega)]
    by_cases e : wouldV S (nI fl) (nI v) t c = S 12 k
    · obtain ⟨W, w1, w2, w3⟩ := ih (k + 1) V (by omega) v2 (by rw [v3 24 (by omega)]; exact h2) (by rw [v3 24 (by omega)]; exact h4) (fun q q1 q2 q3 q4 => by rw [v3 q q4]; exact h5 q q1 q2 q3 q4) h6
      refine ⟨W, BX7_saysWhatWasPaid_2 ?_, w2, fun q hq => (w3 q hq).trans (v3 q hq)⟩
      rw [h5 10 (by omega) (by omega) (by omega) (by omega), h6, if_neg (n_nle (by omega) (by omega) (by omega)), n_ix (show k < 8 by omega) (by omega)]
      simp only [Option.bind_some]
      rw [h5 11 (by omega) (by omega) (by omega) (by omega), ec, v1]
      simp only [Option.bind_some]
      rw [e12, if_pos e, n_inc, w1]
      simp [e]
    · refine ⟨V, BX7_saysWhatWasPaid_2 ?_, v2, v3⟩
      rw [h5 10 (by omega) (by omega) (by omega) (by omega), h6, if_neg (n_nle (by omega) (by omega) (by omega)), n_ix (show k < 8 by omega) (by omega)]
      simp only [Option.bind_some]
      rw [h5 11 (by omega) (by omega) (by omega) (by omega), ec, v1]
      simp only [Option.bind_some]
      rw [e12, if_neg e]
      simp [e]
theorem c_fitsL {d n t m fl : Nat} {S : tb_St} {x3 : Int32} {w2 : Value} (hT : jTS n S) (ht : t < n) (hfl : fl < n) (h3 : S 3 fl = 0) (hm : m ≤ 8) (hA : ∀ k, k < m → ∃ c, c < 224 ∧ S 11 k = nI c) (h6 : S 10 2 = nI m) : ∀ v a l S', v ≤ 100 → TR S n t S' → (∀ q, q ≠ 24 → q ≠ 25 → q ≠ 26 → q ≠ 27 → S' q = S q) → ∃ S'', tb_E (d + 6) mX7_fits tb_dI 49 [.ref 1, .int (nI fl), w2, .int x3, .int a, .int l, .int (nI v + (-1))] [] tb_S S' = some (fitV (fun v => payV (S 11) (S 12) (wouldV S (nI fl) (nI v) t) m 0) x3 v a l, S'') ∧ ∀ q, q ≠ 24 → q ≠ 25 → q ≠ 26 → q ≠ 27 → S'' q = S q := by
  intro v
  induction v with
  | zero =>
    intro a l S' hv h1 h5
    refine ⟨S', BX7_fits_49 ?_, h5⟩
    rw [if_pos (show nI 0 + (-1) < 0 by decide)]
    unfold fitV
    by_cases e : x3 = 0
    · rw [if_neg (fun z => z e), if_pos e]
    · rw [if_pos e, if_neg e]
  | succ v ih =>
    intro a l S' hv h1 h5
    rw [n_dec]
    have s1 : tb_cV (d + 5 + 1) mX6_suppose [.ref 24, .int (nI fl), .int (nI v)] S' = some (tb_up (tb_up S' 24 6 (nI fl)) 24 7 (nI v)) := MX6_suppose rfl
    obtain ⟨V, v1, v2, v3⟩ := c_payL (d := d) (v := v) hT ht hfl h3 hm hA m 0 _ (by omega) (sup_tr (a := nI fl) (b := nI v) h1) (by simp [up_rd]) (by simp [up_rd]) (fun q q1 q2 q3 q4 => by rw [up_ne q1, up_ne q1]; exact h5 q q1 q2 q3 q4) h6
    have s2 : tb_cI (d + 5 + 1) mX7_saysWhatWasPaid [.ref 1] (tb_up (tb_up S' 24 6 (nI fl)) 24 7 (nI v)) = _ := MX7_saysWhatWasPaid v1
    unfold fitV
    have hV : ∀ q, q ≠ 24 → q ≠ 25 → q ≠ 26 → q ≠ 27 → V q = S q := fun q q1 q2 q3 q4 => by rw [v3 q q4, up_ne q1, up_ne q1]; exact h5 q q1 q2 q3 q4
    by_cases e : payV (S 11) (S 12) (wouldV S (nI fl) (nI v) t) m 0 = true
    · obtain ⟨W, w1, w2⟩ := ih (a + 1) (nI v) V (by omega) v2 hV
      refine ⟨W, BX7_fits_49 ?_, w2⟩
      rw [if_neg (n_nlt (by omega)), s1]
      simp only [Option.bind_some]
      rw [s2, if_pos e, if_pos e]
      simp only [Option.bind_some, one0, if_false]
      exact w1
    · obtain ⟨W, w1, w2⟩ := ih a l V (by omega) v2 hV
      refine ⟨W, BX7_fits_49 ?_, w2⟩
      rw [if_neg (n_nlt (by omega)), s1]
      simp only [Option.bind_some]
      rw [s2, if_neg e, if_neg e]
      simp only [Option.bind_some, if_true]
      exact w1
theorem w_val {n t c fl v : Nat} {S : tb_St} (hT : jTS n S) (ht : t < n) (hfl : fl < n) (h3 : S 3 fl = 0) (hv : v ≤ 99) : valR (wouldV S (nI fl) (nI v) t c) := by
  have hn := hT.1
  exact ev_val hn (fun t ht => (hT.2.2.2 t ht).2) (Or.inl (Or.inr ⟨v, hv, rfl⟩)) (fun u hu z => by
    rw [n_eq (by omega) (by omega)] at z
    rw [z]; exact h3) 24 t 0 ht
theorem r_payL {d n t m fl v : Nat} {S : tb_St} {x3 x4 x5 : Int32} (hT : jTS n S) (ht : t < n) (hfl : fl < n) (h3 : S 3 fl = 0) (hv : v ≤ 99) (h19 : S 45 19 = -1) (hm : m ≤ 8) (h6 : S 45 8 = nI m) (hA : ∀ k, k < m → S 53 k = S 11 k ∧ (∃ c, c < 224 ∧ S 11 k = nI c) ∧ ((S 12 k = -5 ∧ S 54 k = -1) ∨ (feeOK (S 12 k) ∧ S 54 k = S 12 k))) :
    ∀ f k x7 T, k + f = m → (x7 = 0 ∨ x7 = 1) → tb_Kp S T → ∃ T', tb_Kp T T' ∧ ∀ (r : Int32 × tb_St) (w9 : Value),
      ((∀ (x8 : Int32) (w9 : Value), (if x7 = 1 ∧ payV (S 11) (S 12) (wouldV S (nI fl) (nI v) t) f k = true then tb_E (d + 28) mX8_fits tb_dI 38 [.ref 45, .int (nI fl), .int (nI t), .int x3, .int (x4 + 1), .int (nI v), .int (nI v + (-1)), .int 1, .int x8, w9] [] tb_S T' else tb_E (d + 28) mX8_fits tb_dI 38 [.ref 45, .int (nI fl), .int (nI t), .int x3, .int x4, .int x5, .int (nI v + (-1)), .int 0, .int x8, w9] [] tb_S T') = some r) →
        tb_E (d + 28) mX8_fits tb_dI 49 [.ref 45, .int (nI fl), .int (nI t), .int x3, .int x4, .int x5, .int (nI v), .int x7, .int (nI k), w9] [] tb_S T = some r) := by
  have hn := hT.1
  intro f
  induction f with
  | zero =>
    intro k x7 T hk h7 hkp
    refine ⟨T, tb_Kp.refl, fun r w9 h => BX8_fits_49 ?_⟩
    have h := h (nI k) w9
    rw [hkp.f 8 rfl, h6, if_pos (n_le' (by omega) (by omega) (by omega))]
    unfold payV at h
    rcases h7 with rfl | rfl
    · rw [if_neg (fun z => absurd z.1 (by decide))] at h
      rw [if_neg (fun z => z rfl)]
      exact h
    · rw [if_pos ⟨rfl, rfl⟩] at h
      rw [if_pos (by decide)]
      exact h
  | succ f ih =>
    intro k x7 T hk h7 hkp
    obtain ⟨e1, ⟨c, hc, ec⟩, e3⟩ := hA k (by omega)
    obtain ⟨V, v1, v2, v3⟩ := r_wsay (d := d) (c := c) hT ht hfl h3 hv hkp h19 hc
    have hval := w_val (c := c) hT ht hfl h3 hv
    generalize hg : wouldV S (nI fl) (nI v) t c = g at v1 hval
    have h54 : V 54 k = S 54 k := by rw [v3 54 (by omega), hkp.p 54 rfl]
    have hs : ((if ¬ g = -5 then g else -1) = S 54 k) ↔ g = S 12 k := by
      rcases e3 with ⟨a1, a2⟩ | ⟨a1, a2⟩
      · rw [a1, a2]
        by_cases e : g = -5
        · rw [if_neg (fun z => z e)]; simp [e]
        · rw [if_pos e]
          constructor
          · intro z
            rcases hval with q | q
            · exact q
            · have := (feeOK_0 q).1; rw [z] at this; exact absurd this (by decide)
          · intro z; exact absurd z e
      · rw [a2]
        have := (feeOK_0 a1).1
        by_cases e : g = -5
        · rw [if_neg (fun z => z e)]
          constructor
          · intro z; rw [← z] at this; exact absurd this (by decide)
          · intro z; rw [← z, e] at this; exact absurd this (by decide)
        · rw [if_pos e]
    obtain ⟨W, w1, w3⟩ := ih (k + 1) (if g = S 12 k then x7 else 0) V (by omega) (by split; exact h7; exact Or.inl rfl) (hkp.trans v2)
    refine ⟨W, v2.trans w1, fun r w9 h => BX8_fits_49 ?_⟩
    rw [hkp.f 8 rfl, h6, if_neg (n_nle (by omega) (by omega) (by omega)), n_ix (show k < 8 by omega) (by omega)]
    simp only [Option.bind_some]
    rw [hkp.p 53 rfl, e1, ec, v1]
    simp only [Option.bind_some]
    have hfin : tb_E (d + 28) mX8_fits tb_dI 88 [.ref 45, .int (nI fl), .int (nI t), .int x3, .int x4, .int x5, .int (nI v), .int x7, .int (nI k), .int g] [.int (if ¬ g = -5 then g else -1)] tb_S V = some r := by
      refine BX8_fits_88 ?_
      rw [n_ix (show k < 8 by omega) (by omega)]
      simp only [Option.bind_some, n_inc]
      have hp : payV (S 11) (S 12) (wouldV S (nI fl) (nI v) t) (f + 1) k = (decide (g = S 12 k) && payV (S 11) (S 12) (wouldV S (nI fl) (nI v) t) f (k + 1)) := by
        conv => lhs; unfold payV
        rw [ec, nI_clamp (by omega), hg]
      rw [hp] at h
      rw [h54]
      by_cases e : g = S 12 k
      · rw [if_pos (hs.mpr e)]
        rw [if_pos e] at w3
        refine w3 r (.int g) (fun x8 w9 => ?_)
        have h' := h x8 w9
        simp only [e, decide_true, Bool.true_and] at h'
        exact h'
      · rw [if_neg (fun z => e (hs.mp z))]
        rw [if_neg e] at w3
        refine w3 r (.int g) (fun x8 w9 => ?_)
        have h' := h x8 w9
        rw [if_neg (fun z => by simp [e] at z)] at h'
        rw [if_neg (fun z => absurd z.1 (by decide))]
        exact h'
    by_cases e : g = -5
    · rw [if_neg (fun z => z e)]
      rw [if_neg (fun z => z e)] at hfin
      exact hfin
    · rw [if_pos e]
      rw [if_pos e] at hfin
      exact hfin
theorem r_fitsL {d n t m fl : Nat} {S : tb_St} {x3 : Int32} (hT : jTS n S) (ht : t < n) (hfl : fl < n) (h3 : S 3 fl = 0) (h19 : S 45 19 = -1) (hm : m ≤ 8) (h6 : S 45 8 = nI m) (hA : ∀ k, k < m → S 53 k = S 11 k ∧ (∃ c, c < 224 ∧ S 11 k = nI c) ∧ ((S 12 k = -5 ∧ S 54 k = -1) ∨ (feeOK (S 12 k) ∧ S 54 k = S 12 k))) : ∀ v a l T, v ≤ 100 → tb_Kp S T → ∃ T', (∀ w7 w8 w9 : Value, tb_E (d + 28) mX8_fits tb_dI 38 [.ref 45, .int (nI fl), .int (nI t), .int x3, .int a, .int l, .int (nI v + (-1)), w7, w8, w9] [] tb_S T = some (fitV (fun v => payV (S 11) (S 12) (wouldV S (nI fl) (nI v) t) m 0) x3 v a l, T')) ∧ tb_Kp T T' := by
  intro v
  induction v with
  | zero =>
    intro a l T hv hkp
    refine ⟨T, fun w7 w8 w9 => BX8_fits_38 ?_, tb_Kp.refl⟩
    rw [if_pos (show nI 0 + (-1) < 0 by decide)]
    unfold fitV
    by_cases e : x3 = 0
    · rw [if_neg (fun z => z e), if_pos e]
    · rw [if_pos e, if_neg e]
  | succ v ih =>
    intro a l T hv hkp
    rw [n_dec]
    unfold fitV
    obtain ⟨V, v1, v2⟩ := r_payL (d := d) (v := v) (x3 := x3) (x4 := a) (x5 := l) hT ht hfl h3 (by omega) h19 hm h6 hA m 0 1 T (by omega) (Or.inr rfl) hkp
    by_cases e : payV (S 11) (S 12) (wouldV S (nI fl) (nI v) t) m 0 = true
    · rw [if_pos e]
      obtain ⟨W, w1, w2⟩ := ih (a + 1) (nI v) V (by omega) (hkp.trans v1)
      refine ⟨W, fun w7 w8 w9 => BX8_fits_38 ?_, v1.trans w2⟩
      rw [if_neg (n_nlt (by omega))]
      refine v2 _ w9 (fun x8 w9 => ?_)
      rw [if_pos ⟨rfl, e⟩]
      exact w1 _ _ _
    · rw [if_neg e]
      obtain ⟨W, w1, w2⟩ := ih a l V (by omega) (hkp.trans v1)
      refine ⟨W, fun w7 w8 w9 => BX8_fits_38 ?_, v1.trans w2⟩
      rw [if_neg (n_nlt (by omega))]
      refine v2 _ w9 (fun x8 w9 => ?_)
      rw [if_neg (fun z => e z.2)]
      exact w1 _ _ _
theorem p_fits : ∀ a b c : Int32, tb_PI mX7_fits mX8_fits [.int a, .int b, .int c] := by
  intro a b c
  refine tb_PI_ask (fun S hJ => ?_)
  obtain ⟨n, hT⟩ := hJ.1
  have hn := hT.1
  have hT' : jTS n S := hT
  have hj := hJ.2.2.2.2.2.2.2
  rcases flat_or S hn a with ⟨fl, hfl, rfl, h3⟩ | hfl
  · rcases term_or (n := n) (by omega) b with ⟨t, ht, rfl⟩ | hx
    · by_cases hc : 0 ≤ c ∧ c ≤ 1
      · obtain ⟨m, hm, m1, m2, mA⟩ := hJ.2.2.1
        refine ⟨fitV (fun v => payV (S 11) (S 12) (wouldV S (nI fl) (nI v) t) m 0) c 100 0 (-5), ?_, fun T hJT hkp => ?_⟩
        · obtain ⟨S', h1, h2, h3', h4⟩ := c_open (d := 95) hT' ht
          obtain ⟨W, w1, w2⟩ := c_fitsL (d := 93) (x3 := c) (w2 := .int (nI t)) hT' ht hfl h3 hm (fun k hk => (mA k hk).2.1) m1 100 0 (-5) S' (by omega) h2 (fun q q1 q2 q3 q4 => h4 q q1 q2 q3)
          refine ⟨W, MX7_fits ?_, kp_of w2⟩
          rw [c_isFlatY hT' hfl h3]
          simp only [Option.bind_some, one0, if_false]
          rw [c_hasY hn hT.2.1 ht]
          simp only [Option.bind_some, one0, if_false]
          rw [if_neg (show ¬ c < 0 by have := hc.1; grind), if_pos hc.2, h1]
          exact w1
        · obtain ⟨W, w1, w2⟩ := r_fitsL (d := 71) (x3 := c) hT' ht hfl h3 hj hm m2 mA 100 0 (-5) T (by omega) hkp
          refine ⟨W, MX8_fits ?_, w2⟩
          rw [r_isFlatY hT' hkp hfl h3]
          simp only [Option.bind_some, one0, if_false]
          rw [r_termY hn (by rw [hkp.f 0 rfl]; exact hT.2.2.1) ht]
          simp only [Option.bind_some, one0, if_false]
          rw [s_within, b2_t hc]
          simp only [Option.bind_some, one0, not_false_eq_true, if_true]
          exact w1 _ _ _
      · refine ⟨-1, ⟨S, MX7_fits ?_, tb_Kp.refl⟩, fun T hJT hkp => ⟨T, MX8_fits ?_, tb_Kp.refl⟩⟩
        · rw [c_isFlatY hT' hfl h3]
          simp only [Option.bind_some, one0, if_false]
          rw [c_hasY hn hT.2.1 ht]
          simp only [Option.bind_some, one0, if_false]
          by_cases h0 : c < 0
          · rw [if_pos h0]
          · rw [if_neg h0, if_neg (by grind)]
        · rw [r_isFlatY hT' hkp hfl h3]
          simp only [Option.bind_some, one0, if_false]
          rw [r_termY hn (by rw [hkp.f 0 rfl]; exact hT.2.2.1) ht]
          simp only [Option.bind_some, one0, if_false]
          rw [s_within, b2_f hc]
          simp only [Option.bind_some, not_true_eq_false, if_false]
    · refine ⟨-1, ⟨S, MX7_fits ?_, tb_Kp.refl⟩, fun T hJT hkp => ⟨T, MX8_fits ?_, tb_Kp.refl⟩⟩
      · rw [c_isFlatY hT' hfl h3]
        simp only [Option.bind_some, one0, if_false]
        rw [c_hasN hT.2.1 hx]
        simp only [Option.bind_some, if_true]
      · rw [r_isFlatY hT' hkp hfl h3]
        simp only [Option.bind_some, one0, if_false]
        rw [r_termN hn (by rw [hkp.f 0 rfl]; exact hT.2.2.1) hx]
        simp only [Option.bind_some, if_true]
  · refine ⟨-1, ⟨S, MX7_fits ?_, tb_Kp.refl⟩, fun T hJT hkp => ⟨T, MX8_fits ?_, tb_Kp.refl⟩⟩
    · rw [c_isFlatN hT' hfl]
      simp only [Option.bind_some, if_true]
    · rw [r_isFlatN hT' hkp hfl]
      simp only [Option.bind_some, if_true]
