/-! Part 7d: reading: the byte that stands here, figures, numbers: both -/
def cAt (len p : Nat) (tp : Nat → Int32) (S : tb_St) : Prop := len ≤ 60 ∧ p ≤ len ∧ S 32 2 = nI len ∧ S 32 5 = nI p ∧ ∀ j, j < len → S 33 j = tp j
def rAt (len p : Nat) (tp : Nat → Int32) (T : tb_St) : Prop := len ≤ 60 ∧ p ≤ len ∧ T 45 21 = nI len ∧ T 45 23 = nI p ∧ ∀ j, j < len → T 59 j = tp j
def chA (len p : Nat) (tp : Nat → Int32) : Int32 := if p < len then tp p else 0
section Tape
variable {len p : Nat} {tp : Nat → Int32} {S T : tb_St}
theorem cAt.to {p' : Nat} (h : cAt len p tp S) (hp : p' ≤ len) : cAt len p' tp (tb_up S 32 5 (nI p')) := by
  obtain ⟨h1, h2, h3, h4, h5⟩ := h
  refine ⟨h1, hp, by rw [up_rd, if_neg (by omega)]; exact h3, by rw [up_rd, if_pos ⟨rfl, rfl⟩], fun j hj => by rw [up_ne (by omega)]; exact h5 j hj⟩
theorem rAt.to {p' : Nat} (h : rAt len p tp T) (hp : p' ≤ len) : rAt len p' tp (tb_up T 45 23 (nI p')) := by
  obtain ⟨h1, h2, h3, h4, h5⟩ := h
  refine ⟨h1, hp, by rw [up_rd, if_neg (by omega)]; exact h3, by rw [up_rd, if_pos ⟨rfl, rfl⟩], fun j hj => by rw [up_ne (by omega)]; exact h5 j hj⟩
theorem c_here {d : Nat} (h : cAt len p tp S) : tb_cI (d + 1) mX4_here [.ref 32] S = some (chA len p tp, S) := by
  obtain ⟨h1, h2, h3, h4, h5⟩ := h
  refine MX4_here ?_
  rw [h3, h4, if_neg (n_nlt (by omega))]
  unfold chA
  by_cases e : p < len
  · rw [if_neg (n_nle (by omega) (by omega) e), if_pos e, n_ix (by omega) (by omega)]
    simp only [Option.bind_some]
    rw [h5 p e]
  · rw [if_pos (n_le' (by omega) (by omega) (by omega)), if_neg e]
theorem r_next {d : Nat} (h : rAt len p tp T) : tb_cI (d + 1) mX8_next [.ref 45] T = some (chA len p tp, T) := by
  obtain ⟨h1, h2, h3, h4, h5⟩ := h
  refine MX8_next ?_
  rw [h3, h4]
  unfold chA
  by_cases e : p < len
  · rw [if_neg (n_nle (by omega) (by omega) e), if_pos e, n_ix (by omega) (by omega)]
    simp only [Option.bind_some]
    rw [h5 p e]
  · rw [if_pos (n_le' (by omega) (by omega) (by omega)), if_neg e]
theorem c_isFig {d : Nat} {x : Int32} : tb_cI (d + 1) mX4_isFigure [.ref 32, .int x] S = some (b2 (48 ≤ x ∧ x ≤ 57), S) := by
  refine MX4_isFigure ?_
  unfold b2
  repeat' split
  all_goals (first | rfl | (exfalso; grind))
theorem r_isFig {d : Nat} (h : rAt len p tp T) : tb_cI (d + 2) mX8_isFigure [.ref 45] T = some (b2 (48 ≤ chA len p tp ∧ chA len p tp ≤ 57), T) := by
  refine MX8_isFigure ?_
  rw [r_next h]
  simp only [Option.bind_some]
  rw [s_within]
  simp [b2_01]
theorem fig_or (x : Int32) : (∃ v, v ≤ 9 ∧ x = nI (48 + v)) ∨ ¬ (48 ≤ x ∧ x ≤ 57) := by
  by_cases h : 48 ≤ x ∧ x ≤ 57
  · obtain ⟨k, hk, rfl⟩ := n_of_le (x := x) (n := 57) (by have := h.1; grind) h.2 (by omega)
    have h1 := (n_le (a := 48) (by omega) (by omega)).mp h.1
    exact Or.inl ⟨k - 48, by omega, by congr 1; omega⟩
  · exact Or.inr h
theorem fig_in {v : Nat} (hv : v ≤ 9) : 48 ≤ nI (48 + v) ∧ nI (48 + v) ≤ 57 := ⟨(n_le (a := 48) (by omega) (by omega)).mpr (by omega), (n_le (b := 57) (by omega) (by omega)).mpr (by omega)⟩
theorem fig_v {v : Nat} (hv : v ≤ 9) : nI (48 + v) - (48 : Int32) = nI v := by
  rw [show (48 : Int32) = nI 48 from rfl, n_sub (by omega) (by omega)]
  congr 1
  omega
theorem ch_lt {x : Int32} (h : chA len p tp = x) (hx : ¬ x = 0) : p < len := by
  unfold chA at h
  by_cases e : p < len
  · exact e
  · rw [if_neg e] at h
    exact absurd h.symm hx
theorem fig_lt' {v : Nat} (h : chA len p tp = nI (48 + v)) (hv : v ≤ 9) : p < len := ch_lt h (by rw [show (0 : Int32) = nI 0 from rfl, n_eq (by omega) (by omega)]; omega)
theorem c_inc {S : tb_St} (h : S 32 5 = nI p) : tb_up S 32 5 (S 32 5 + 1) = tb_up S 32 5 (nI (p + 1)) := by rw [h, n_inc]
theorem num_ok {v : Nat} (hc : cAt len p tp S) (hr : rAt len p tp T) (h : chA len p tp = nI (48 + v)) (hv : v ≤ 9) : ∃ x p', x ≤ 99 ∧ p < p' ∧ p' ≤ len ∧ (∀ d, tb_cI (d + 2) mX4_readNumber [.ref 32] S = some (nI x, tb_up S 32 5 (nI p'))) ∧ (∀ d, tb_cI (d + 3) mX8_number [.ref 45] T = some (nI x, tb_up T 45 23 (nI p'))) := by
  have hp := fig_lt' h hv
  have hc1 := hc.to (p' := p + 1) (by omega)
  have hr1 := hr.to (p' := p + 1) (by omega)
  have e5 : S 32 5 = nI p := hc.2.2.2.1
  have e23 : T 45 23 = nI p := hr.2.2.2.1
  rcases fig_or (chA len (p + 1) tp) with ⟨w, hw, h2⟩ | h2
  · have hp2 := fig_lt' h2 hw
    have hx : ((10 : Int32) * (nI (48 + v) - 48) + nI (48 + w)) - 48 = nI (10 * v + w) := by
      rw [fig_v hv, show (10 : Int32) = nI 10 from rfl, show (48 : Int32) = nI 48 from rfl, n_mul (by omega) (by omega) (by omega), n_add (by omega), n_sub (by omega) (by omega)]
      congr 1
      omega
    refine ⟨10 * v + w, p + 2, by omega, by omega, by omega, fun d => MX4_readNumber ?_, fun d => MX8_number ?_⟩
    · rw [c_here hc]
      simp only [Option.bind_some]
      rw [c_isFig, h, b2_t (fig_in hv)]
      simp only [Option.bind_some, one0, not_false_eq_true, if_true]
      rw [c_here hc]
      simp only [Option.bind_some]
      rw [e5, n_inc, c_here hc1]
      simp only [Option.bind_some]
      rw [c_isFig, h2, b2_t (fig_in hw)]
      simp only [Option.bind_some, one0, if_false]
      rw [c_here hc1]
      simp only [Option.bind_some]
      rw [h, h2, up_rd, if_pos ⟨rfl, rfl⟩, hx, n_inc, up_up]
    · rw [r_isFig hr, h, b2_t (fig_in hv)]
      simp only [Option.bind_some, one0, not_false_eq_true, if_true]
      rw [r_next hr]
      simp only [Option.bind_some]
      rw [e23, n_inc, r_isFig hr1, h2, b2_t (fig_in hw)]
      simp only [Option.bind_some, one0, not_false_eq_true, if_true]
      rw [r_next hr1, h, h2]
      simp only [Option.bind_some]
      rw [up_rd, if_pos ⟨rfl, rfl⟩, hx, n_inc, up_up]
  · refine ⟨v, p + 1, by omega, by omega, by omega, fun d => MX4_readNumber ?_, fun d => MX8_number ?_⟩
    · rw [c_here hc]
      simp only [Option.bind_some]
      rw [c_isFig, h, b2_t (fig_in hv)]
      simp only [Option.bind_some, one0, not_false_eq_true, if_true]
      rw [c_here hc]
      simp only [Option.bind_some]
      rw [e5, n_inc, c_here hc1]
      simp only [Option.bind_some]
      rw [c_isFig, b2_f h2]
      simp only [Option.bind_some, if_true]
      rw [h, fig_v hv]
    · rw [r_isFig hr, h, b2_t (fig_in hv)]
      simp only [Option.bind_some, one0, not_false_eq_true, if_true]
      rw [r_next hr]
      simp only [Option.bind_some]
      rw [e23, n_inc, r_isFig hr1, b2_f h2]
      simp only [Option.bind_some, not_true_eq_false, if_false]
      rw [h, fig_v hv]
theorem num_noC {d : Nat} {S' : tb_St} (hc : cAt len p tp S) (h : ¬ (48 ≤ chA len p tp ∧ chA len p tp ≤ 57)) (hf : tb_cV (d + 1) mX4_fail [.ref 32, .int (nI p)] S = some S') : tb_cI (d + 2) mX4_readNumber [.ref 32] S = some (-1, S') := by
  have e5 : S 32 5 = nI p := hc.2.2.2.1
  refine MX4_readNumber ?_
  rw [c_here hc]
  simp only [Option.bind_some]
  rw [c_isFig, b2_f h]
  simp only [Option.bind_some, not_true_eq_false, if_false]
  rw [e5, hf]
  rfl
theorem num_noR {d : Nat} (hr : rAt len p tp T) (h : ¬ (48 ≤ chA len p tp ∧ chA len p tp ≤ 57)) : tb_cI (d + 3) mX8_number [.ref 45] T = some (-1, tb_up T 45 28 (nI p)) := by
  have e23 : T 45 23 = nI p := hr.2.2.2.1
  refine MX8_number ?_
  rw [r_isFig hr, b2_f h]
  simp only [Option.bind_some, not_true_eq_false, if_false]
  rw [e23]
theorem r_endY {d v : Nat} (hr : rAt len p tp T) (hv : v ≤ 99) (h : ¬ (48 ≤ chA len p tp ∧ chA len p tp ≤ 57)) : tb_cI (d + 3) mX8_ends [.ref 45, .int (nI v)] T = some (nI v, T) := by
  refine MX8_ends ?_
  rw [if_neg (n_nlt (by omega)), r_isFig hr, b2_f h]
  simp only [Option.bind_some, not_true_eq_false, if_false]
theorem r_endN {d v : Nat} (hr : rAt len p tp T) (hv : v ≤ 99) (h : 48 ≤ chA len p tp ∧ chA len p tp ≤ 57) : tb_cI (d + 3) mX8_ends [.ref 45, .int (nI v)] T = some (-1, tb_up T 45 28 (nI p)) := by
  have e23 : T 45 23 = nI p := hr.2.2.2.1
  refine MX8_ends ?_
  rw [if_neg (n_nlt (by omega)), r_isFig hr, b2_t h]
  simp only [Option.bind_some, one0, not_false_eq_true, if_true]
  rw [e23]
theorem r_endM {d : Nat} : tb_cI (d + 1) mX8_ends [.ref 45, .int (-1 : Int32)] T = some (-1, T) := by
  refine MX8_ends ?_
  rw [if_pos (by decide)]
end Tape
