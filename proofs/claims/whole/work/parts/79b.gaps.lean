/-! Part 79b: C marks the cases that a term leaves open -/
noncomputable def gapM (S : tb_St) (t c : Nat) : Int32 := if sayV S t c = -5 then 0 else -1
theorem c_gapsL {d n t : Nat} {S : tb_St} {w1 : Value} (hT : jTS n S) (ht : t < n) : ∀ g c S', c + g = 224 → TR S n t S' → S' 24 6 = -1 → ∃ S'', (∀ r, tb_cV (d + 5) mX0_takeAll [.ref 28] S'' = some r → tb_E (d + 5) mX7_boxGaps tb_dV 10 [.ref 1, w1, .int (nI c)] [] tb_S S' = some r) ∧ (∀ q, q ≠ 27 → q ≠ 29 → S'' q = S' q) ∧ ∀ j, j < 224 → S'' 29 j = if j < c then S' 29 j else gapM S t j := by
  intro g
  induction g with
  | zero =>
    intro c S' hc h1 h2
    refine ⟨S', fun r hr => BX7_boxGaps_10 ?_, fun _ _ _ => rfl, fun j hj => by rw [if_pos (by omega)]⟩
    obtain rfl : c = 224 := by omega
    rw [if_pos (show (224 : Int32) ≤ nI 224 by decide), hr]
    rfl
  | succ g ih =>
    intro c S' hc h1 h2
    have hc' : c < 224 := by omega
    obtain ⟨V, v1, v2, v3, v4⟩ := c_ask (d := d) (c := c) hT ht h1 h2 hc'
    obtain ⟨i1, i2, i3, i4, i5, i6⟩ := v2
    have hR : TR S n t (tb_up V 29 c (gapM S t c)) := ⟨i1.keep (fun q hq => up_ne (by omega)), by rw [up_ne (by omega)]; exact i2, i3, i4, by rw [up_ne (by omega), up_ne (by omega)]; exact i5, by rw [up_ne (by omega)]; exact i6⟩
    obtain ⟨W, w1, w2, w3'⟩ := ih (c + 1) (tb_up V 29 c (gapM S t c)) (by omega) hR (by rw [up_ne (by omega)]; exact v3)
    refine ⟨W, fun r hr => BX7_boxGaps_10 ?_, fun q q1 q2 => by rw [w2 q q1 q2, up_ne q2, v4 q q1], fun j hj => ?_⟩
    · rw [if_neg (end224 hc'), v1]
      simp only [Option.bind_some, n_ix hc' (show 224 ≤ 2 ^ 31 by omega), n_inc]
      have hw := w1 r hr
      unfold gapM at hw
      by_cases e : sayV S t c = -5
      · rw [if_pos e] at hw
        rw [if_neg (fun z => z e)]
        exact hw
      · rw [if_neg e] at hw
        rw [if_pos e]
        exact hw
    · rw [w3' j hj, up_rd]
      by_cases e : j = c
      · rw [if_pos (by omega), if_pos ⟨rfl, e⟩, if_neg (by omega), e]
      · by_cases e2 : j < c
        · rw [if_pos (by omega), if_neg (fun z => e z.2), if_pos e2, v4 29 (by omega)]
        · rw [if_neg (by omega), if_neg e2]
