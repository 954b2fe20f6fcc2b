/-! Part 76: packing: C's whole list -/
theorem c_takeAllL {d : Nat} {M : Nat → Int32} : ∀ g c k (D : Nat → Bool) (S : tb_St), c + g = 224 → cMark S D M → S 28 3 = nI k → k ≤ c →
    ∃ S', tb_E (d + 4) mX0_takeAll tb_dV 7 [.ref 28, .int (nI c)] [] tb_S S = some S' ∧ (∀ q, q ≠ 28 → q ≠ 29 → q ≠ 30 → q ≠ 31 → S' q = S q) ∧ S' 28 3 = nI (k + (pkL (alM M) g c D).length) ∧ (∀ j, j < k → S' 30 j = S 30 j ∧ S' 31 j = S 31 j) ∧ ∀ j x, (pkL (alM M) g c D)[j]? = some x → S' 30 (k + j) = nI x.2 ∧ S' 31 (k + j) = M x.1 := by
  intro g
  induction g with
  | zero =>
    intro c k D S hc hM h3 hk
    refine ⟨S, BX0_takeAll_7 ?_, fun _ _ _ _ _ => rfl, h3, fun _ _ => ⟨rfl, rfl⟩, fun j x h => by simp [pkL] at h⟩
    obtain rfl : c = 224 := by omega
    rw [if_pos (show (224 : Int32) ≤ nI 224 by decide)]
  | succ g ih =>
    intro c k D S hc hM h3 hk
    have hc' : c < 224 := by omega
    unfold pkL
    cases hD : D c with
    | true =>
      obtain ⟨V, v1, v2, v3, v4, v5⟩ := ih (c + 1) k D S (by omega) hM h3 (by omega)
      rw [if_pos rfl]
      refine ⟨V, BX0_takeAll_7 ?_, v2, v3, v4, v5⟩
      rw [if_neg (end224 hc'), n_ix hc' (by omega)]
      simp only [Option.bind_some, n_inc]
      rw [if_pos (by rw [(hM c hc').1, hD]; rfl)]
      exact v1
    | false =>
      obtain ⟨U, u1, u2, u3, u4, u5, u6⟩ := c_takeFrom (d := d) hc' hM hD h3 hk
      rw [if_neg (by simp)]
      generalize hm : boxOf (fun x => !D x && alM M c x) c = m at *
      obtain ⟨V, v1, v2, v3, v4, v5⟩ := ih (c + 1) (k + 1) (fun x => D x || decide (¬ inBB x m = 0)) U (by omega) u6 u3 (by omega)
      have hk0 := v4 k (by omega)
      refine ⟨V, BX0_takeAll_7 ?_, fun q q1 q2 q3 q4 => (v2 q q1 q2 q3 q4).trans (u2 q q1 q2 q3 q4), ?_, fun j hj => ?_, fun j x hx => ?_⟩
      · rw [if_neg (end224 hc'), n_ix hc' (by omega)]
        simp only [Option.bind_some, n_inc]
        rw [if_neg (show ¬ S 29 c = -1 by rw [(hM c hc').1, hD]; exact (hM c hc').2 hD), u1]
        exact v1
      · rw [v3, List.length_cons]
        congr 1
        omega
      · obtain ⟨p1, p2⟩ := v4 j (by omega)
        rw [p1, p2, u4, u5, upd_rd, upd_rd, if_neg (by omega), if_neg (by omega)]
        exact ⟨rfl, rfl⟩
      · cases j with
        | zero =>
          rw [List.getElem?_cons_zero] at hx
          cases hx
          rw [Nat.add_zero, hk0.1, hk0.2, u4, u5, upd_rd, upd_rd, if_pos rfl, if_pos rfl]
          exact ⟨rfl, rfl⟩
        | succ j =>
          rw [List.getElem?_cons_succ] at hx
          have := v5 j x hx
          rw [show k + (j + 1) = k + 1 + j by omega]
          exact this
