/-! Part 78: packing: the reference's whole list -/
theorem r_packsL {d : Nat} {A B : Nat → Int32} : ∀ g c k (D : Nat → Bool) (S : tb_St), c + g = 224 → rMark S D → S 45 14 = nI k → k ≤ c → S 55 = A → S 56 = B →
    ∃ S', (∀ w2 w3 w4 w5 w6 w7 w8 w9 w10 w11 : Value, tb_E (d + 2) mX8_packs tb_dV 7 [.ref 45, .int (nI c), w2, w3, w4, w5, w6, w7, w8, w9, w10, w11] [] tb_S S = some S') ∧ (∀ q i, q ≠ 57 → q ≠ 58 → ¬ (q = 45 ∧ i = 14) → S' q i = S q i) ∧ S' 45 14 = nI (k + (pkL (alR A B) g c D).length) ∧ (∀ i, i < 8 * k → S' 58 i = S 58 i) ∧ ∀ j x, (pkL (alR A B) g c D)[j]? = some x → (∀ i, i < 6 → S' 58 (8 * (k + j) + i) = nI (figM x.2 i)) ∧ S' 58 (8 * (k + j) + 6) = A x.1 ∧ S' 58 (8 * (k + j) + 7) = B x.1 := by
  intro g
  induction g with
  | zero =>
    intro c k D S hc hM h3 hk hA hB
    refine ⟨S, fun w2 w3 w4 w5 w6 w7 w8 w9 w10 w11 => BX8_packs_7 ?_, fun _ _ _ _ _ => rfl, h3, fun _ _ => rfl, fun j x h => by simp [pkL] at h⟩
    obtain rfl : c = 224 := by omega
    rw [if_pos (show (224 : Int32) ≤ nI 224 by decide)]
  | succ g ih =>
    intro c k D S hc hM h3 hk hA hB
    have hc' : c < 224 := by omega
    unfold pkL
    cases hD : D c with
    | true =>
      obtain ⟨V, v1, v2, v3, v4, v5⟩ := ih (c + 1) k D S (by omega) hM h3 (by omega) hA hB
      rw [if_pos rfl]
      refine ⟨V, fun w2 w3 w4 w5 w6 w7 w8 w9 w10 w11 => BX8_packs_7 ?_, v2, v3, v4, v5⟩
      rw [if_neg (end224 hc'), n_ix hc' (by omega)]
      simp only [Option.bind_some, n_inc]
      rw [if_neg (fun z => by have := (hM c hc').mp z; rw [hD] at this; cases this)]
      exact v1 _ _ _ _ _ _ _ _ _ _
    | false =>
      obtain ⟨U, u1, u2, u3, u4, u5, u6, u7, u8⟩ := r_take (d := d) hc' hM hD h3 hk
      rw [hA, hB] at u4 u6
      rw [hA] at u7
      rw [hB] at u8
      rw [if_neg (by simp)]
      generalize hm : boxOf (fun x => !D x && alR A B c x) c = m at *
      obtain ⟨V, v1, v2, v3, v4, v5⟩ := ih (c + 1) (k + 1) (fun x => D x || decide (¬ inBB x m = 0)) U (by omega) u4 u3 (by omega) (by rw [← hA]; funext i; exact u2 55 i (by omega) (by omega) (by omega)) (by rw [← hB]; funext i; exact u2 56 i (by omega) (by omega) (by omega))
      refine ⟨V, u1 _ v1, fun q i q1 q2 q3 => (v2 q i q1 q2 q3).trans (u2 q i q1 q2 q3), ?_, fun i hi => ?_, fun j x hx => ?_⟩
      · rw [v3, List.length_cons]
        congr 1
        omega
      · rw [v4 i (by omega), u5 i hi]
      · cases j with
        | zero =>
          rw [List.getElem?_cons_zero] at hx
          cases hx
          rw [Nat.add_zero]
          refine ⟨fun i hi => ?_, ?_, ?_⟩
          · rw [v4 _ (by omega)]; exact u6 i hi
          · rw [v4 _ (by omega)]; exact u7
          · rw [v4 _ (by omega)]; exact u8
        | succ j =>
          rw [List.getElem?_cons_succ] at hx
          have := v5 j x hx
          rw [show k + (j + 1) = k + 1 + j by omega]
          exact this
