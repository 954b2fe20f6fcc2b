/-! Part 79: packing: both lists are the same -/
theorem pkL_cg {al bl : Nat → Nat → Bool} : ∀ g c (D E : Nat → Bool), c + g = 224 → (∀ x, x < 224 → D x = E x) → (∀ c x, c < 224 → x < 224 → D c = false → D x = false → al c x = bl c x) → pkL al g c D = pkL bl g c E := by
  intro g
  induction g with
  | zero => intro c D E _ _ _; rfl
  | succ g ih =>
    intro c D E hc hD hal
    have hc' : c < 224 := by omega
    unfold pkL
    rw [← hD c hc']
    cases e : D c with
    | true =>
      rw [if_pos rfl, if_pos rfl]
      exact ih (c + 1) D E (by omega) hD hal
    | false =>
      rw [if_neg (by simp), if_neg (by simp)]
      have hb : boxOf (fun x => !D x && al c x) c = boxOf (fun x => !E x && bl c x) c := by
        refine boxOf_cg (fun x hx => ?_) hc'
        show (!D x && al c x) = (!E x && bl c x)
        rw [← hD x hx]
        cases e2 : D x with
        | true => rfl
        | false => rw [hal c x hc' hx e e2]
      rw [hb]
      congr 1
      refine ih (c + 1) _ _ (by omega) (fun x hx => ?_) (fun c x h1 h2 h3 h4 => ?_)
      · show (D x || _) = (E x || _)
        rw [hD x hx]
      · rw [Bool.or_eq_false_iff] at h3 h4
        exact hal c x h1 h2 h3.1 h4.1
