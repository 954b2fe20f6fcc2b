/-! Part 63: pair: idle -/
section Idle
variable {K F B O T Z : Nat → Int32} {n d : Nat}
theorem wh_nil {w : Int32} {l : List (Nat × Nat)} {ρ ρ' : Nat} (h : nI ρ = w) (h2 : ρ < ρ') (h3 : ρ' + l.length < 2 ^ 31) : fd w l ρ' = none := by
  cases e : fd w l ρ' with
  | none => rfl
  | some y =>
    obtain ⟨-, j, h4, h5⟩ := fd_some _ _ e
    rw [← h5, n_eq (by omega) (by omega)] at h
    omega
theorem mt_of {w : Int32} {p : Nat} {q : Nat → Bool} (hn : n ≤ 24) (hw : ∀ t, t < n → wfT K F B O T Z t) (hq : ∀ j, j < 1000 → q j = decide (j = p)) : ∀ f t k ρ, t < n → k + szN Z t < 1000 → ρ + szN Z t < 1000 → ((fd w (rl K O T Z f t k) ρ = none ∧ (p < k ∨ k + szN Z t ≤ p)) ∨ ∃ x, fd w (rl K O T Z f t k) ρ = some x ∧ x.1 = p) → Mt K O T Z q (rof w) f t k ρ := by
  intro f
  induction f with
  | zero => intro t k ρ _ _ _ _; trivial
  | succ f ih =>
    intro t k ρ ht hk hρ h
    have z1 : 1 ≤ szN Z t := by
      rcases wfT_sh (hw t ht) with ⟨o, w, z, -⟩ | ⟨a, ha, o, w, z1, z, -⟩ | ⟨a, b, ha, hb, o, w, z1, z2, z, -⟩ <;> omega
    have hlen : (if K t = 2 then [(k, t)] else []).length = if K t = 2 then 1 else 0 := by split <;> rfl
    have hc1 : (if K t = 2 then 1 else 0) ≤ 1 := by split <;> omega
    have hr : rof w ρ = decide (nI ρ = w) := by
      unfold rof
      congr 1
      rw [eq_iff_iff]
      exact ⟨fun z => z.2, fun z => ⟨by omega, z⟩⟩
    -- the node
    have node : (fd w (if K t = 2 then [(k, t)] else []) ρ = none ∧ p ≠ k) ∨ (∃ x, fd w (if K t = 2 then [(k, t)] else []) ρ = some x ∧ x.1 = p) → q k = (decide (K t = 2) && rof w ρ) := by
      intro h
      rw [hq k (by omega), hr]
      by_cases e : K t = 2
      · rw [if_pos e] at h
        unfold fd at h
        by_cases e2 : nI ρ = w
        · rw [if_pos e2] at h
          rcases h with ⟨h, -⟩ | ⟨x, h, hp⟩
          · cases h
          · cases h
            simp [e, e2, ← hp]
        · rw [if_neg e2] at h
          rcases h with ⟨-, h⟩ | ⟨x, h, hp⟩
          · simp [e2, Ne.symm h]
          · cases h
      · rw [if_neg e] at h
        rcases h with ⟨-, h⟩ | ⟨x, h, hp⟩
        · simp [e, Ne.symm h]
        · cases h
    have inh : ∀ x, x ∈ (if K t = 2 then [(k, t)] else []) → x.1 = k := by
      intro x hx
      split at hx
      · rw [List.mem_singleton] at hx; rw [hx]
      · cases hx
    unfold rl at h
    unfold Mt
    generalize hh : (if K t = 2 then [(k, t)] else []) = hd at *
    generalize hc : (if K t = 2 then 1 else 0) = c1 at *
    rw [fd_app, hlen] at h
    rcases wfT_sh (hw t ht) with ⟨o, w', z, -⟩ | ⟨a, ha, o, w', z1, z, -⟩ | ⟨a, b, ha, hb, o, w', z1, z2, z, -⟩
    · rw [if_pos o, if_pos w', List.append_nil] at h
      refine ⟨node ?_, Or.inl o, Or.inl w'⟩
      have e0 : fd w [] (ρ + c1) = none := rfl
      rw [e0, Option.or_none] at h
      rcases h with ⟨h1, h2⟩ | h
      · exact Or.inl ⟨h1, by omega⟩
      · exact Or.inr h
    · have hO : ¬ O t = -5 := by rw [o]; exact n5n a (by omega)
      rw [if_neg hO, if_pos w', List.append_nil, o, nI_clamp (by omega)] at h
      have hin := fun x hx => rl_in (F := F) (B := B) hw hn f a (k + 1) (show a < n by omega) x hx
      rw [o, nI_clamp (by omega)]
      have la := wh_le (K := K) (F := F) (B := B) (O := O) (T := T) hw hn f a (by omega)
      cases e : fd w hd ρ with
      | some y =>
        rw [e] at h
        rcases h with ⟨h, -⟩ | ⟨x, h, hp⟩
        · cases h
        · cases h
          have hk' := inh _ (fd_some _ _ e).1
          have e2 := fd_once e (ρ' := ρ + c1) (b := rl K O T Z f a (k + 1)) (by rw [hlen]; exact Nat.le_refl _) (by rw [rl_len]; omega)
          exact ⟨node (Or.inr ⟨_, e, hp⟩), Or.inr (ih a _ _ (by omega) (by omega) (by omega) (Or.inl ⟨e2, by omega⟩)), Or.inl w'⟩
      | none =>
        rw [e, Option.none_or] at h
        rcases h with ⟨h1, h2⟩ | ⟨x, h, hp⟩
        · exact ⟨node (Or.inl ⟨e, by omega⟩), Or.inr (ih a _ _ (by omega) (by omega) (by omega) (Or.inl ⟨h1, by omega⟩)), Or.inl w'⟩
        · have := hin x (fd_some _ _ h).1
          exact ⟨node (Or.inl ⟨e, by omega⟩), Or.inr (ih a _ _ (by omega) (by omega) (by omega) (Or.inr ⟨x, h, hp⟩)), Or.inl w'⟩
    · have hO : ¬ O t = -5 := by rw [o]; exact n5n a (by omega)
      have hW : ¬ T t = -5 := by rw [w']; exact n5n b (by omega)
      have ez : (Z a).toNatClampNeg = szN Z a := rfl
      rw [if_neg hO, if_neg hW, o, w', nI_clamp (by omega), nI_clamp (by omega), fd_app, rl_len, ez] at h
      rw [o, w', nI_clamp (by omega), nI_clamp (by omega), ez]
      have hina := fun x hx => rl_in (F := F) (B := B) hw hn f a (k + 1) (show a < n by omega) x hx
      have hinb := fun x hx => rl_in (F := F) (B := B) hw hn f b (k + 1 + szN Z a) (show b < n by omega) x hx
      have la := wh_le (K := K) (F := F) (B := B) (O := O) (T := T) hw hn f a (by omega)
      have lb := wh_le (K := K) (F := F) (B := B) (O := O) (T := T) hw hn f b (by omega)
      cases e : fd w hd ρ with
      | some y =>
        rw [e] at h
        rcases h with ⟨h, -⟩ | ⟨x, h, hp⟩
        · cases h
        · cases h
          have hk' := inh _ (fd_some _ _ e).1
          have e2 := fd_once e (ρ' := ρ + c1) (b := rl K O T Z f a (k + 1)) (by rw [hlen]; exact Nat.le_refl _) (by rw [rl_len]; omega)
          have e3 := fd_once e (ρ' := ρ + c1 + wh K O T f a) (b := rl K O T Z f b (k + 1 + szN Z a)) (by rw [hlen]; omega) (by rw [rl_len]; omega)
          exact ⟨node (Or.inr ⟨_, e, hp⟩), Or.inr (ih a _ _ (by omega) (by omega) (by omega) (Or.inl ⟨e2, by omega⟩)), Or.inr (ih b _ _ (by omega) (by omega) (by omega) (Or.inl ⟨e3, by omega⟩))⟩
      | none =>
        rw [e, Option.none_or] at h
        cases e2 : fd w (rl K O T Z f a (k + 1)) (ρ + c1) with
        | some y =>
          rw [e2] at h
          rcases h with ⟨h, -⟩ | ⟨x, h, hp⟩
          · cases h
          · cases h
            have := hina _ (fd_some _ _ e2).1
            have e3 := fd_once e2 (ρ' := ρ + c1 + wh K O T f a) (b := rl K O T Z f b (k + 1 + szN Z a)) (by rw [rl_len]; exact Nat.le_refl _) (by rw [rl_len]; omega)
            exact ⟨node (Or.inl ⟨e, by omega⟩), Or.inr (ih a _ _ (by omega) (by omega) (by omega) (Or.inr ⟨_, e2, hp⟩)), Or.inr (ih b _ _ (by omega) (by omega) (by omega) (Or.inl ⟨e3, by omega⟩))⟩
        | none =>
          rw [e2, Option.none_or] at h
          rcases h with ⟨h1, h2⟩ | ⟨x, h, hp⟩
          · exact ⟨node (Or.inl ⟨e, by omega⟩), Or.inr (ih a _ _ (by omega) (by omega) (by omega) (Or.inl ⟨e2, by omega⟩)), Or.inr (ih b _ _ (by omega) (by omega) (by omega) (Or.inl ⟨h1, by omega⟩))⟩
          · have := hinb x (fd_some _ _ h).1
            exact ⟨node (Or.inl ⟨e, by omega⟩), Or.inr (ih a _ _ (by omega) (by omega) (by omega) (Or.inl ⟨e2, by omega⟩)), Or.inr (ih b _ _ (by omega) (by omega) (by omega) (Or.inr ⟨x, h, hp⟩))⟩
end Idle
