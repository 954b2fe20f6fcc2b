/-! Part 51: unfolding a term, and what its tree says -/
section Tree2
variable {K F B O T Z : Nat → Int32} {n d : Nat}
theorem lay_congr {P Q P' Q' : Nat → Int32} (hn : n ≤ 24) (hw : ∀ t, t < n → wfT K F B O T Z t) : ∀ f t k, t < n → (∀ j, k ≤ j → j < k + szN Z t → P' j = P j ∧ Q' j = Q j) → Lay O T Z P Q f t k → Lay O T Z P' Q' f t k := by
  intro f
  induction f with
  | zero => intro t k _ _ h; exact h
  | succ f ih =>
    intro t k ht hpq ⟨h1, h2, h3, h4⟩
    rcases wfT_sh (hw t ht) with ⟨o, w, z, -⟩ | ⟨a, ha, o, w, z1, z, -⟩ | ⟨a, b, ha, hb, o, w, z1, z2, z, -⟩
    · have e := hpq k (by omega) (by omega)
      exact ⟨by rw [e.1]; exact h1, by rw [e.2]; exact h2, Or.inl o, Or.inl w⟩
    · have e := hpq k (by omega) (by omega)
      refine ⟨by rw [e.1]; exact h1, by rw [e.2]; exact h2, Or.inr ?_, Or.inl w⟩
      rcases h3 with h3 | h3
      · rw [o] at h3; exact absurd h3 (n5n a (by omega))
      · rw [o, nI_clamp (by omega)] at h3 ⊢
        exact ih a (k + 1) (by omega) (fun j h5 h6 => hpq j (by omega) (by omega)) h3
    · have e := hpq k (by omega) (by omega)
      refine ⟨by rw [e.1]; exact h1, by rw [e.2]; exact h2, Or.inr ?_, Or.inr ?_⟩
      · rcases h3 with h3 | h3
        · rw [o] at h3; exact absurd h3 (n5n a (by omega))
        · rw [o, nI_clamp (by omega)] at h3 ⊢
          exact ih a (k + 1) (by omega) (fun j h5 h6 => hpq j (by omega) (by omega)) h3
      · rcases h4 with h4 | ⟨h4, h5⟩
        · rw [w] at h4; exact absurd h4 (n5n b (by omega))
        · refine ⟨by rw [e.2]; exact h4, ?_⟩
          rw [o, w, nI_clamp (by omega), nI_clamp (by omega)] at h5 ⊢
          exact ih b _ (by omega) (fun j h6 h7 => hpq j (by unfold szN at *; omega) (by unfold szN at *; omega)) h5
/-- unfolding goes on from a place to another -/
def Unf (d k k' : Nat) (S S' : tb_St) : Prop := ∀ (r : tb_St) (w1 w3 w4 w5 : Value), (∀ w3 w4 w5, tb_E (d + 3) mX6_unfold tb_dV 35 [.ref 24, w1, .int (nI k'), w3, w4, w5] [] tb_S S' = some r) → tb_E (d + 3) mX6_unfold tb_dV 35 [.ref 24, w1, .int (nI k), w3, w4, w5] [] tb_S S = some r
theorem c_unf {len : Nat} (hw : ∀ t, t < n → wfT K F B O T Z t) (h40 : len ≤ 40) : ∀ f t S k, t < f → t < n → tabs K F B O T Z n S → S 24 4 = nI len → S 25 k = nI t → k + szN Z t ≤ len →
    ∃ S', Unf d k (k + szN Z t) S S' ∧ (∀ q, q ≠ 25 → q ≠ 26 → S' q = S q) ∧ (∀ j, (j < k ∨ k + szN Z t ≤ j) → S' 25 j = S 25 j ∧ S' 26 j = S 26 j) ∧ Lay O T Z (S' 25) (S' 26) f t k := by
  intro f
  induction f with
  | zero => intro t S k h; omega
  | succ f ih =>
    intro t S k hf ht hT hl hp hk
    have hn := hT.1
    have zp : ∀ x, x < n → Z x = nI (szN Z x) ∧ szN Z x ≤ 40 := by
      intro x hx
      unfold szN
      rcases hw x hx with w | w | ⟨w1, w2, w3, w4, a, z, w5, w6, w7, w8, w9, w10⟩ | ⟨w1, w2, w3, w4, a, z, w5, w6, w7, w8, w9, w10⟩ | ⟨w1, w2, w3, a, b, z, w, w5, w6, w7, w8, w9, w10, w11, w12, w13, w14⟩
      · rw [w.2.2.2.2.2]; exact ⟨rfl, by decide⟩
      · rw [w.2.2.2.2.2]; exact ⟨rfl, by decide⟩
      · rw [w10, nI_clamp (by omega)]; exact ⟨rfl, by omega⟩
      · rw [w10, nI_clamp (by omega)]; exact ⟨rfl, by omega⟩
      · rw [w14, nI_clamp (by omega)]; exact ⟨rfl, by omega⟩
    rcases wfT_sh (hw t ht) with ⟨o, w, z, -⟩ | ⟨a, ha, o, w, z1, z, -⟩ | ⟨a, b, ha, hb, o, w, z1, z2, z, -⟩
    · obtain ⟨V, v1, v2, v3, v4⟩ := c_unf1 (d := d) (o := none) (w := none) hT hl h40 (by omega) ht hp o w (by simp) (by simp) ⟨rfl, show (0 : Int32).toNatClampNeg ≤ 40 by decide⟩
      refine ⟨V, ?_, v2, fun j hj => ⟨by rw [v4]; simp, by rw [v3, upd_rd, if_neg (by omega)]⟩, ?_⟩
      · rw [z]; exact v1
      · refine ⟨by rw [v4]; simpa using hp, ⟨k + 1, by omega, by rw [v3, upd_rd, if_pos rfl]; rfl⟩, Or.inl o, Or.inl w⟩
    · have za := zp a (by omega)
      obtain ⟨V, v1, v2, v3, v4⟩ := c_unf1 (d := d) (o := some a) (w := none) hT hl h40 (by omega) ht hp o w (by rintro _ ⟨⟩; omega) (by simp) (by simp only [szo]; exact ⟨za.1, za.2⟩)
      have hV : tabs K F B O T Z n V := hT.keep (fun q hq => v2 q (by omega) (by omega))
      obtain ⟨W, u1, u2, u3, u4⟩ := ih a V (k + 1) (by omega) (by omega) hV (by rw [v2 24 (by omega) (by omega)]; exact hl) (by rw [v4]; simp [oN]) (by omega)
      refine ⟨W, ?_, fun q h1 h2 => by rw [u2 q h1 h2, v2 q h1 h2], fun j hj => ?_, ?_⟩
      · intro r w1 w3 w4 w5 hr
        refine v1 r w1 w3 w4 w5 (fun w3 w4 w5 => u1 r w1 w3 w4 w5 ?_)
        rw [show k + 1 + szN Z a = k + szN Z t by omega]
        exact hr
      · obtain ⟨q1, q2⟩ := u3 j (by omega)
        rw [q1, q2, v3, upd_rd, if_neg (by omega), v4]
        simp
        omega
      · obtain ⟨q1, q2⟩ := u3 k (by omega)
        refine ⟨by rw [q1, v4]; simpa using hp, ⟨k + 1 + szN Z a, by omega, by rw [q2, v3, upd_rd, if_pos rfl]; rfl⟩, Or.inr ?_, Or.inl w⟩
        rw [o, nI_clamp (by omega)]
        exact u4
    · have za := zp a (by omega)
      have ea : (szo Z (some a)).toNatClampNeg = szN Z a := rfl
      obtain ⟨V, v1, v2, v3, v4⟩ := c_unf1 (d := d) (o := some a) (w := some b) hT hl h40 (by omega) ht hp o w (by rintro _ ⟨⟩; omega) (by rintro _ ⟨⟩; rw [ea]; omega) (by simp only [szo]; exact ⟨za.1, za.2⟩)
      rw [ea] at v3
      simp only [ea] at v4
      have hV : tabs K F B O T Z n V := hT.keep (fun q hq => v2 q (by omega) (by omega))
      obtain ⟨W, u1, u2, u3, u4⟩ := ih a V (k + 1) (by omega) (by omega) hV (by rw [v2 24 (by omega) (by omega)]; exact hl) (by rw [v4, if_neg (by omega)]; simp [oN]) (by omega)
      have hW : tabs K F B O T Z n W := hV.keep (fun q hq => u2 q (by omega) (by omega))
      obtain ⟨X, x1, x2, x3, x4⟩ := ih b W (k + 1 + szN Z a) (by omega) (by omega) hW (by rw [u2 24 (by omega) (by omega), v2 24 (by omega) (by omega)]; exact hl) (by rw [(u3 _ (by omega)).1, v4]; simp [oN]) (by omega)
      refine ⟨X, ?_, fun q h1 h2 => by rw [x2 q h1 h2, u2 q h1 h2, v2 q h1 h2], fun j hj => ?_, ?_⟩
      · intro r w1 w3 w4 w5 hr
        refine v1 r w1 w3 w4 w5 (fun w3 w4 w5 => u1 r w1 w3 w4 w5 (fun w3 w4 w5 => x1 r w1 w3 w4 w5 ?_))
        rw [show k + 1 + szN Z a + szN Z b = k + szN Z t by omega]
        exact hr
      · obtain ⟨p1, p2⟩ := x3 j (by omega)
        obtain ⟨q1, q2⟩ := u3 j (by omega)
        rw [p1, p2, q1, q2, v3, upd_rd, if_neg (by omega), v4, if_neg (by omega), if_neg (by omega)]
        exact ⟨rfl, rfl⟩
      · obtain ⟨p1, p2⟩ := x3 k (by omega)
        obtain ⟨q1, q2⟩ := u3 k (by omega)
        have e26 : X 26 k = nI (k + 1 + szN Z a) := by rw [p2, q2, v3, upd_rd, if_pos rfl]
        refine ⟨by rw [p1, q1, v4, if_neg (by omega), if_neg (by omega)]; exact hp, ⟨k + 1 + szN Z a, by omega, e26⟩, Or.inr ?_, Or.inr ?_⟩
        · rw [o, nI_clamp (by omega)]
          exact lay_congr hn hw f a (k + 1) (by omega) (fun j h1 h2 => x3 j (by omega)) u4
        · rw [o, w, nI_clamp (by omega), nI_clamp (by omega)]
          exact ⟨e26, x4⟩
/-- what a call of unfold leaves -/
theorem c_unfold {S : tb_St} {t : Nat} (hw : ∀ t, t < n → wfT K F B O T Z t) (hT : tabs K F B O T Z n S) (ht : t < n) :
    ∃ S', tb_cV (d + 4) mX6_unfold [.ref 24, .int (nI t)] S = some S' ∧ (∀ q, q ≠ 24 → q ≠ 25 → q ≠ 26 → S' q = S q) ∧ S' 24 4 = nI (szN Z t) ∧ S' 24 5 = -1 ∧ S' 24 6 = -1 ∧ szN Z t ≤ 40 ∧ 1 ≤ szN Z t ∧ Lay O T Z (S' 25) (S' 26) 24 t 0 := by
  have hn := hT.1
  have hz : Z t = nI (szN Z t) ∧ szN Z t ≤ 40 ∧ 1 ≤ szN Z t := by
    unfold szN
    rcases hw t ht with w | w | ⟨w1, w2, w3, w4, a, z, w5, w6, w7, w8, w9, w10⟩ | ⟨w1, w2, w3, w4, a, z, w5, w6, w7, w8, w9, w10⟩ | ⟨w1, w2, w3, a, b, z, w, w5, w6, w7, w8, w9, w10, w11, w12, w13, w14⟩
    · rw [w.2.2.2.2.2]; exact ⟨rfl, by decide⟩
    · rw [w.2.2.2.2.2]; exact ⟨rfl, by decide⟩
    · rw [w10, nI_clamp (by omega)]; exact ⟨rfl, by omega⟩
    · rw [w10, nI_clamp (by omega)]; exact ⟨rfl, by omega⟩
    · rw [w14, nI_clamp (by omega)]; exact ⟨rfl, by omega⟩
  have hm : tb_min (Z t) 40 = nI (szN Z t) := by
    unfold tb_min
    rw [hz.1]
    rw [if_neg]
    rw [show (40 : Int32) = nI 40 from rfl, n_lt (by omega) (by omega)]
    omega
  generalize hU : tb_up (tb_up (tb_up S 24 4 (nI (szN Z t))) 24 5 (-1)) 24 6 (-1) = U
  have u1 : ∀ q, q ≠ 24 → U q = S q := fun q h => by subst hU; rw [up_ne h, up_ne h, up_ne h]
  have hUt : tabs K F B O T Z n U := hT.keep (fun q hq => u1 q (by omega))
  have u4 : U 24 4 = nI (szN Z t) := by subst hU; simp [up_rd]
  obtain ⟨X, x1, x2, x3, x4⟩ := c_unf (d := d) hw hz.2.1 24 t (tb_up U 25 0 (nI t)) 0 (by omega) ht (hUt.keep (fun q hq => up_ne (by omega))) (by rw [up_ne (by omega)]; exact u4) (by simp [up_rd]) (by omega)
  refine ⟨X, MX6_unfold ?_, fun q h1 h2 h3 => by rw [x2 q h2 h3, up_ne h2, u1 q h1], ?_, ?_, ?_, hz.2.1, hz.2.2, x4⟩
  · have es : tb_cI (d + 3) mX5_sizeOf [.ref 2, .int (nI t)] S = some (Z t, S) := by
      have := c_size (d := d + 1) (o := some t) hn hT.2.1 (by rintro _ ⟨⟩; exact ht)
      rw [hT.2.2.2.2.2.2.2] at this
      exact this
    rw [es]
    simp only [Option.bind_some, hm, hU]
    have := c_setY (d := d + 1) (p := 0) hUt u4 hz.2.1 (by omega) ht
    rw [show nI 0 = 0 from rfl] at this
    rw [this]
    simp only [Option.bind_some]
    refine x1 X _ _ _ _ (fun w3 w4 w5 => BX6_unfold_35 ?_)
    rw [x2 24 (by omega) (by omega), up_ne (by omega), u4, if_pos (by rw [n_le (by omega) (by omega)]; omega)]
  · rw [x2 24 (by omega) (by omega), up_ne (by omega)]; exact u4
  · rw [x2 24 (by omega) (by omega), up_ne (by omega)]; subst hU; simp [up_rd]
  · rw [x2 24 (by omega) (by omega), up_ne (by omega)]; subst hU; simp [up_rd]
end Tree2
