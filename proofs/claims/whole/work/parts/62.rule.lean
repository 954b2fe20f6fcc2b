/-! Part 62: pairs: rule, idle -/
theorem jts_w {n : Nat} {S : tb_St} (hT : jTS n S) : ∀ t, t < n → wfT (S 3) (S 4) (S 5) (S 6) (S 7) (S 8) t := fun t ht => (hT.2.2.2 t ht).2
theorem jts_z {n t : Nat} {S : tb_St} (hT : jTS n S) (ht : t < n) : szN (S 8) t ≤ 40 := by
  have hn := hT.1
  rcases wfT_sh (jts_w hT t ht) with ⟨o, w, z, -⟩ | ⟨a, ha, o, w, z1, z, z40, -⟩ | ⟨a, b, ha, hb, o, w, z1, z2, z, z40, -⟩
  · omega
  · omega
  · omega
/-- the rules of a term -/
def rlS (S : tb_St) (t : Nat) : List (Nat × Nat) := rl (S 3) (S 6) (S 7) (S 8) 24 t 0
theorem rlS_len {n t : Nat} {S : tb_St} (hT : jTS n S) (ht : t < n) : (rlS S t).length ≤ 40 := by
  have hn := hT.1
  unfold rlS
  rw [rl_len]
  exact Nat.le_trans (wh_le (K := S 3) (F := S 4) (B := S 5) (O := S 6) (T := S 7) (jts_w hT) hn 24 t ht) (jts_z hT ht)
theorem c_place {d n t : Nat} {S S' : tb_St} {w : Int32} (hT : jTS n S) (ht : t < n) (hR : TR S n t S') : tb_cI (d + 3) mX6_placeOfRule [.ref 24, .int w] S' = some (match fd w (rlS S t) 0 with | some x => nI x.1 | none => -1, S') := by
  obtain ⟨h1, h2, h3, h4, h5, h6⟩ := hR
  obtain ⟨p1, p2, -⟩ := c_fd (d := d) (w := w) (jts_w hT) h1 h2 h3 24 t 0 0 ht (by omega) h5
  refine MX6_placeOfRule ?_
  cases e : fd w (rlS S t) 0 with
  | some x => exact p1 x e
  | none =>
    refine p2 e _ (BX6_placeOfRule_4 ?_)
    rw [h2, if_pos (n_le' (by omega) (by omega) (by omega))]
theorem c_rules {d n t : Nat} {S S' : tb_St} (hT : jTS n S) (ht : t < n) (hR : TR S n t S') : tb_cI (d + 3) mX6_ruleCount [.ref 24] S' = some (nI (rlS S t).length, S') := by
  obtain ⟨h1, h2, h3, h4, h5, h6⟩ := hR
  obtain ⟨-, -, p3⟩ := c_fd (d := d) (w := 0) (jts_w hT) h1 h2 h3 24 t 0 0 ht (by omega) h5
  refine MX6_ruleCount (p3 _ (BX6_ruleCount_4 ?_))
  rw [h2, if_pos (n_le' (by omega) (by omega) (by omega))]
  unfold rlS
  rw [rl_len, Nat.zero_add]
noncomputable def ruleV (S : tb_St) (t : Nat) (b : Int32) : Int32 := if b = -1 then nI (rlS S t).length else fdT b (rlS S t) 0 (-1)
theorem lay_at {K F B O T Z : Nat → Int32} {n : Nat} {P Q : Nat → Int32} (hn : n ≤ 24) (hw : ∀ t, t < n → wfT K F B O T Z t) : ∀ f t k, t < n → Lay O T Z P Q f t k → ∀ x, x ∈ rl K O T Z f t k → P x.1 = nI x.2 := by
  intro f
  induction f with
  | zero => intro t k _ h; exact h.elim
  | succ f ih =>
    intro t k ht hL x hx
    obtain ⟨l1, -, l3, l4⟩ := hL
    unfold rl at hx
    rw [List.mem_append, List.mem_append] at hx
    have h0 : x ∈ (if K t = 2 then [(k, t)] else []) → P x.1 = nI x.2 := by
      intro h
      split at h
      · rw [List.mem_singleton] at h
        rw [h]
        exact l1
      · cases h
    rcases wfT_sh (hw t ht) with ⟨o, w, z, -⟩ | ⟨a, ha, o, w, z1, z, -⟩ | ⟨a, b, ha, hb, o, w, z1, z2, z, -⟩
    · rw [if_pos o, if_pos w] at hx
      rcases hx with h | h | h
      · exact h0 h
      · cases h
      · cases h
    · have hO : ¬ O t = -5 := by rw [o]; exact n5n a (by omega)
      have l3' := l3.resolve_left hO
      rw [if_neg hO, if_pos w, o, nI_clamp (by omega)] at hx
      rw [o, nI_clamp (by omega)] at l3'
      rcases hx with h | h | h
      · exact h0 h
      · exact ih a _ (by omega) l3' x h
      · cases h
    · have hO : ¬ O t = -5 := by rw [o]; exact n5n a (by omega)
      have hW : ¬ T t = -5 := by rw [w]; exact n5n b (by omega)
      have l3' := l3.resolve_left hO
      have l4' := (l4.resolve_left hW).2
      rw [if_neg hO, if_neg hW, o, w, nI_clamp (by omega), nI_clamp (by omega)] at hx
      rw [o, nI_clamp (by omega)] at l3' l4'
      rw [w, nI_clamp (by omega)] at l4'
      rcases hx with h | h | h
      · exact h0 h
      · exact ih a _ (by omega) l3' x h
      · exact ih b _ (by omega) l4' x h
theorem kp_1618 {T T' : tb_St} (h : ∀ q i, ¬ (q = 45 ∧ (i = 16 ∨ i = 17 ∨ i = 18)) → T' q i = T q i) : tb_Kp T T' := by
  refine ⟨fun q hq => ?_, h _ _ (by omega), h _ _ (by omega), fun f hf => h _ _ ?_⟩
  · funext i
    refine h q i (fun z => ?_)
    obtain ⟨rfl, -⟩ := z
    revert hq
    decide
  · rintro ⟨-, rfl | rfl | rfl⟩ <;> revert hf <;> decide
theorem r_rule {d n t : Nat} {S T : tb_St} {b : Int32} (hT : jTS n S) (ht : t < n) (hk : tb_Kp S T) : ∃ T', tb_cI (d + 26) mX8_rule [.ref 45, .int (nI t), .int b] T = some (ruleV S t b, T') ∧ tb_Kp T T' := by
  have hn := hT.1
  have hp : ∀ q, 46 ≤ q → q ≤ 50 → T q = S q := fun q h1 h2 => hk.p q (by
    obtain rfl | rfl | rfl | rfl | rfl : q = 46 ∨ q = 47 ∨ q = 48 ∨ q = 49 ∨ q = 50 := by omega
    all_goals rfl)
  generalize hU : tb_up (tb_up (tb_up T 45 16 0) 45 17 b) 45 18 (-1) = U
  have u16 : U 45 16 = 0 := by subst hU; simp [up_rd]
  have u17 : U 45 17 = b := by subst hU; simp [up_rd]
  have u18 : U 45 18 = -1 := by subst hU; simp [up_rd]
  obtain ⟨V, v1, v2, v3, v4⟩ := r_meets (d := d) (w := b) (jts_w hT) 24 t 0 0 U (by omega) ht ((r_tab hT hp).keep (fun q h1 h2 => by subst hU; rw [up_ne (by omega), up_ne (by omega), up_ne (by omega)])) u16 u17 (by have := jts_z hT ht; omega)
  refine ⟨V, MX8_rule ?_, kp_1618 (fun q i h => ?_)⟩
  · rw [r_termY hn (by rw [hk.f 0 rfl]; exact hT.2.2.1) ht]
    simp only [Option.bind_some, one0, not_false_eq_true, if_true, hU]
    rw [v1]
    simp only [Option.bind_some]
    unfold ruleV
    by_cases e : b = -1
    · rw [if_neg (fun z => z e), if_pos e, v2]
      unfold rlS
      rw [rl_len, Nat.zero_add]
    · rw [if_pos e, if_neg e, v3, u18]
      rfl
  · rw [v4 q i (by omega)]
    subst hU
    rw [up_rd, if_neg (by omega), up_rd, if_neg (by omega), up_rd, if_neg (by omega)]
theorem p_rule : ∀ a b : Int32, tb_PI mX7_rule mX8_rule [.int a, .int b] := by
  intro a b
  refine tb_PI_ask (fun S hJ => ?_)
  obtain ⟨n, hT⟩ := hJ.1
  have hn := hT.1
  have hT' : jTS n S := hT
  rcases term_or (n := n) (by omega) a with ⟨t, ht, rfl⟩ | hx
  · refine ⟨ruleV S t b, ?_, fun T hJT hk => r_rule (d := 74) hT' ht hk⟩
    obtain ⟨S', h1, h2, h3, h4⟩ := c_open (d := 95) hT' ht
    refine ⟨S', MX7_rule ?_, kp_of (fun q q1 q2 q3 q4 => h4 q q1 q2 q3)⟩
    rw [c_hasY hn hT.2.1 ht]
    simp only [Option.bind_some, one0, not_false_eq_true, if_true, h1]
    unfold ruleV
    by_cases e : b = -1
    · rw [if_neg (fun z => z e), if_pos e, c_rules hT' ht h2]
      simp only [Option.bind_some]
    · rw [if_pos e, if_neg e, c_place hT' ht h2]
      simp only [Option.bind_some]
      unfold fdT
      cases e2 : fd b (rlS S t) 0 with
      | none =>
        simp only []
        have : tb_cI 99 mX6_termAt [.ref 24, .int (-1)] S' = some (-1, S') := MX6_termAt (by rw [if_pos (show (-1 : Int32) < 0 by decide)])
        rw [this]
        rfl
      | some x =>
        simp only []
        obtain ⟨hm, -⟩ := fd_some _ _ e2
        have hin := rl_in (F := S 4) (B := S 5) (jts_w hT') hn 24 t 0 ht x hm
        have hL := lay_at hn (jts_w hT') 24 t 0 ht h2.2.2.2.2.1 x hm
        rw [c_termAt h2.2.1 h2.2.2.1 (show x.1 < szN (S 8) t by omega), hL]
        rfl
  · refine ⟨-1, ⟨S, MX7_rule ?_, tb_Kp.refl⟩, fun T hJT hk => ⟨T, MX8_rule ?_, tb_Kp.refl⟩⟩
    · rw [c_hasN hT.2.1 hx]
      simp only [Option.bind_some, not_true_eq_false, if_false]
    · rw [r_termN hn (by rw [hk.f 0 rfl]; exact hT.2.2.1) hx]
      simp only [Option.bind_some, not_true_eq_false, if_false]
