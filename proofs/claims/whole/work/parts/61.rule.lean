/-! Part 61: the rules of a term -/
section Rule
variable {K F B O T Z : Nat → Int32} {n d : Nat}
/-- the rules of a term in their order: place and term -/
def rl (K O T Z : Nat → Int32) : Nat → Nat → Nat → List (Nat × Nat)
  | 0, _, _ => []
  | f + 1, t, k => (if K t = 2 then [(k, t)] else []) ++ ((if O t = -5 then [] else rl K O T Z f (O t).toNatClampNeg (k + 1)) ++ (if T t = -5 then [] else rl K O T Z f (T t).toNatClampNeg (k + 1 + (Z (O t).toNatClampNeg).toNatClampNeg)))
theorem rl_len : ∀ f t k, (rl K O T Z f t k).length = wh K O T f t := by
  intro f
  induction f with
  | zero => intro t k; rfl
  | succ f ih =>
    intro t k
    unfold rl wh
    rw [List.length_append, List.length_append]
    have e1 : (if K t = 2 then [(k, t)] else []).length = if K t = 2 then 1 else 0 := by split <;> rfl
    have e2 : ∀ (p : Prop) [Decidable p] (l : List (Nat × Nat)), (if p then [] else l).length = if p then 0 else l.length := by intro p _ l; split <;> rfl
    rw [e1, e2, e2, ih, ih]
    omega
def fd (w : Int32) : List (Nat × Nat) → Nat → Option (Nat × Nat)
  | [], _ => none
  | x :: l, ρ => if nI ρ = w then some x else fd w l (ρ + 1)
theorem fd_app {w : Int32} : ∀ (a b : List (Nat × Nat)) ρ, fd w (a ++ b) ρ = (fd w a ρ).or (fd w b (ρ + a.length)) := by
  intro a
  induction a with
  | nil => intro b ρ; simp [fd]
  | cons x a ih =>
    intro b ρ
    rw [List.cons_append]
    unfold fd
    by_cases e : nI ρ = w
    · rw [if_pos e, if_pos e]; rfl
    · rw [if_neg e, if_neg e, ih, List.length_cons, show ρ + 1 + a.length = ρ + (a.length + 1) by omega]
      cases b with
      | nil => rfl
      | cons y b => rfl
theorem fd_some {w : Int32} {x : Nat × Nat} : ∀ l ρ, fd w l ρ = some x → x ∈ l ∧ ∃ i, i < l.length ∧ nI (ρ + i) = w := by
  intro l
  induction l with
  | nil => intro ρ h; cases h
  | cons y l ih =>
    intro ρ h
    unfold fd at h
    by_cases e : nI ρ = w
    · rw [if_pos e] at h
      cases h
      exact ⟨List.mem_cons_self, 0, by simp, by simpa using e⟩
    · rw [if_neg e] at h
      obtain ⟨h1, i, h2, h3⟩ := ih _ h
      refine ⟨List.mem_cons_of_mem _ h1, i + 1, by simp; omega, ?_⟩
      rw [← h3]
      congr 1
      omega
/-- a rank found in one part is in no later part -/
theorem fd_once {w : Int32} {x : Nat × Nat} {a b : List (Nat × Nat)} {ρ ρ' : Nat} (h : fd w a ρ = some x) (hr : ρ + a.length ≤ ρ') (hb : ρ' + b.length < 2 ^ 31) : fd w b ρ' = none := by
  cases e : fd w b ρ' with
  | none => rfl
  | some y =>
    obtain ⟨-, i, h1, h2⟩ := fd_some _ _ h
    obtain ⟨-, j, h3, h4⟩ := fd_some _ _ e
    rw [← h4, n_eq (by omega) (by omega)] at h2
    omega
theorem rl_in (hw : ∀ t, t < n → wfT K F B O T Z t) (hn : n ≤ 24) : ∀ f t k, t < n → ∀ x, x ∈ rl K O T Z f t k → k ≤ x.1 ∧ x.1 < k + szN Z t ∧ x.2 < n := by
  intro f
  induction f with
  | zero => intro t k _ x h; cases h
  | succ f ih =>
    intro t k ht x h
    unfold rl at h
    rw [List.mem_append, List.mem_append] at h
    have h0 : x ∈ (if K t = 2 then [(k, t)] else []) → k ≤ x.1 ∧ x.1 < k + 1 ∧ x.2 < n := by
      intro h
      split at h
      · rw [List.mem_singleton] at h
        rw [h]
        exact ⟨Nat.le_refl _, by omega, ht⟩
      · cases h
    rcases wfT_sh (hw t ht) with ⟨o, w, z, -⟩ | ⟨a, ha, o, w, z1, z, -⟩ | ⟨a, b, ha, hb, o, w, z1, z2, z, -⟩
    · rw [if_pos o, if_pos w] at h
      rcases h with h | h | h
      · have := h0 h; omega
      · cases h
      · cases h
    · rw [if_neg (show ¬ O t = -5 by rw [o]; exact n5n a (by omega)), if_pos w, o, nI_clamp (by omega)] at h
      rcases h with h | h | h
      · have := h0 h; omega
      · have := ih a (k + 1) (by omega) x h; omega
      · cases h
    · rw [if_neg (show ¬ O t = -5 by rw [o]; exact n5n a (by omega)), if_neg (show ¬ T t = -5 by rw [w]; exact n5n b (by omega)), o, w, nI_clamp (by omega), nI_clamp (by omega)] at h
      rcases h with h | h | h
      · have := h0 h; omega
      · have := ih a (k + 1) (by omega) x h; omega
      · have := ih b _ (by omega) x h
        have ez : (Z a).toNatClampNeg = szN Z a := rfl
        omega
theorem c_isRule {S : tb_St} {len k t : Nat} (hT : tabs K F B O T Z n S) (hl : S 24 4 = nI len) (h40 : len ≤ 40) (hk : k < len) (ht : t < n) (hp : S 25 k = nI t) : tb_cI (d + 2) mX6_isRule [.ref 24, .int (nI k)] S = some (if K t = 2 then 1 else 0, S) := by
  have hn := hT.1
  refine MX6_isRule ?_
  rw [c_termAt hl h40 hk]
  simp only [Option.bind_some, hp]
  rw [c_hasY hn hT.2.1 ht]
  simp only [Option.bind_some, one0, if_false, n_ix (show t < 24 by omega) (show 24 ≤ 2 ^ 31 by omega)]
  rw [hT.2.2.1]
  by_cases e : K t = 2
  · rw [if_neg (fun z => z e), if_pos e]
  · rw [if_pos e, if_neg e]
/-- C looks for a rule -/
theorem c_fd {S : tb_St} {len : Nat} {w : Int32} (hw : ∀ t, t < n → wfT K F B O T Z t) (hT : tabs K F B O T Z n S) (hl : S 24 4 = nI len) (h40 : len ≤ 40) : ∀ f t k ρ, t < n → k + szN Z t ≤ len → Lay O T Z (S 25) (S 26) f t k →
    (∀ x, fd w (rl K O T Z f t k) ρ = some x → tb_E (d + 2) mX6_placeOfRule tb_dI 4 [.ref 24, .int w, .int (nI ρ), .int (nI k)] [] tb_S S = some (nI x.1, S)) ∧
    (fd w (rl K O T Z f t k) ρ = none → ∀ r, tb_E (d + 2) mX6_placeOfRule tb_dI 4 [.ref 24, .int w, .int (nI (ρ + wh K O T f t)), .int (nI (k + szN Z t))] [] tb_S S = some r → tb_E (d + 2) mX6_placeOfRule tb_dI 4 [.ref 24, .int w, .int (nI ρ), .int (nI k)] [] tb_S S = some r) ∧
    (∀ r, tb_E (d + 2) mX6_ruleCount tb_dI 4 [.ref 24, .int (nI (ρ + wh K O T f t)), .int (nI (k + szN Z t))] [] tb_S S = some r → tb_E (d + 2) mX6_ruleCount tb_dI 4 [.ref 24, .int (nI ρ), .int (nI k)] [] tb_S S = some r) := by
  have hn := hT.1
  intro f
  induction f with
  | zero => intro t k ρ _ _ h; exact h.elim
  | succ f ih =>
    intro t k ρ ht hk hLay
    obtain ⟨l1, -, l3, l4⟩ := hLay
    have z1 : 1 ≤ szN Z t := by
      rcases wfT_sh (hw t ht) with ⟨o, w, z, -⟩ | ⟨a, ha, o, w, z1, z, -⟩ | ⟨a, b, ha, hb, o, w, z1, z2, z, -⟩ <;> omega
    have hr := c_isRule (d := d) hT hl h40 (show k < len by omega) ht l1
    have hlt : ¬ nI len ≤ nI k := n_nle (by omega) (by omega) (by omega)
    -- the node itself
    have g1 : ∀ x, fd w (if K t = 2 then [(k, t)] else []) ρ = some x → tb_E (d + 2) mX6_placeOfRule tb_dI 4 [.ref 24, .int w, .int (nI ρ), .int (nI k)] [] tb_S S = some (nI x.1, S) := by
      intro x hx
      by_cases e : K t = 2
      · rw [if_pos e] at hx hr
        unfold fd at hx
        by_cases e2 : nI ρ = w
        · rw [if_pos e2] at hx
          cases hx
          refine BX6_placeOfRule_4 ?_
          rw [hl, if_neg hlt, hr]
          simp only [Option.bind_some, one0, if_false]
          rw [if_neg (fun z => z e2)]
        · rw [if_neg e2] at hx; cases hx
      · rw [if_neg e] at hx; cases hx
    have g2 : fd w (if K t = 2 then [(k, t)] else []) ρ = none → ∀ r, tb_E (d + 2) mX6_placeOfRule tb_dI 4 [.ref 24, .int w, .int (nI (ρ + if K t = 2 then 1 else 0)), .int (nI (k + 1))] [] tb_S S = some r → tb_E (d + 2) mX6_placeOfRule tb_dI 4 [.ref 24, .int w, .int (nI ρ), .int (nI k)] [] tb_S S = some r := by
      intro hx r h
      refine BX6_placeOfRule_4 ?_
      rw [hl, if_neg hlt, hr]
      by_cases e : K t = 2
      · rw [if_pos e] at hx h
        rw [if_pos e]
        unfold fd at hx
        by_cases e2 : nI ρ = w
        · rw [if_pos e2] at hx; cases hx
        · simp only [Option.bind_some, one0, if_false, n_inc]
          rw [if_pos e2]
          exact h
      · rw [if_neg e] at h
        rw [if_neg e]
        simp only [Option.bind_some, if_true, n_inc]
        exact h
    have g3 : ∀ r, tb_E (d + 2) mX6_ruleCount tb_dI 4 [.ref 24, .int (nI (ρ + if K t = 2 then 1 else 0)), .int (nI (k + 1))] [] tb_S S = some r → tb_E (d + 2) mX6_ruleCount tb_dI 4 [.ref 24, .int (nI ρ), .int (nI k)] [] tb_S S = some r := by
      intro r h
      refine BX6_ruleCount_4 ?_
      rw [hl, if_neg hlt, hr]
      by_cases e : K t = 2
      · rw [if_pos e] at h
        rw [if_pos e]
        simp only [Option.bind_some, one0, if_false, n_inc]
        exact h
      · rw [if_neg e] at h
        rw [if_neg e]
        simp only [Option.bind_some, if_true, n_inc]
        exact h
    have hlen : (if K t = 2 then [(k, t)] else []).length = if K t = 2 then 1 else 0 := by split <;> rfl
    unfold rl wh
    generalize hh : (if K t = 2 then [(k, t)] else []) = hd at *
    generalize hc : (if K t = 2 then 1 else 0) = c1 at *
    rw [fd_app, hlen]
    rcases wfT_sh (hw t ht) with ⟨o, w', z, -⟩ | ⟨a, ha, o, w', z1, z, -⟩ | ⟨a, b, ha, hb, o, w', z1, z2, z, -⟩
    · rw [if_pos o, if_pos w', if_pos o, if_pos w', z]
      refine ⟨fun x hx => ?_, fun hx => ?_, g3⟩
      · cases e : fd w hd ρ with
        | some y => rw [e] at hx; cases hx; exact g1 _ e
        | none => rw [e] at hx; cases hx
      · cases e : fd w hd ρ with
        | some y => rw [e] at hx; cases hx
        | none => exact g2 e
    · have hO : ¬ O t = -5 := by rw [o]; exact n5n a (by omega)
      rw [if_neg hO, if_pos w', if_neg hO, if_pos w', o, nI_clamp (by omega), List.append_nil]
      have l3' := l3.resolve_left hO
      rw [o, nI_clamp (by omega)] at l3'
      obtain ⟨i1, i2, i3⟩ := ih a (k + 1) (ρ + c1) (by omega) (by omega) l3'
      rw [show k + 1 + szN Z a = k + szN Z t by omega] at i2 i3
      rw [show ρ + c1 + wh K O T f a = ρ + (c1 + wh K O T f a + 0) by omega] at i2 i3
      refine ⟨fun x hx => ?_, fun hx r h => ?_, fun r h => g3 r (i3 r h)⟩
      · cases e : fd w hd ρ with
        | some y => rw [e] at hx; cases hx; exact g1 _ e
        | none =>
          rw [e, Option.none_or] at hx
          exact g2 e _ (i1 x hx)
      · cases e : fd w hd ρ with
        | some y => rw [e] at hx; cases hx
        | none =>
          rw [e, Option.none_or] at hx
          exact g2 e _ (i2 hx r h)
    · have hO : ¬ O t = -5 := by rw [o]; exact n5n a (by omega)
      have hW : ¬ T t = -5 := by rw [w']; exact n5n b (by omega)
      rw [if_neg hO, if_neg hW, if_neg hO, if_neg hW, o, w', nI_clamp (by omega), nI_clamp (by omega), fd_app, rl_len]
      have l3' := l3.resolve_left hO
      have l4' := (l4.resolve_left hW).2
      rw [o, nI_clamp (by omega)] at l3' l4'
      rw [w', nI_clamp (by omega)] at l4'
      have ez : (Z a).toNatClampNeg = szN Z a := rfl
      rw [ez] at l4' ⊢
      obtain ⟨i1, i2, i3⟩ := ih a (k + 1) (ρ + c1) (by omega) (by omega) l3'
      obtain ⟨j1, j2, j3⟩ := ih b (k + 1 + szN Z a) (ρ + c1 + wh K O T f a) (by omega) (by omega) l4'
      rw [show k + 1 + szN Z a + szN Z b = k + szN Z t by omega] at j2 j3
      rw [show ρ + c1 + wh K O T f a + wh K O T f b = ρ + (c1 + wh K O T f a + wh K O T f b) by omega] at j2 j3
      refine ⟨fun x hx => ?_, fun hx r h => ?_, fun r h => g3 r (i3 r (j3 r h))⟩
      · cases e : fd w hd ρ with
        | some y => rw [e] at hx; cases hx; exact g1 _ e
        | none =>
          rw [e, Option.none_or] at hx
          cases e2 : fd w (rl K O T Z f a (k + 1)) (ρ + c1) with
          | some y => rw [e2] at hx; cases hx; exact g2 e _ (i1 _ e2)
          | none =>
            rw [e2, Option.none_or] at hx
            exact g2 e _ (i2 e2 _ (j1 x hx))
      · cases e : fd w hd ρ with
        | some y => rw [e] at hx; cases hx
        | none =>
          rw [e, Option.none_or] at hx
          cases e2 : fd w (rl K O T Z f a (k + 1)) (ρ + c1) with
          | some y => rw [e2] at hx; cases hx
          | none =>
            rw [e2, Option.none_or] at hx
            exact g2 e _ (i2 e2 _ (j2 hx r h))
def fdT (w : Int32) (l : List (Nat × Nat)) (ρ : Nat) (v : Int32) : Int32 := match fd w l ρ with
  | some x => nI x.2
  | none => v
/-- the reference looks for a rule -/
theorem r_meets {w : Int32} (hw : ∀ t, t < n → wfT K F B O T Z t) : ∀ f t k ρ (S : tb_St), t < f → t < n → rtab K F B O T n S → S 45 16 = nI ρ → S 45 17 = w → ρ + szN Z t < 1000 →
    ∃ S', tb_cV (d + f + 1) mX8_meets [.ref 45, .int (nI t)] S = some S' ∧ S' 45 16 = nI (ρ + wh K O T f t) ∧ S' 45 18 = fdT w (rl K O T Z f t k) ρ (S 45 18) ∧ ∀ q i, ¬ (q = 45 ∧ (i = 16 ∨ i = 18)) → S' q i = S q i := by
  intro f
  induction f with
  | zero => intro t k ρ S h; omega
  | succ f ih =>
    intro t k ρ S hf ht hR h16 h17 hρ
    have hn := hR.1
    obtain ⟨e46, e47, e48, e49, e50⟩ := hR.2 t ht
    have ix : tb_ix (nI t) 96 = some t := n_ix (by omega) (by omega)
    have key : ∀ S', (∀ q i, ¬ (q = 45 ∧ (i = 16 ∨ i = 18)) → S' q i = S q i) → rtab K F B O T n S' ∧ S' 45 17 = w := fun S' h => ⟨hR.keep (fun q h1 h2 => by funext i; exact h q i (fun z => by omega)), by rw [h 45 17 (by omega)]; exact h17⟩
    -- the node itself
    obtain ⟨U, u0, u1, u2, u3⟩ : ∃ U, (∀ r, tb_E (d + f + 1) mX8_meets tb_dV 38 [.ref 45, .int (nI t), .int (K t)] [] tb_S U = some r → tb_cV (d + (f + 1) + 1) mX8_meets [.ref 45, .int (nI t)] S = some r) ∧ U 45 16 = nI (ρ + if K t = 2 then 1 else 0) ∧ U 45 18 = fdT w (if K t = 2 then [(k, t)] else []) ρ (S 45 18) ∧ ∀ q i, ¬ (q = 45 ∧ (i = 16 ∨ i = 18)) → U q i = S q i := by
      by_cases e : K t = 2
      · rw [if_pos e, if_pos e]
        by_cases e2 : nI ρ = w
        · refine ⟨tb_up (tb_up S 45 18 (nI t)) 45 16 (nI (ρ + 1)), fun r hr => MX8_meets ?_, by rw [up_rd, if_pos ⟨rfl, rfl⟩], ?_, fun q i h => by rw [up_rd, if_neg (by omega), up_rd, if_neg (by omega)]⟩
          · rw [ix]
            simp only [Option.bind_some]
            rw [e46, if_neg (fun z => z e), h16, h17, if_neg (fun z => z e2), n_inc]
            exact hr
          · rw [up_rd, if_neg (by omega), up_rd, if_pos ⟨rfl, rfl⟩]
            unfold fdT fd
            rw [if_pos e2]
        · refine ⟨tb_up S 45 16 (nI (ρ + 1)), fun r hr => MX8_meets ?_, by rw [up_rd, if_pos ⟨rfl, rfl⟩], ?_, fun q i h => by rw [up_rd, if_neg (by omega)]⟩
          · rw [ix]
            simp only [Option.bind_some]
            rw [e46, if_neg (fun z => z e), h16, h17, if_pos e2, n_inc]
            exact hr
          · rw [up_rd, if_neg (by omega)]
            unfold fdT fd
            rw [if_neg e2]
            rfl
      · rw [if_neg e, if_neg e]
        refine ⟨S, fun r hr => MX8_meets ?_, h16, rfl, fun _ _ _ => rfl⟩
        rw [ix]
        simp only [Option.bind_some]
        rw [e46, if_pos e]
        exact hr
    have hlen : (if K t = 2 then [(k, t)] else []).length = if K t = 2 then 1 else 0 := by split <;> rfl
    have hc1 : (if K t = 2 then 1 else 0) ≤ 1 := by split <;> omega
    unfold rl wh
    generalize hh : (if K t = 2 then [(k, t)] else []) = hd at *
    generalize hc : (if K t = 2 then 1 else 0) = c1 at *
    obtain ⟨kU1, kU2⟩ := key U u3
    obtain ⟨f46, f47, f48, f49, f50⟩ := kU1.2 t ht
    have m5 : (-5 : Int32) < 0 := by decide
    rcases wfT_sh (hw t ht) with ⟨o, w', z, -⟩ | ⟨a, ha, o, w', z1, z, -⟩ | ⟨a, b, ha, hb, o, w', z1, z2, z, -⟩
    · refine ⟨U, u0 _ (BX8_meets_38 ?_), ?_, ?_, u3⟩
      · rw [ix]
        simp only [Option.bind_some]
        rw [f48, o, if_pos m5]
        refine BX8_meets_57 ?_
        rw [ix]
        simp only [Option.bind_some]
        rw [f49, w', if_pos m5]
      · rw [if_pos o, if_pos w', u1]; rfl
      · rw [if_pos o, if_pos w', List.append_nil, List.append_nil, u2]
    · have hO : ¬ O t = -5 := by rw [o]; exact n5n a (by omega)
      rw [if_neg hO, if_neg hO, if_pos w', if_pos w', o, nI_clamp (by omega), List.append_nil]
      obtain ⟨V, v1, v2, v3, v4⟩ := ih a (k + 1) (ρ + c1) U (by omega) (by omega) kU1 u1 kU2 (by omega)
      have hV : ∀ q i, ¬ (q = 45 ∧ (i = 16 ∨ i = 18)) → V q i = S q i := fun q i h => (v4 q i h).trans (u3 q i h)
      refine ⟨V, u0 _ (BX8_meets_38 ?_), by rw [v2]; congr 1; omega, ?_, hV⟩
      · rw [ix]
        simp only [Option.bind_some]
        rw [f48, o, if_neg (n_nlt (by omega)), v1]
        simp only [Option.bind_some]
        refine BX8_meets_57 ?_
        rw [ix]
        simp only [Option.bind_some]
        rw [v4 49 t (by omega), f49, w', if_pos m5]
      · rw [v3, u2]
        unfold fdT
        rw [fd_app, hlen]
        cases e : fd w hd ρ with
        | some x =>
          have ho := fd_once e (ρ' := ρ + c1) (b := rl K O T Z f a (k + 1)) (by rw [hlen]; exact Nat.le_refl _) (by rw [rl_len]; have := wh_le (K := K) (F := F) (B := B) (O := O) (T := T) hw hn f a (by omega); omega)
          rw [ho]
          rfl
        | none => rfl
    · have hO : ¬ O t = -5 := by rw [o]; exact n5n a (by omega)
      have hW : ¬ T t = -5 := by rw [w']; exact n5n b (by omega)
      have ez : (Z a).toNatClampNeg = szN Z a := rfl
      have la := wh_le (K := K) (F := F) (B := B) (O := O) (T := T) hw hn f a (by omega)
      have lb := wh_le (K := K) (F := F) (B := B) (O := O) (T := T) hw hn f b (by omega)
      rw [if_neg hO, if_neg hO, if_neg hW, if_neg hW, o, w', nI_clamp (by omega), nI_clamp (by omega), ez]
      obtain ⟨V, v1, v2, v3, v4⟩ := ih a (k + 1) (ρ + c1) U (by omega) (by omega) kU1 u1 kU2 (by omega)
      have hV : ∀ q i, ¬ (q = 45 ∧ (i = 16 ∨ i = 18)) → V q i = S q i := fun q i h => (v4 q i h).trans (u3 q i h)
      obtain ⟨kV1, kV2⟩ := key V hV
      obtain ⟨X, x1, x2, x3, x4⟩ := ih b (k + 1 + szN Z a) (ρ + c1 + wh K O T f a) V (by omega) (by omega) kV1 v2 kV2 (by omega)
      have hX : ∀ q i, ¬ (q = 45 ∧ (i = 16 ∨ i = 18)) → X q i = S q i := fun q i h => (x4 q i h).trans (hV q i h)
      refine ⟨X, u0 _ (BX8_meets_38 ?_), by rw [x2]; congr 1; omega, ?_, hX⟩
      · rw [ix]
        simp only [Option.bind_some]
        rw [f48, o, if_neg (n_nlt (by omega)), v1]
        simp only [Option.bind_some]
        refine BX8_meets_57 ?_
        rw [ix]
        simp only [Option.bind_some]
        rw [v4 49 t (by omega), f49, w', if_neg (n_nlt (by omega)), x1]
        rfl
      · rw [x3, v3, u2]
        unfold fdT
        rw [fd_app, fd_app, hlen, rl_len]
        cases e : fd w hd ρ with
        | some x =>
          rw [fd_once e (ρ' := ρ + c1) (b := rl K O T Z f a (k + 1)) (by rw [hlen]; exact Nat.le_refl _) (by rw [rl_len]; omega)]
          rw [fd_once e (ρ' := ρ + c1 + wh K O T f a) (b := rl K O T Z f b (k + 1 + szN Z a)) (by rw [hlen]; omega) (by rw [rl_len]; omega)]
          rfl
        | none =>
          cases e2 : fd w (rl K O T Z f a (k + 1)) (ρ + c1) with
          | some x =>
            rw [fd_once e2 (ρ' := ρ + c1 + wh K O T f a) (b := rl K O T Z f b (k + 1 + szN Z a)) (by rw [rl_len]; exact Nat.le_refl _) (by rw [rl_len]; omega)]
            rfl
          | none => rfl
end Rule
