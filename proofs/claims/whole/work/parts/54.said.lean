/-! Part 54: what the reference says of a term -/
/-- the tables of the reference -/
def rtab (K F B O T : Nat → Int32) (n : Nat) (S : tb_St) : Prop := n ≤ 24 ∧ ∀ t, t < n → S 46 t = K t ∧ S 47 t = F t ∧ S 48 t = O t ∧ S 49 t = T t ∧ S 50 t = B t
theorem rtab.keep {K F B O T : Nat → Int32} {n : Nat} {S S' : tb_St} (h : rtab K F B O T n S) (hk : ∀ q, 46 ≤ q → q ≤ 50 → S' q = S q) : rtab K F B O T n S' :=
  ⟨h.1, fun t ht => by rw [hk 46 (by omega) (by omega), hk 47 (by omega) (by omega), hk 48 (by omega) (by omega), hk 49 (by omega) (by omega), hk 50 (by omega) (by omega)]; exact h.2 t ht⟩
/-- how many rules a term has -/
def wh (K O T : Nat → Int32) : Nat → Nat → Nat
  | 0, _ => 0
  | f + 1, t => (if K t = 2 then 1 else 0) + (if O t = -5 then 0 else wh K O T f (O t).toNatClampNeg) + (if T t = -5 then 0 else wh K O T f (T t).toNatClampNeg)
/-- places and ranks tell alike -/
def Mt (K O T Z : Nat → Int32) (q r : Nat → Bool) : Nat → Nat → Nat → Nat → Prop
  | 0, _, _, _ => True
  | f + 1, t, k, ρ => q k = (decide (K t = 2) && r ρ) ∧ (O t = -5 ∨ Mt K O T Z q r f (O t).toNatClampNeg (k + 1) (ρ + (if K t = 2 then 1 else 0))) ∧ (T t = -5 ∨ Mt K O T Z q r f (T t).toNatClampNeg (k + 1 + (Z (O t).toNatClampNeg).toNatClampNeg) (ρ + (if K t = 2 then 1 else 0) + wh K O T f (O t).toNatClampNeg))
theorem Mt_no {K O T Z : Nat → Int32} {q r : Nat → Bool} (hq : ∀ k, q k = false) (hr : ∀ k, r k = false) : ∀ f t k ρ, Mt K O T Z q r f t k ρ := by
  intro f
  induction f with
  | zero => intro t k ρ; trivial
  | succ f ih => intro t k ρ; exact ⟨by rw [hq, hr]; simp, Or.inr (ih _ _ _), Or.inr (ih _ _ _)⟩
def rof (w : Int32) (ρ : Nat) : Bool := decide (ρ < 1000 ∧ nI ρ = w)
section Said
variable {K F B O T Z : Nat → Int32} {n d : Nat}
theorem wh_le (hw : ∀ t, t < n → wfT K F B O T Z t) (hn : n ≤ 24) : ∀ f t, t < n → wh K O T f t ≤ szN Z t := by
  intro f
  induction f with
  | zero => intro t _; exact Nat.zero_le _
  | succ f ih =>
    intro t ht
    unfold wh
    have hk : (if K t = 2 then 1 else 0) ≤ 1 := by split <;> omega
    rcases wfT_sh (hw t ht) with ⟨o, w, z, -⟩ | ⟨a, ha, o, w, z1, z, -⟩ | ⟨a, b, ha, hb, o, w, z1, z2, z, -⟩
    · rw [if_pos o, if_pos w]; omega
    · have := ih a (by omega)
      rw [if_neg (show ¬ O t = -5 by rw [o]; exact n5n a (by omega)), if_pos w, o, nI_clamp (by omega)]; omega
    · have h1 := ih a (by omega)
      have h2 := ih b (by omega)
      rw [if_neg (show ¬ O t = -5 by rw [o]; exact n5n a (by omega)), if_neg (show ¬ T t = -5 by rw [w]; exact n5n b (by omega)), o, w, nI_clamp (by omega), nI_clamp (by omega)]; omega
theorem rc_cap {c : Nat} {x f : Int32} (hx : valR x) (hf : feeOK f) (b : Nat) : (if x ≤ f then x else if inBB c b = 0 then x else f) = (if x = -5 then x else if inBB c b = 0 then x else tb_min x f) := by
  have hf0 := feeOK_0 hf
  by_cases e : x = -5
  · rw [if_pos e, if_pos (by rw [e]; have h5 : (-5 : Int32) ≤ 0 := by decide
                             have := hf0.1; grind)]
  rw [if_neg e]
  unfold tb_min
  by_cases h : x ≤ f
  · rw [if_pos h, if_neg (show ¬ f < x by grind)]; simp
  · rw [if_neg h, if_pos (show f < x by grind)]
theorem rc_sum {x y : Int32} : tb_min 99 (x + y) = tb_min (x + y) 99 := by
  unfold tb_min
  by_cases h : x + y < 99
  · rw [if_pos h, if_neg (by grind)]
  · rw [if_neg h]
    by_cases h2 : 99 < x + y
    · rw [if_pos h2]
    · rw [if_neg h2]; grind
theorem r_said {q : Nat → Bool} {sf sv w : Int32} {c : Nat} (hw : ∀ t, t < n → wfT K F B O T Z t) (hv : valR sv ∨ ∀ t, t < n → ¬ nI t = sf) (hs : ∀ t, t < n → nI t = sf → K t = 0) (hc : c < 224) : ∀ f t k ρ (S : tb_St), t < f → t < n → rtab K F B O T n S → S 45 16 = nI ρ → S 45 17 = w → S 45 19 = sf → S 45 20 = sv → ρ + szN Z t < 1000 → Mt K O T Z q (rof w) f t k ρ →
    tb_cI (d + f + 2) mX8_said [.ref 45, .int (nI t), .int (nI c)] S = some (ev K F B O T Z q sf sv c f t k, tb_up S 45 16 (nI (ρ + wh K O T f t))) := by
  intro f
  induction f with
  | zero => intro t k ρ S h; omega
  | succ f ih =>
    intro t k ρ S hf ht hR h16 h17 h19 h20 hρ ⟨m1, m2, m3⟩
    have hn := hR.1
    obtain ⟨e46, e47, e48, e49, e50⟩ := hR.2 t ht
    have ix : tb_ix (nI t) 96 = some t := n_ix (by omega) (by omega)
    have keepR : ∀ v, rtab K F B O T n (tb_up S 45 16 v) := fun v => hR.keep (fun q h1 h2 => up_ne (by omega))
    have r16 : ∀ v, (tb_up S 45 16 v) 45 16 = v := fun v => by rw [up_rd, if_pos ⟨rfl, rfl⟩]
    have r17 : ∀ v, (tb_up S 45 16 v) 45 17 = w := fun v => by rw [up_rd, if_neg (by omega)]; exact h17
    have r19 : ∀ v, (tb_up S 45 16 v) 45 19 = sf := fun v => by rw [up_rd, if_neg (by omega)]; exact h19
    have r20 : ∀ v, (tb_up S 45 16 v) 45 20 = sv := fun v => by rw [up_rd, if_neg (by omega)]; exact h20
    have hev := fun t k (h : t < n) => ev_val (K := K) (F := F) (B := B) (O := O) (T := T) (Z := Z) hn (q := q) (sf := sf) (sv := sv) (c := c) hw hv hs f t k h
    unfold ev wh
    show tb_cI ((d + f + 2) + 1) mX8_said _ _ = _
    rcases wfT_sh (hw t ht) with ⟨o, o2, z, hkk⟩ | ⟨a, ha, o, o2, z1, z, z40, hb, hkk⟩ | ⟨a, b, ha, hb, o, o2, z1, z2, z, z40, hkk⟩
    · have hq : ¬ q k = true := by
        rw [m1]
        rcases hkk with ⟨h0, -⟩ | h0
        · rw [h0]; simp
        · rw [h0]; simp
      rw [if_neg hq, if_pos o, if_pos o2]
      refine MX8_said ?_
      simp only [ix, Option.bind_some, e46, e47, h19, h20]
      rcases hkk with ⟨h0, -⟩ | h0
      · rw [h0, cmb_0]
        simp only [show ((0 : Int32) = 2) = False by decide, not_false_eq_true, not_true_eq_false, if_true, if_false, Nat.add_zero]
        rw [up_self h16]
        by_cases e : nI t = sf
        · rw [if_neg (fun z => z e), if_pos e]
        · rw [if_pos e, if_neg e]
      · rw [h0, cmb_1]
        simp only [show ((1 : Int32) = 2) = False by decide, show ((1 : Int32) = 0) = False by decide, not_false_eq_true, not_true_eq_false, if_true, if_false, Nat.add_zero]
        rw [up_self h16]
    · have hn5 : ¬ O t = -5 := by rw [o]; exact n5n a (by omega)
      have m2' := m2.resolve_left hn5
      rw [o, nI_clamp (by omega)] at m2'
      have hb2 := boxOK_le hb
      rw [if_neg hn5, if_pos o2, o, nI_clamp (by omega)]
      refine MX8_said ?_
      simp only [ix, Option.bind_some, e46, e48, o]
      rcases hkk with h0 | ⟨h0, hfe⟩
      · rw [h0, cmb_2]
        rw [h0] at m1 m2'
        simp only [if_true] at m2' ⊢
        rw [h16, n_inc]
        have hi := ih a (k + 1) (ρ + 1) (tb_up S 45 16 (nI (ρ + 1))) (by omega) (by omega) (keepR _) (r16 _) (r17 _) (r19 _) (r20 _) (by omega) m2'
        rw [if_neg (fun z => z trivial), hi]
        simp only [Option.bind_some, up_up]
        have e50' : (tb_up S 45 16 (nI (ρ + 1 + wh K O T f a))) 50 t = B t := by rw [up_ne (by omega)]; exact e50
        rw [r17, e50']
        rw [show ρ + (1 + wh K O T f a + 0) = ρ + 1 + wh K O T f a by omega]
        have em : q k = decide (nI ρ = w) := by
          rw [m1]
          unfold rof
          simp
          omega
        by_cases e : nI ρ = w
        · rw [if_pos e, if_pos (by rw [em]; simpa using e)]
        · rw [if_neg e, if_neg (by rw [em]; simpa using e)]
          generalize (B t).toNatClampNeg = m at *
          rw [hb2.1, r_isIn hc hb2.2]
          simp only [Option.bind_some]
          by_cases hi : inBB c m = 0
          · simp [hi]
          · simp [hi]
      · have hq : ¬ q k = true := by rw [m1, h0]; simp
        rw [if_neg hq, h0, cmb_6]
        rw [h0] at m1 m2'
        have hi := ih a (k + 1) ρ S (by omega) (by omega) hR h16 h17 h19 h20 (by omega) m2'
        simp only [show ((6 : Int32) = 2) = False by decide, show ((6 : Int32) = 0) = False by decide, show ((6 : Int32) = 1) = False by decide, not_false_eq_true, not_true_eq_false, if_true, if_false]
        rw [hi]
        have e47' : (tb_up S 45 16 (nI (ρ + wh K O T f a))) 47 t = F t := by rw [up_ne (by omega)]; exact e47
        have e50' : (tb_up S 45 16 (nI (ρ + wh K O T f a))) 50 t = B t := by rw [up_ne (by omega)]; exact e50
        simp only [Option.bind_some, e47', e50']
        rw [show ρ + (0 + wh K O T f a + 0) = ρ + wh K O T f a by omega]
        rw [if_neg (fun z => absurd (h0.symm.trans (hs t ht z)) (by decide))]
        have hcap := rc_cap (c := c) (hev a (k + 1) (by omega)) hfe (B t).toNatClampNeg
        rw [← hcap]
        generalize (B t).toNatClampNeg = m at *
        by_cases hx : ev K F B O T Z q sf sv c f a (k + 1) ≤ F t
        · rw [if_pos hx, if_pos hx]
        · rw [if_neg hx, if_neg hx, hb2.1, r_isIn hc hb2.2]
          simp only [Option.bind_some]
          by_cases hi : inBB c m = 0
          · simp [hi]
          · rw [if_neg hi, if_neg hi, e47']
    · have hn5 : ¬ O t = -5 := by rw [o]; exact n5n a (by omega)
      have hn6 : ¬ T t = -5 := by rw [o2]; exact n5n b (by omega)
      have k2 : ¬ K t = 2 := by rcases hkk with h | h | h | h <;> rw [h] <;> decide
      have k0 : ¬ K t = 0 := by rcases hkk with h | h | h | h <;> rw [h] <;> decide
      have k1 : ¬ K t = 1 := by rcases hkk with h | h | h | h <;> rw [h] <;> decide
      have k6 : ¬ K t = 6 := by rcases hkk with h | h | h | h <;> rw [h] <;> decide
      have m2' := m2.resolve_left hn5
      have m3' := m3.resolve_left hn6
      rw [if_neg k2, o, nI_clamp (by omega)] at m2'
      rw [if_neg k2, o, o2, nI_clamp (by omega), nI_clamp (by omega)] at m3'
      have hq : ¬ q k = true := by rw [m1]; simp [k2]
      have zl := wh_le (K := K) (F := F) (B := B) (O := O) (T := T) hw hn f a (by omega)
      have zl2 := wh_le (K := K) (F := F) (B := B) (O := O) (T := T) hw hn f b (by omega)
      rw [if_neg hq, if_neg hn5, if_neg hn6, if_neg k2, o, o2, nI_clamp (by omega), nI_clamp (by omega)]
      refine MX8_said ?_
      have hi := ih a (k + 1) ρ S (by omega) (by omega) hR h16 h17 h19 h20 (by omega) m2'
      have e49' : (tb_up S 45 16 (nI (ρ + wh K O T f a))) 49 t = T t := by rw [up_ne (by omega)]; exact e49
      have hj := ih b _ (ρ + 0 + wh K O T f a) (tb_up S 45 16 (nI (ρ + wh K O T f a))) (by omega) (by omega) (keepR _) (r16 _) (r17 _) (r19 _) (r20 _) (by omega) m3'
      simp only [ix, Option.bind_some, e46, e48, o, k2, k0, k1, k6, not_false_eq_true, if_true, hi, e49', o2, hj, up_up]
      rw [show ρ + 0 + wh K O T f a + wh K O T f b = ρ + (0 + wh K O T f a + wh K O T f b) by omega]
      generalize ev K F B O T Z q sf sv c f a (k + 1) = x
      generalize ev K F B O T Z q sf sv c f b _ = y
      have hcm : cmb c (K t) (if nI t = sf then sv else F t) (B t) x y = if K t = 3 then (if x = -5 then y else x) else if K t = 4 then (if x = -5 then y else if y = -5 then x else tb_min (x + y) 99) else if K t = 5 then (if x = -5 then y else if y = -5 then x else tb_min x y) else if K t = 7 then (if y = -5 then x else -5) else -5 := by
        unfold cmb
        rw [if_neg k0, if_neg k2]
        simp only [k6, if_false]
      rw [hcm]
      rcases hkk with h | h | h | h
      · simp only [h, not_true_eq_false, if_false, if_true]
        by_cases e : x = -5 <;> simp [e]
      · simp only [h, show ((4 : Int32) = 3) = False by decide, show ((4 : Int32) = 7) = False by decide, not_true_eq_false, not_false_eq_true, if_false, if_true, rc_sum]
        by_cases e : x = -5 <;> by_cases e2 : y = -5 <;> simp [e, e2]
      · simp only [h, show ((5 : Int32) = 3) = False by decide, show ((5 : Int32) = 7) = False by decide, show ((5 : Int32) = 4) = False by decide, not_true_eq_false, not_false_eq_true, if_false, if_true]
        by_cases e : x = -5 <;> by_cases e2 : y = -5 <;> simp [e, e2]
      · simp only [h, show ((7 : Int32) = 3) = False by decide, show ((7 : Int32) = 4) = False by decide, show ((7 : Int32) = 5) = False by decide, not_true_eq_false, not_false_eq_true, if_false, if_true]
        by_cases e2 : y = -5 <;> simp [e2]
end Said
