/-! Part 52: what the tree answers; what the reference says -/
theorem up_up {S : tb_St} {p j : Nat} {v w : Int32} : tb_up (tb_up S p j v) p j w = tb_up S p j w := by
  funext q i
  simp only [up_rd]
  by_cases h : q = p ∧ i = j
  · simp [h]
  · simp [h]
theorem up_self {S : tb_St} {p j : Nat} {v : Int32} (h : S p j = v) : tb_up S p j v = S := by
  funext q i
  rw [up_rd]
  by_cases h2 : q = p ∧ i = j
  · rw [if_pos h2, h2.1, h2.2, h]
  · rw [if_neg h2]
theorem boxOK_le {b : Int32} (h : boxOK b) : b = nI b.toNatClampNeg ∧ b.toNatClampNeg ≤ 999999 := by
  obtain ⟨a0, a1, e0, e1, h0, h1, q1, q2, q3, q4, q5, q6, rfl⟩ := h
  have : bx a0 a1 e0 e1 h0 h1 ≤ 999999 := by unfold bx; omega
  rw [nI_clamp (by omega)]
  exact ⟨rfl, this⟩
theorem feeOK_0 {v : Int32} (h : feeOK v) : 0 ≤ v ∧ v ≤ 99 := by
  obtain ⟨k, hk, rfl⟩ := h
  exact ⟨n_nn (by omega), (n_le (b := 99) (by omega) (by omega)).mpr hk⟩
def valR (v : Int32) : Prop := v = -5 ∨ feeOK v
theorem cmb_val {c : Nat} {k f b x y : Int32} (hf : (k = 0 ∨ k = 6) → valR f) (h6 : k = 6 → feeOK f) (hx : valR x) (hy : valR y) : valR (cmb c k f b x y) := by
  have mm : ∀ a b, feeOK a → feeOK b → feeOK (tb_min a b) := by
    intro a b ha hb
    unfold tb_min
    split <;> assumption
  unfold cmb
  by_cases k0 : k = 0
  · rw [if_pos k0]; exact hf (Or.inl k0)
  rw [if_neg k0]
  by_cases k2 : k = 2
  · rw [if_pos k2]; split
    · exact Or.inl rfl
    · exact hx
  rw [if_neg k2]
  by_cases k3 : k = 3
  · rw [if_pos k3]; split <;> assumption
  rw [if_neg k3]
  by_cases k4 : k = 4
  · rw [if_pos k4]
    rcases hx with hx | hx
    · rw [if_pos hx]; exact hy
    rcases hy with hy | hy
    · rw [if_pos hy]; split
      · exact Or.inl hy
      · exact Or.inr hx
    rw [if_neg (fun z => by have := (feeOK_0 hx).1; rw [z] at this; exact absurd this (by decide)), if_neg (fun z => by have := (feeOK_0 hy).1; rw [z] at this; exact absurd this (by decide))]
    obtain ⟨a, ha, rfl⟩ := hx
    obtain ⟨b, hb, rfl⟩ := hy
    right
    unfold tb_min
    rw [n_add (by omega)]
    by_cases hh : 99 < a + b
    · rw [if_pos (show (99 : Int32) < nI (a + b) from (n_lt (a := 99) (by omega) (by omega)).mpr hh)]; exact ⟨99, by omega, rfl⟩
    · rw [if_neg (show ¬ (99 : Int32) < nI (a + b) from fun z => hh ((n_lt (a := 99) (by omega) (by omega)).mp z))]; exact ⟨a + b, by omega, rfl⟩
  rw [if_neg k4]
  by_cases k5 : k = 5
  · rw [if_pos k5]
    rcases hx with hx | hx
    · rw [if_pos hx]; exact hy
    rcases hy with hy | hy
    · rw [if_pos hy]; split
      · exact Or.inl hy
      · exact Or.inr hx
    split
    · exact Or.inr hy
    split
    · exact Or.inr hx
    exact Or.inr (mm _ _ hx hy)
  rw [if_neg k5]
  by_cases k6 : k = 6
  · rw [if_pos k6]
    rcases hx with hx | hx
    · rw [if_pos hx]; exact Or.inl hx
    split
    · exact Or.inr hx
    split
    · exact Or.inr hx
    exact Or.inr (mm _ _ hx (h6 k6))
  rw [if_neg k6]
  by_cases k7 : k = 7
  · rw [if_pos k7]; split
    · exact hx
    · exact Or.inl rfl
  rw [if_neg k7]
  exact Or.inl rfl
section Ans
variable {K F B O T Z : Nat → Int32} {n d : Nat}
theorem ev_val (hn : n ≤ 24) {q : Nat → Bool} {sf sv : Int32} {c : Nat} (hw : ∀ t, t < n → wfT K F B O T Z t) (hv : valR sv ∨ ∀ t, t < n → ¬ nI t = sf) (hs : ∀ t, t < n → nI t = sf → K t = 0) : ∀ f t k, t < n → valR (ev K F B O T Z q sf sv c f t k) := by
  intro f
  induction f with
  | zero => intro t k _; exact Or.inl rfl
  | succ f ih =>
    intro t k ht
    unfold ev
    by_cases hq : q k = true
    · rw [if_pos hq]; exact Or.inl rfl
    rw [if_neg hq]
    have hi : ∀ x : Int32, (x = -5 ∨ ∃ a, a < t ∧ x = nI a) → x.toNatClampNeg < n ∨ 2 ^ 31 ≤ t := by
      rintro x (rfl | ⟨a, ha, rfl⟩)
      · exact Or.inl (show 0 < n by omega)
      · by_cases hb : a < 2 ^ 31
        · rw [nI_clamp hb]; exact Or.inl (by omega)
        · exact Or.inr (by omega)
    have ho : (O t = -5 ∨ ∃ a, a < t ∧ O t = nI a) ∧ (T t = -5 ∨ ∃ a, a < t ∧ T t = nI a) := by
      rcases wfT_sh (hw t ht) with ⟨o, w, -⟩ | ⟨a, ha, o, w, -⟩ | ⟨a, b, ha, hb, o, w, -⟩
      · exact ⟨Or.inl o, Or.inl w⟩
      · exact ⟨Or.inr ⟨a, ha, o⟩, Or.inl w⟩
      · exact ⟨Or.inr ⟨a, ha, o⟩, Or.inr ⟨b, hb, w⟩⟩
    have i1 := (hi _ ho.1).resolve_right (by omega)
    have i2 := (hi _ ho.2).resolve_right (by omega)
    refine cmb_val (fun hk => ?_) (fun hk => ?_) (ih _ _ i1) (ih _ _ i2)
    · split
      · rename_i e
        exact hv.resolve_right (fun z => z t ht e)
      · right
        rcases hw t ht with w | w | w | w | w
        · exact w.2.1
        · rcases hk with hk | hk
          · exact absurd (hk.symm.trans w.1) (by decide)
          · exact absurd (hk.symm.trans w.1) (by decide)
        · rcases hk with hk | hk
          · exact absurd (hk.symm.trans w.1) (by decide)
          · exact absurd (hk.symm.trans w.1) (by decide)
        · exact w.2.1
        · rcases hk with hk | hk
          · exact absurd w.1 (by rw [hk]; decide)
          · exact absurd w.1 (by rw [hk]; decide)
    · rw [if_neg (fun z => absurd (hk.symm.trans (hs t ht z)) (by decide))]
      rcases hw t ht with w | w | w | w | w
      · exact w.2.1
      · exact absurd (hk.symm.trans w.1) (by decide)
      · exact absurd (hk.symm.trans w.1) (by decide)
      · exact w.2.1
      · exact absurd w.1 (by rw [hk]; decide)
/-- a step of answering -/
def Ans (d c k' k : Nat) (S S' : tb_St) : Prop := ∀ r : Int32 × tb_St, tb_E (d + 4) mX6_answer tb_dI 7 [.ref 24, .int (nI c), .int (nI k + (-1))] [] tb_S S' = some r → tb_E (d + 4) mX6_answer tb_dI 7 [.ref 24, .int (nI c), .int (nI k' + (-1))] [] tb_S S = some r
def saidN (S : tb_St) (len j : Nat) : Int32 := if j < len then S 27 j else -5
theorem c_saidAt {S : tb_St} {len j : Nat} (hl : S 24 4 = nI len) (h40 : len ≤ 40) (hj : j ≤ 100) : tb_cI (d + 1) mX6_saidAt [.ref 24, .int (nI j)] S = some (saidN S len j, S) := by
  refine MX6_saidAt ?_
  rw [if_neg (n_nlt (by omega)), hl]
  unfold saidN
  by_cases h : j < len
  · rw [if_neg (fun z => by rw [n_le (by omega) (by omega)] at z; omega), n_ix (by omega) (by omega), if_pos h]
    rfl
  · rw [if_pos ((n_le (by omega) (by omega)).mpr (by omega)), if_neg h]
theorem c_termAt {S : tb_St} {len j : Nat} (hl : S 24 4 = nI len) (h40 : len ≤ 40) (hj : j < len) : tb_cI (d + 1) mX6_termAt [.ref 24, .int (nI j)] S = some (S 25 j, S) := by
  refine MX6_termAt ?_
  rw [if_neg (n_nlt (by omega)), hl, if_neg (fun z => by rw [n_le (by omega) (by omega)] at z; omega), n_ix (by omega) (by omega)]
  rfl
theorem c_capped {S : tb_St} {x : Int32} {t c : Nat} (ht : t < 24) (hc : c < 224) (hb : boxOK (S 5 t)) : tb_cI (d + 3) mX6_capped [.ref 24, .int x, .int (nI t), .int (nI c)] S = some (if x = -5 then x else if inBB c (S 5 t).toNatClampNeg = 0 then x else tb_min x (S 4 t), S) := by
  refine MX6_capped ?_
  by_cases hx : x = -5
  · rw [if_pos hx, if_pos hx]
  rw [if_neg hx, if_neg hx, n_ix ht (by omega)]
  simp only [Option.bind_some]
  have hb2 := boxOK_le hb
  generalize (S 5 t).toNatClampNeg = m at *
  rw [hb2.1, c_isIn hc hb2.2]
  simp only [Option.bind_some]
  by_cases hi : inBB c m = 0
  · simp [hi]
  · simp [hi]
theorem c_answerAt {S : tb_St} {len k t j c : Nat} (hT : tabs K F B O T Z n S) (hw : wfT K F B O T Z t) (hl : S 24 4 = nI len) (h40 : len ≤ 40) (hk : k < len) (ht : t < n) (hp : S 25 k = nI t) (hq : S 26 k = nI j) (hj : j ≤ 100) (hc : c < 224) (hs : nI t = S 24 6 → K t = 0) :
    tb_cI (d + 4) mX6_answerAt [.ref 24, .int (nI k), .int (nI c)] S = some (cmb c (K t) (if nI t = S 24 6 then S 24 7 else F t) (B t) (saidN S len (k + 1)) (saidN S len j), S) := by
  have hn := hT.1
  refine MX6_answerAt ?_
  rw [c_termAt hl h40 hk]
  simp only [Option.bind_some, hp]
  rw [c_hasY hn hT.2.1 ht]
  simp only [Option.bind_some, one0, not_false_eq_true, if_true, n_inc]
  rw [c_saidAt hl h40 (by omega)]
  simp only [Option.bind_some, n_ix (show k < 40 by omega) (show 40 ≤ 2 ^ 31 by omega), hq]
  rw [c_saidAt hl h40 hj]
  simp only [Option.bind_some, n_ix (show t < 24 by omega) (show 24 ≤ 2 ^ 31 by omega)]
  rw [hT.2.2.1, hT.2.2.2.1, hT.2.2.2.2.1]
  unfold cmb
  by_cases k0 : K t = 0
  · rw [if_pos k0, if_pos k0]
    by_cases e : nI t = S 24 6
    · rw [if_neg (fun z => z e), if_pos e]
    · rw [if_pos e, if_neg e]
  rw [if_neg k0, if_neg k0]
  by_cases k2 : K t = 2
  · rw [if_pos k2, if_pos k2]
    have hb : boxOK (B t) := by
      rcases hw with w | w | w | w | w
      · exact absurd (k2.symm.trans w.1) (by decide)
      · exact absurd (k2.symm.trans w.1) (by decide)
      · exact w.2.2.1
      · exact absurd (k2.symm.trans w.1) (by decide)
      · exact absurd w.1 (by rw [k2]; decide)
    have hb2 := boxOK_le hb
    generalize (B t).toNatClampNeg = m at *
    rw [hb2.1, c_isIn hc hb2.2]
    simp only [Option.bind_some]
    by_cases hi : inBB c m = 0
    · simp [hi]
    · simp [hi]
  rw [if_neg k2, if_neg k2]
  generalize saidN S len (k + 1) = x
  generalize saidN S len j = y
  by_cases k3 : K t = 3
  · rw [if_pos k3, if_pos k3]
    by_cases e : x = -5 <;> simp [e]
  rw [if_neg k3, if_neg k3]
  by_cases k4 : K t = 4
  · rw [if_pos k4, if_pos k4]
    by_cases e : x = -5 <;> by_cases e2 : y = -5 <;> simp [e, e2]
  rw [if_neg k4, if_neg k4]
  by_cases k5 : K t = 5
  · rw [if_pos k5, if_pos k5]
    by_cases e : x = -5 <;> by_cases e2 : y = -5 <;> simp [e, e2]
  rw [if_neg k5, if_neg k5]
  by_cases k6 : K t = 6
  · rw [if_pos k6, if_pos k6]
    have hb : boxOK (S 5 t) ∧ True := by
      rw [hT.2.2.2.2.1]
      rcases hw with w | w | w | w | w
      · exact absurd (k6.symm.trans w.1) (by decide)
      · exact absurd (k6.symm.trans w.1) (by decide)
      · exact absurd (k6.symm.trans w.1) (by decide)
      · exact ⟨w.2.2.1, trivial⟩
      · exact absurd w.1 (by rw [k6]; decide)
    rw [c_capped (by omega) hc hb.1, hT.2.2.2.2.1, hT.2.2.2.1]
    rw [if_neg (fun z => absurd (k6.symm.trans (hs z)) (by decide))]
    rfl
  rw [if_neg k6, if_neg k6]
  by_cases k7 : K t = 7
  · rw [if_pos k7, if_pos k7]
    by_cases e2 : y = -5 <;> simp [e2]
  rw [if_neg k7, if_neg k7]
end Ans
