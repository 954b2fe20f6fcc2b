/-! Part 50: what a term says: by its parts; the tree of C -/
/-- what a kind makes of what its parts say -/
noncomputable def cmb (c : Nat) (k f b x y : Int32) : Int32 :=
  if k = 0 then f else if k = 2 then (if inBB c b.toNatClampNeg = 0 then -5 else x) else if k = 3 then (if x = -5 then y else x)
  else if k = 4 then (if x = -5 then y else if y = -5 then x else tb_min (x + y) 99) else if k = 5 then (if x = -5 then y else if y = -5 then x else tb_min x y)
  else if k = 6 then (if x = -5 then x else if inBB c b.toNatClampNeg = 0 then x else tb_min x f) else if k = 7 then (if y = -5 then x else -5) else -5
/-- what a term says of a case, the places q silenced, the flat sf supposed to be sv -/
noncomputable def ev (K F B O T Z : Nat → Int32) (q : Nat → Bool) (sf sv : Int32) (c : Nat) : Nat → Nat → Nat → Int32
  | 0, _, _ => -5
  | f + 1, t, k => if q k = true then -5 else cmb c (K t) (if nI t = sf then sv else F t) (B t) (ev K F B O T Z q sf sv c f (O t).toNatClampNeg (k + 1)) (ev K F B O T Z q sf sv c f (T t).toNatClampNeg (k + 1 + (Z (O t).toNatClampNeg).toNatClampNeg))
/-- how a tree is laid out from a place on -/
def Lay (O T Z : Nat → Int32) (P Q : Nat → Int32) : Nat → Nat → Nat → Prop
  | 0, _, _ => False
  | f + 1, t, k => P k = nI t ∧ (∃ j, j ≤ 100 ∧ Q k = nI j) ∧ (O t = -5 ∨ Lay O T Z P Q f (O t).toNatClampNeg (k + 1)) ∧ (T t = -5 ∨ (Q k = nI (k + 1 + (Z (O t).toNatClampNeg).toNatClampNeg) ∧ Lay O T Z P Q f (T t).toNatClampNeg (k + 1 + (Z (O t).toNatClampNeg).toNatClampNeg)))
def szN (Z : Nat → Int32) (t : Nat) : Nat := (Z t).toNatClampNeg
/-- the three shapes of a term -/
theorem wfT_sh {K F B O T Z : Nat → Int32} {t : Nat} (w : wfT K F B O T Z t) :
    (O t = -5 ∧ T t = -5 ∧ szN Z t = 1 ∧ ((K t = 0 ∧ feeOK (F t)) ∨ K t = 1)) ∨
    (∃ a, a < t ∧ O t = nI a ∧ T t = -5 ∧ 1 ≤ szN Z a ∧ szN Z t = szN Z a + 1 ∧ szN Z t ≤ 40 ∧ boxOK (B t) ∧ (K t = 2 ∨ (K t = 6 ∧ feeOK (F t)))) ∨
    (∃ a b, a < t ∧ b < t ∧ O t = nI a ∧ T t = nI b ∧ 1 ≤ szN Z a ∧ 1 ≤ szN Z b ∧ szN Z t = szN Z a + szN Z b + 1 ∧ szN Z t ≤ 40 ∧ (K t = 3 ∨ K t = 4 ∨ K t = 5 ∨ K t = 7)) := by
  have e : ∀ z x, Z x = nI z → z < 100 → szN Z x = z := fun z x h hz => by unfold szN; rw [h]; exact nI_clamp (by omega)
  rcases w with w | w | ⟨w1, w2, w3, w4, a, z, w5, w6, w7, w8, w9, w10⟩ | ⟨w1, w2, w3, w4, a, z, w5, w6, w7, w8, w9, w10⟩ | ⟨w1, w2, w3, a, b, z, w, w5, w6, w7, w8, w9, w10, w11, w12, w13, w14⟩
  · exact Or.inl ⟨w.2.2.2.1, w.2.2.2.2.1, e 1 t w.2.2.2.2.2 (by omega), Or.inl ⟨w.1, w.2.1⟩⟩
  · exact Or.inl ⟨w.2.2.2.1, w.2.2.2.2.1, e 1 t w.2.2.2.2.2 (by omega), Or.inr w.1⟩
  · exact Or.inr (Or.inl ⟨a, w5, w6, w4, by rw [e z a w7 (by omega)]; omega, by rw [e z a w7 (by omega), e (z + 1) t w10 (by omega)], by rw [e (z + 1) t w10 (by omega)]; omega, w3, Or.inl w1⟩)
  · exact Or.inr (Or.inl ⟨a, w5, w6, w4, by rw [e z a w7 (by omega)]; omega, by rw [e z a w7 (by omega), e (z + 1) t w10 (by omega)], by rw [e (z + 1) t w10 (by omega)]; omega, w3, Or.inr ⟨w1, w2⟩⟩)
  · exact Or.inr (Or.inr ⟨a, b, w5, w6, w7, w8, by rw [e z a w9 (by omega)]; omega, by rw [e w b w10 (by omega)]; omega, by rw [e z a w9 (by omega), e w b w10 (by omega), e (z + w + 1) t w14 (by omega)], by rw [e (z + w + 1) t w14 (by omega)]; omega, w1⟩)
def tabs (K F B O T Z : Nat → Int32) (n : Nat) (S : tb_St) : Prop := n ≤ 24 ∧ S 2 7 = nI n ∧ S 3 = K ∧ S 4 = F ∧ S 5 = B ∧ S 6 = O ∧ S 7 = T ∧ S 8 = Z
theorem tabs.keep {K F B O T Z : Nat → Int32} {n : Nat} {S S' : tb_St} (h : tabs K F B O T Z n S) (hk : ∀ q, q ≤ 8 → S' q = S q) : tabs K F B O T Z n S' :=
  ⟨h.1, by rw [hk 2 (by omega)]; exact h.2.1, by rw [hk 3 (by omega)]; exact h.2.2.1, by rw [hk 4 (by omega)]; exact h.2.2.2.1, by rw [hk 5 (by omega)]; exact h.2.2.2.2.1, by rw [hk 6 (by omega)]; exact h.2.2.2.2.2.1, by rw [hk 7 (by omega)]; exact h.2.2.2.2.2.2.1, by rw [hk 8 (by omega)]; exact h.2.2.2.2.2.2.2⟩
section Tree
variable {K F B O T Z : Nat → Int32} {n d : Nat} {S : tb_St}
theorem c_setY {p len a : Nat} (h : tabs K F B O T Z n S) (hl : S 24 4 = nI len) (h40 : len ≤ 40) (hp : p < len) (ha : a < n) : tb_cV (d + 2) mX6_setPlace [.ref 24, .int (nI p), .int (nI a)] S = some (tb_up S 25 p (nI a)) := by
  refine MX6_setPlace ?_
  rw [hl, if_neg (by rw [n_le (by omega) (by omega)]; omega), c_hasY h.1 h.2.1 ha]
  simp only [Option.bind_some, one0, if_false]
  rw [n_ix (by omega) (by omega)]
  rfl
theorem c_setN {p len : Nat} (h : tabs K F B O T Z n S) (hl : S 24 4 = nI len) (h40 : len ≤ 40) (hp : p ≤ 100) : tb_cV (d + 2) mX6_setPlace [.ref 24, .int (nI p), .int (-5)] S = some S := by
  refine MX6_setPlace ?_
  rw [hl]
  by_cases e : len ≤ p
  · rw [if_pos ((n_le (by omega) (by omega)).mpr e)]
  · rw [if_neg (fun z => e ((n_le (by omega) (by omega)).mp z)), c_hasN h.2.1 (fun z => absurd z.1 (by decide))]
    simp only [Option.bind_some, if_true]
/-- a step of unfolding -/
theorem c_unf1 {len k t : Nat} {o w : Option Nat} (h : tabs K F B O T Z n S) (hl : S 24 4 = nI len) (h40 : len ≤ 40) (hk : k < len) (ht : t < n) (hp : S 25 k = nI t) (ho : O t = oN o) (hw : T t = oN w) (hon : ∀ a, o = some a → a < n ∧ k + 1 < len) (hwn : ∀ a, w = some a → a < n ∧ k + 1 + (szo Z o).toNatClampNeg < len) (hz : szo Z o = nI (szo Z o).toNatClampNeg ∧ (szo Z o).toNatClampNeg ≤ 40) :
    ∃ S', (∀ (r : tb_St) (w1 w3 w4 w5 : Value), (∀ w3 w4 w5, tb_E (d + 3) mX6_unfold tb_dV 35 [.ref 24, w1, .int (nI (k + 1)), w3, w4, w5] [] tb_S S' = some r) → tb_E (d + 3) mX6_unfold tb_dV 35 [.ref 24, w1, .int (nI k), w3, w4, w5] [] tb_S S = some r) ∧ (∀ q, q ≠ 25 → q ≠ 26 → S' q = S q) ∧ S' 26 = upd (S 26) k (nI (k + 1 + (szo Z o).toNatClampNeg)) ∧
      (∀ j, S' 25 j = if w ≠ none ∧ j = k + 1 + (szo Z o).toNatClampNeg then oN w else if o ≠ none ∧ j = k + 1 then oN o else S 25 j) := by
  have hn := h.1
  generalize hzz : (szo Z o).toNatClampNeg = z at *
  have ix40 : tb_ix (nI k) 40 = some k := n_ix (by omega) (by omega)
  have ix24 : tb_ix (nI t) 24 = some t := n_ix (by omega) (by omega)
  have hU : tabs K F B O T Z n (tb_up S 26 k (nI (k + 1 + z))) := h.keep (fun q hq => up_ne (by omega))
  have hUl : (tb_up S 26 k (nI (k + 1 + z))) 24 4 = nI len := by rw [up_ne (by omega)]; exact hl
  obtain ⟨V, v1, v2, v3⟩ : ∃ V, tb_cV (d + 3) mX6_setPlace [.ref 24, .int (nI (k + 1)), .int (oN o)] (tb_up S 26 k (nI (k + 1 + z))) = some V ∧ (∀ q, q ≠ 25 → V q = tb_up S 26 k (nI (k + 1 + z)) q) ∧ ∀ j, V 25 j = if o ≠ none ∧ j = k + 1 then oN o else S 25 j := by
    cases o with
    | none =>
      refine ⟨_, c_setN hU hUl h40 (by omega), fun _ _ => rfl, fun j => ?_⟩
      rw [up_ne (by omega)]
      simp
    | some a =>
      obtain ⟨a1, a2⟩ := hon a rfl
      refine ⟨_, c_setY hU hUl h40 a2 a1, fun q hq => up_ne hq, fun j => ?_⟩
      rw [up_rd, up_ne (by omega)]
      simp [oN]
  have hV : tabs K F B O T Z n V := hU.keep (fun q hq => v2 q (by omega))
  have hVl : V 24 4 = nI len := by rw [v2 24 (by omega)]; exact hUl
  have hV26 : V 26 k = nI (k + 1 + z) := by rw [v2 26 (by omega)]; simp [up_rd]
  obtain ⟨W, w1, w2, w3⟩ : ∃ W, tb_cV (d + 3) mX6_setPlace [.ref 24, .int (nI (k + 1 + z)), .int (oN w)] V = some W ∧ (∀ q, q ≠ 25 → W q = V q) ∧ ∀ j, W 25 j = if w ≠ none ∧ j = k + 1 + z then oN w else V 25 j := by
    cases w with
    | none => exact ⟨_, c_setN hV hVl h40 (by omega), fun _ _ => rfl, fun j => by simp⟩
    | some a =>
      obtain ⟨a1, a2⟩ := hwn a rfl
      refine ⟨_, c_setY hV hVl h40 a2 a1, fun q hq => up_ne hq, fun j => ?_⟩
      rw [up_rd]
      simp [oN]
  refine ⟨W, fun r u1 u3 u4 u5 hr => BX6_unfold_35 ?_, fun q h1 h2 => ?_, ?_, fun j => ?_⟩
  · rw [hl, if_neg (by rw [n_le (by omega) (by omega)]; omega), ix40]
    simp only [Option.bind_some, hp]
    rw [c_hasY hn h.2.1 ht]
    simp only [Option.bind_some, one0, if_false, ix24]
    refine BX6_unfold_75 ?_
    rw [c_hasY hn h.2.1 ht]
    simp only [Option.bind_some, one0, if_false, ix24]
    refine BX6_unfold_102 ?_
    rw [h.2.2.2.2.2.1, h.2.2.2.2.2.2.1, ho, hw, c_size hn h.2.1 (fun a ha => (hon a ha).1)]
    simp only [Option.bind_some, ix40, h.2.2.2.2.2.2.2, n_inc]
    rw [hz.1, n_add (by omega), v1]
    simp only [Option.bind_some, ix40, hV26]
    rw [w1]
    simp only [Option.bind_some]
    exact hr _ _ _
  · rw [w2 q h1, v2 q h1, up_ne h2]
  · rw [w2 26 (by omega), v2 26 (by omega), up_eq]
  · rw [w3 j, v3 j]
end Tree
