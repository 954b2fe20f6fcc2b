/-! Part 71: packing: the reference's all; how far a box reaches -/
section All
variable {d c0 la e0 le h0 lh nh ne : Nat} {S : tb_St}
theorem r_all23 (hc : c0 < 224) (ha : la ≤ 7) (he : le ≤ 6) (hl : lh ≤ 3) {a e : Nat} (haa : a ≤ la) (hee : e ≤ le) : ∀ n h (w1 : Value), h + n = lh + 1 →
    (hrsB (goR S c0) n h a e = true → ∀ r, (∀ w10 : Value, tb_E (d + 1) mX8_all tb_dI 12 [.ref 45, w1, .int (nI la), .int (nI e0), .int (nI le), .int (nI h0), .int (nI lh), .int (nI c0), .int (nI a), .int (nI (e + 1)), w10] [] tb_S S = some r) → tb_E (d + 1) mX8_all tb_dI 23 [.ref 45, w1, .int (nI la), .int (nI e0), .int (nI le), .int (nI h0), .int (nI lh), .int (nI c0), .int (nI a), .int (nI e), .int (nI h)] [] tb_S S = some r) ∧
    (¬ hrsB (goR S c0) n h a e = true → tb_E (d + 1) mX8_all tb_dI 23 [.ref 45, w1, .int (nI la), .int (nI e0), .int (nI le), .int (nI h0), .int (nI lh), .int (nI c0), .int (nI a), .int (nI e), .int (nI h)] [] tb_S S = some (0, S)) := by
  intro n
  induction n with
  | zero =>
    intro h w1 hh
    refine ⟨fun _ r hr => BX8_all_23 ?_, fun z => absurd rfl z⟩
    rw [if_pos ((n_lt (by omega) (by omega)).mpr (by omega)), n_inc]
    exact hr _
  | succ n ih =>
    intro h w1 hh
    obtain ⟨i1, i2⟩ := ih (h + 1) w1 (by omega)
    have hnl : ¬ nI lh < nI h := fun z => by have := (n_lt (by omega) (by omega)).mp z; omega
    have hg := r_goes (d := d) (S := S) (c := 28 * a + 4 * e + h) (c0 := c0) (by omega) hc
    unfold hrsB rngB
    by_cases q : goR S c0 (28 * a + 4 * e + h) = true
    · rw [if_pos q] at hg
      refine ⟨fun hr r hh => BX8_all_23 ?_, fun hr => BX8_all_23 ?_⟩
      · rw [if_neg hnl, cell_i (by omega) (by omega) (by omega), hg]
        simp only [Option.bind_some, one0, not_false_eq_true, if_true, n_inc]
        rw [q, Bool.true_and] at hr
        exact i1 hr r hh
      · rw [if_neg hnl, cell_i (by omega) (by omega) (by omega), hg]
        simp only [Option.bind_some, one0, not_false_eq_true, if_true, n_inc]
        rw [q, Bool.true_and] at hr
        exact i2 hr
    · rw [if_neg q] at hg
      have q' : goR S c0 (28 * a + 4 * e + h) = false := by simpa using q
      refine ⟨fun hr => ?_, fun hr => BX8_all_23 ?_⟩
      · rw [q', Bool.false_and] at hr
        cases hr
      · rw [if_neg hnl, cell_i (by omega) (by omega) (by omega), hg]
        simp only [Option.bind_some, not_true_eq_false, if_false]
theorem r_all12 (hc : c0 < 224) (ha : la ≤ 7) (he : le ≤ 6) (hl : lh ≤ 3) (hn : h0 + nh = lh + 1) {a : Nat} (haa : a ≤ la) : ∀ m e (w1 : Value), e + m = le + 1 →
    (dysB (goR S c0) m e nh h0 a = true → ∀ r, (∀ w9 w10 : Value, tb_E (d + 1) mX8_all tb_dI 3 [.ref 45, w1, .int (nI la), .int (nI e0), .int (nI le), .int (nI h0), .int (nI lh), .int (nI c0), .int (nI (a + 1)), w9, w10] [] tb_S S = some r) → ∀ w10 : Value, tb_E (d + 1) mX8_all tb_dI 12 [.ref 45, w1, .int (nI la), .int (nI e0), .int (nI le), .int (nI h0), .int (nI lh), .int (nI c0), .int (nI a), .int (nI e), w10] [] tb_S S = some r) ∧
    (¬ dysB (goR S c0) m e nh h0 a = true → ∀ w10 : Value, tb_E (d + 1) mX8_all tb_dI 12 [.ref 45, w1, .int (nI la), .int (nI e0), .int (nI le), .int (nI h0), .int (nI lh), .int (nI c0), .int (nI a), .int (nI e), w10] [] tb_S S = some (0, S)) := by
  intro m
  induction m with
  | zero =>
    intro e w1 hh
    refine ⟨fun _ r hr w10 => BX8_all_12 ?_, fun z => absurd rfl z⟩
    rw [if_pos ((n_lt (by omega) (by omega)).mpr (by omega)), n_inc]
    exact hr _ _
  | succ m ih =>
    intro e w1 hh
    obtain ⟨i1, i2⟩ := ih (e + 1) w1 (by omega)
    have hnl : ¬ nI le < nI e := fun z => by have := (n_lt (by omega) (by omega)).mp z; omega
    obtain ⟨g1, g2⟩ := r_all23 (d := d) (S := S) (e0 := e0) (h0 := h0) hc ha he hl haa (show e ≤ le by omega) nh h0 w1 hn
    unfold dysB rngB
    by_cases q : hrsB (goR S c0) nh h0 a e = true
    · refine ⟨fun hr r hh w10 => BX8_all_12 ?_, fun hr w10 => BX8_all_12 ?_⟩
      · rw [if_neg hnl]
        rw [q, Bool.true_and] at hr
        exact g1 q r (i1 hr r hh)
      · rw [if_neg hnl]
        rw [q, Bool.true_and] at hr
        exact g1 q _ (i2 hr)
    · have q' : hrsB (goR S c0) nh h0 a e = false := by simpa using q
      refine ⟨fun hr => ?_, fun hr w10 => BX8_all_12 ?_⟩
      · rw [q', Bool.false_and] at hr
        cases hr
      · rw [if_neg hnl]
        exact g2 q
theorem r_all3 (hc : c0 < 224) (ha : la ≤ 7) (he : le ≤ 6) (hl : lh ≤ 3) (hn : h0 + nh = lh + 1) (hm : e0 + ne = le + 1) : ∀ k a (w1 w9 w10 : Value), a + k = la + 1 → tb_E (d + 1) mX8_all tb_dI 3 [.ref 45, w1, .int (nI la), .int (nI e0), .int (nI le), .int (nI h0), .int (nI lh), .int (nI c0), .int (nI a), w9, w10] [] tb_S S = some (if agsB (goR S c0) k a ne e0 nh h0 = true then 1 else 0, S) := by
  intro k
  induction k with
  | zero =>
    intro a w1 w9 w10 hh
    refine BX8_all_3 ?_
    rw [if_pos ((n_lt (by omega) (by omega)).mpr (by omega))]
    rfl
  | succ k ih =>
    intro a w1 w9 w10 hh
    have i := fun w1 w9 w10 => ih (a + 1) w1 w9 w10 (by omega)
    refine BX8_all_3 ?_
    rw [if_neg (fun z => by have := (n_lt (by omega) (by omega)).mp z; omega)]
    obtain ⟨g1, g2⟩ := r_all12 (d := d) (S := S) (e0 := e0) (h0 := h0) hc ha he hl hn (show a ≤ la by omega) ne e0 w1 hm
    unfold agsB rngB
    by_cases q : dysB (goR S c0) ne e0 nh h0 a = true
    · rw [q, Bool.true_and]
      refine g1 q _ (fun w9 w10 => ?_) w10
      exact i w1 w9 w10
    · rw [g2 q w10]
      have q' : dysB (goR S c0) ne e0 nh h0 a = false := by simpa using q
      rw [q', Bool.false_and]
      rfl
theorem r_all {k a : Nat} (hc : c0 < 224) (ha : la ≤ 7) (he : le ≤ 6) (hl : lh ≤ 3) (hn : h0 + nh = lh + 1) (hm : e0 + ne = le + 1) (hk : a + k = la + 1) : tb_cI (d + 2) mX8_all [.ref 45, .int (nI a), .int (nI la), .int (nI e0), .int (nI le), .int (nI h0), .int (nI lh), .int (nI c0)] S = some (if agsB (goR S c0) k a ne e0 nh h0 = true then 1 else 0, S) := MX8_all (r_all3 hc ha he hl hn hm k a _ _ _ hk)
end All
/-- how far a side reaches -/
def ext (P : Nat → Bool) : Nat → Nat → Nat
  | 0, x => x
  | f + 1, x => if P (x + 1) = true then ext P f (x + 1) else x
theorem ext_ok {P : Nat → Bool} : ∀ f x, x ≤ ext P f x ∧ ext P f x ≤ x + f ∧ ∀ y, x < y → y ≤ ext P f x → P y = true := by
  intro f
  induction f with
  | zero => intro x; exact ⟨Nat.le_refl _, Nat.le_refl _, fun y h1 h2 => by unfold ext at h2; omega⟩
  | succ f ih =>
    intro x
    unfold ext
    by_cases e : P (x + 1) = true
    · rw [if_pos e]
      obtain ⟨h1, h2, h3⟩ := ih (x + 1)
      refine ⟨by omega, by omega, fun y h4 h5 => ?_⟩
      by_cases e2 : y = x + 1
      · rw [e2]; exact e
      · exact h3 y (by omega) h5
    · rw [if_neg e]
      exact ⟨Nat.le_refl _, by omega, fun y h1 h2 => by omega⟩
/-- the box that a corner takes: last hour, last day, last age -/
def bxH (G : Nat → Bool) (a e h : Nat) : Nat := ext (fun y => hrsB G 1 y a e) (3 - h) h
def bxD (G : Nat → Bool) (a e h : Nat) : Nat := ext (fun y => hrsB G (bxH G a e h + 1 - h) h a y) (6 - e) e
def bxA (G : Nat → Bool) (a e h : Nat) : Nat := ext (fun y => dysB G (bxD G a e h + 1 - e) e (bxH G a e h + 1 - h) h y) (7 - a) a
