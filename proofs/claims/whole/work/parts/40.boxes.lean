/-! Part 40: figures of boxes, cases in boxes: both sides -/
def figM (m k : Nat) : Nat := m / 10 ^ (5 - k) % 10
theorem fig_lt (m k : Nat) : figM m k < 10 := Nat.mod_lt _ (by decide)
theorem c_figL {d : Nat} {S : tb_St} : ∀ (g m k : Nat) (w0 w1 : Value), k + g = 5 → m < 2 ^ 31 → tb_E d mX7_figure tb_dI 4 [w0, w1, .int (nI m), .int (nI k)] [] tb_S S = some (nI (m / 10 ^ g % 10), S) := by
  intro g
  induction g with
  | zero =>
    intro m k w0 w1 hk hm
    refine BX7_figure_4 ?_
    rw [if_pos (show (5 : Int32) ≤ nI k by rw [show (5 : Int32) = nI 5 from rfl, n_le (by omega) (by omega)]; omega), show (10 : Int32) = nI 10 from rfl, n_rem hm (by omega)]
    simp
  | succ g ih =>
    intro m k w0 w1 hk hm
    refine BX7_figure_4 ?_
    rw [if_neg (show ¬ (5 : Int32) ≤ nI k by rw [show (5 : Int32) = nI 5 from rfl, n_le (by omega) (by omega)]; omega), show (10 : Int32) = nI 10 from rfl, n_div hm (by omega), n_inc]
    have h1 : m / 10 ≤ m := Nat.div_le_self m 10
    rw [ih (m / 10) (k + 1) w0 w1 (by omega) (by omega), Nat.div_div_eq_div_mul, ← Nat.pow_succ']
theorem r_figL {d : Nat} {S : tb_St} : ∀ (g m k i : Nat) (w0 : Value), i = k + g → i ≤ 5 → m < 2 ^ 31 → tb_E d mX8_figure tb_dI 4 [w0, .int (nI k), .int (nI m), .int (nI i)] [] tb_S S = some (nI (m / 10 ^ g % 10), S) := by
  intro g
  induction g with
  | zero =>
    intro m k i w0 hk hi hm
    refine BX8_figure_4 ?_
    rw [if_pos (show nI i ≤ nI k by rw [n_le (by omega) (by omega)]; omega), show (10 : Int32) = nI 10 from rfl, n_rem hm (by omega)]
    simp
  | succ g ih =>
    intro m k i w0 hk hi hm
    refine BX8_figure_4 ?_
    obtain ⟨j, rfl⟩ : ∃ j, i = j + 1 := ⟨i - 1, by omega⟩
    rw [if_neg (show ¬ nI (j + 1) ≤ nI k by rw [n_le (by omega) (by omega)]; omega), show (10 : Int32) = nI 10 from rfl, n_div hm (by omega), show (-1 : Int32) = -1 from rfl, n_dec]
    have h1 : m / 10 ≤ m := Nat.div_le_self m 10
    rw [ih (m / 10) k j w0 (by omega) (by omega) (by omega), Nat.div_div_eq_div_mul, ← Nat.pow_succ']
theorem c_fig {d m k : Nat} {S : tb_St} (hm : m < 2 ^ 31) (hk : k ≤ 5) : tb_cI (d + 1) mX7_figure [.int (nI m), .int (nI k)] S = some (nI (figM m k), S) := MX7_figure (c_figL (5 - k) m k _ _ (by omega) hm)
theorem r_fig {d m k : Nat} {S : tb_St} (hm : m < 2 ^ 31) (hk : k ≤ 5) : tb_cI (d + 1) mX8_figure [.int (nI m), .int (nI k)] S = some (nI (figM m k), S) := MX8_figure (r_figL (5 - k) m k 5 _ (by omega) (by omega) hm)
def mostN (k : Nat) : Nat := if k < 2 then 7 else if k < 4 then 6 else 3
theorem most_le (k : Nat) : mostN k ≤ 7 := by
  unfold mostN
  split
  · omega
  split
  · omega
  omega
theorem r_most {d k : Nat} {S : tb_St} (hk : k < 6) : tb_cI (d + 1) mX8_most [.int (nI k)] S = some (nI (mostN k), S) := by
  refine MX8_most ?_
  obtain rfl | rfl | rfl | rfl | rfl | rfl : k = 0 ∨ k = 1 ∨ k = 2 ∨ k = 3 ∨ k = 4 ∨ k = 5 := by omega
  all_goals rfl
/-- whether a number can be at a place of a box -/
def canP (v : Int32) (k : Nat) (a : Int32) : Prop := (if k % 2 = 0 then 0 else a) ≤ v ∧ v ≤ nI (mostN k)
theorem c_canBe {d k : Nat} {v a : Int32} {S : tb_St} (hk : k < 6) : tb_cI (d + 1) mX7_canBe [.int v, .int (nI k), .int a] S = some (b2 ((if k % 2 = 0 then 0 else a) ≤ v ∧ v ≤ nI (mostN k)), S) := by
  refine MX7_canBe ?_
  have h33 : ∀ (q s : Int32) (w1 w2 w4 : Value), tb_E d mX7_canBe tb_dI 33 [.int v, w1, w2, .int q, w4] [.int s] tb_S S = some (b2 (s ≤ v ∧ v ≤ q), S) := by
    intro q s w1 w2 w4
    refine BX7_canBe_33 ?_
    unfold b2
    repeat' split
    all_goals (first | rfl | (exfalso; grind))
  obtain rfl | rfl | rfl | rfl | rfl | rfl : k = 0 ∨ k = 1 ∨ k = 2 ∨ k = 3 ∨ k = 4 ∨ k = 5 := by omega
  all_goals (rw [h33, h33, h33, h33, h33, h33]; rfl)
/-- a number of six figures is a box's -/
def boxN (m : Nat) : Prop := figM m 0 ≤ figM m 1 ∧ figM m 1 ≤ 7 ∧ figM m 2 ≤ figM m 3 ∧ figM m 3 ≤ 6 ∧ figM m 4 ≤ figM m 5 ∧ figM m 5 ≤ 3
noncomputable def boxB (x : Int32) : Int32 := by classical exact if 0 ≤ x ∧ x ≤ 999999 ∧ boxN x.toNatClampNeg then 1 else 0
theorem box_ok {x : Int32} (h : ¬ boxB x = 0) : boxOK x := by
  unfold boxB at h
  split at h
  · rename_i h1
    obtain ⟨h0, h1, h2⟩ := h1
    obtain ⟨m, hm, rfl⟩ := n_of_le (n := 999999) h0 h1 (by omega)
    rw [nI_clamp (by omega)] at h2
    obtain ⟨a1, a2, a3, a4, a5, a6⟩ := h2
    refine ⟨figM m 0, figM m 1, figM m 2, figM m 3, figM m 4, figM m 5, a1, a2, a3, a4, a5, a6, ?_⟩
    congr 1
    unfold bx figM
    omega
  · exact absurd rfl h
theorem box_num {b : Int32} (h : boxOK b) : ∃ m, m ≤ 999999 ∧ b = nI m ∧ boxN m := by
  obtain ⟨a0, a1, e0, e1, h0, h1, q1, q2, q3, q4, q5, q6, rfl⟩ := h
  refine ⟨_, ?_, rfl, ?_⟩
  · unfold bx; omega
  · unfold boxN figM bx
    omega
theorem c_isBoxL {d m : Nat} {S : tb_St} (hm : m ≤ 999999) : ∀ (g k : Nat) (a : Int32) (w : Value), k + g = 6 → (k = 0 ∧ a = 0 ∨ 0 < k ∧ a = nI (figM m (k - 1))) → ∃ p : Prop, ∃ _ : Decidable p, (p ↔ ∀ j, k ≤ j → j < 6 → canP (nI (figM m j)) j (nI (figM m (j - 1)))) ∧ tb_E (d + 1) mX7_isBox tb_dI 17 [.int (nI m), .int a, .int (nI k), w] [] tb_S S = some (b2 p, S) := by
  intro g
  induction g with
  | zero =>
    intro k a w hk _
    refine ⟨True, inferInstance, ⟨fun _ j h1 h2 => by omega, fun _ => trivial⟩, BX7_isBox_17 ?_⟩
    rw [if_pos (show (6 : Int32) ≤ nI k by rw [show (6 : Int32) = nI 6 from rfl, n_le (by omega) (by omega)]; omega)]
    rfl
  | succ g ih =>
    intro k a w hk ha
    obtain ⟨p, hp, h1, h2⟩ := ih (k + 1) (nI (figM m k)) (.int (nI (figM m k))) (by omega) (Or.inr ⟨by omega, rfl⟩)
    have hcan : ((if k % 2 = 0 then 0 else a) ≤ nI (figM m k) ∧ nI (figM m k) ≤ nI (mostN k)) ↔ canP (nI (figM m k)) k (nI (figM m (k - 1))) := by
      unfold canP
      rcases ha with ⟨rfl, rfl⟩ | ⟨h0, rfl⟩
      · simp
      · rfl
    have hd : Decidable (canP (nI (figM m k)) k (nI (figM m (k - 1)))) := by unfold canP; exact inferInstance
    refine ⟨canP (nI (figM m k)) k (nI (figM m (k - 1))) ∧ p, inferInstance, ?_, BX7_isBox_17 ?_⟩
    · rw [h1]
      constructor
      · rintro ⟨q1, q2⟩ j g1 g2
        by_cases e : j = k
        · subst e; exact q1
        · exact q2 j (by omega) g2
      · exact fun q => ⟨q k (by omega) (by omega), fun j g1 g2 => q j (by omega) g2⟩
    · rw [if_neg (show ¬ (6 : Int32) ≤ nI k by rw [show (6 : Int32) = nI 6 from rfl, n_le (by omega) (by omega)]; omega), c_fig (by omega) (by omega)]
      simp only [Option.bind_some]
      rw [c_canBe (by omega)]
      simp only [Option.bind_some, b2_0, n_inc, h2]
      by_cases hq : (if k % 2 = 0 then 0 else a) ≤ nI (figM m k) ∧ nI (figM m k) ≤ nI (mostN k)
      · rw [if_pos (by simpa using hq)]
        have hq' := hcan.mp hq
        unfold b2
        by_cases hpp : p
        · rw [if_pos hpp, if_pos ⟨hq', hpp⟩]
        · rw [if_neg hpp, if_neg (fun z => hpp z.2)]
      · rw [if_neg (by simpa using hq)]
        unfold b2
        rw [if_neg (fun z => hq (hcan.mpr z.1))]
theorem can_box {m : Nat} : (∀ j, 0 ≤ j → j < 6 → canP (nI (figM m j)) j (nI (figM m (j - 1)))) ↔ boxN m := by
  have hl := fun k => fig_lt m k
  have e : ∀ j, canP (nI (figM m j)) j (nI (figM m (j - 1))) ↔ ((j % 2 = 0 ∨ figM m (j - 1) ≤ figM m j) ∧ figM m j ≤ mostN j) := by
    intro j
    have h1 := hl j
    have h2 := hl (j - 1)
    have h3 : mostN j ≤ 7 := most_le j
    unfold canP
    by_cases e : j % 2 = 0
    · rw [if_pos e, n_le (by omega) (by omega)]
      simp [e, n_nn (show figM m j < 2 ^ 31 by omega)]
    · rw [if_neg e, n_le (by omega) (by omega), n_le (by omega) (by omega)]
      simp [e]
  constructor
  · intro h
    have g0 := (e 0).mp (h 0 (by omega) (by omega))
    have g1 := (e 1).mp (h 1 (by omega) (by omega))
    have g2 := (e 2).mp (h 2 (by omega) (by omega))
    have g3 := (e 3).mp (h 3 (by omega) (by omega))
    have g4 := (e 4).mp (h 4 (by omega) (by omega))
    have g5 := (e 5).mp (h 5 (by omega) (by omega))
    simp [mostN] at g0 g1 g2 g3 g4 g5
    exact ⟨g1.1, g1.2, g3.1, g3.2, g5.1, g5.2⟩
  · rintro ⟨a1, a2, a3, a4, a5, a6⟩ j _ hj
    rw [e]
    obtain rfl | rfl | rfl | rfl | rfl | rfl : j = 0 ∨ j = 1 ∨ j = 2 ∨ j = 3 ∨ j = 4 ∨ j = 5 := by omega
    all_goals (simp [mostN]; omega)
theorem c_isBox {d : Nat} {x : Int32} {S : tb_St} : tb_cI (d + 2) mX7_isBox [.int x] S = some (boxB x, S) := by
  refine MX7_isBox ?_
  unfold boxB
  by_cases h0 : x < 0
  · rw [if_pos h0, if_neg (fun z => by have := z.1; grind)]
  · rw [if_neg h0]
    by_cases h1 : x ≤ 999999
    · rw [if_pos h1]
      obtain ⟨m, hm, rfl⟩ := n_of_le (x := x) (n := 999999) (by grind) h1 (by omega)
      obtain ⟨p, hp, e1, e2⟩ := c_isBoxL (d := d) (S := S) hm 6 0 0 tb_jk (by omega) (Or.inl ⟨rfl, rfl⟩)
      have hz : nI 0 = (0 : Int32) := rfl
      rw [hz] at e2
      rw [e2, nI_clamp (by omega)]
      have e3 := e1.trans can_box
      unfold b2
      by_cases hb : boxN m
      · rw [if_pos (e3.mpr hb), if_pos ⟨by grind, h1, hb⟩]
      · rw [if_neg (fun z => hb (e3.mp z)), if_neg (fun z => hb z.2.2)]
    · rw [if_neg h1, if_neg (fun z => h1 z.2.1)]
theorem r_isBoxL {d m : Nat} {S : tb_St} (hm : m ≤ 999999) : ∀ (g k : Nat), k + g = 6 → ∃ p : Prop, ∃ _ : Decidable p, (p ↔ ∀ j, k ≤ j → j < 6 → (figM m j ≤ mostN j ∧ (j % 2 = 1 → figM m (j - 1) ≤ figM m j))) ∧ tb_E (d + 1) mX8_isBox tb_dI 14 [.int (nI m), .int (nI k)] [] tb_S S = some (b2 p, S) := by
  intro g
  induction g with
  | zero =>
    intro k hk
    refine ⟨True, inferInstance, ⟨fun _ j h1 h2 => by omega, fun _ => trivial⟩, BX8_isBox_14 ?_⟩
    rw [if_pos (show (6 : Int32) ≤ nI k by rw [show (6 : Int32) = nI 6 from rfl, n_le (by omega) (by omega)]; omega)]
    rfl
  | succ g ih =>
    intro k hk
    obtain ⟨p, hp, h1, h2⟩ := ih (k + 1) (by omega)
    have hl := fig_lt m k
    have hl2 := fig_lt m (k - 1)
    have h3 : mostN k ≤ 7 := most_le k
    refine ⟨(figM m k ≤ mostN k ∧ (k % 2 = 1 → figM m (k - 1) ≤ figM m k)) ∧ p, inferInstance, ?_, BX8_isBox_14 ?_⟩
    · rw [h1]
      constructor
      · rintro ⟨q1, q2⟩ j g1 g2
        by_cases e : j = k
        · subst e; exact q1
        · exact q2 j (by omega) g2
      · exact fun q => ⟨q k (by omega) (by omega), fun j g1 g2 => q j (by omega) g2⟩
    · rw [if_neg (show ¬ (6 : Int32) ≤ nI k by rw [show (6 : Int32) = nI 6 from rfl, n_le (by omega) (by omega)]; omega), r_fig (by omega) (by omega)]
      simp only [Option.bind_some]
      rw [r_most (by omega)]
      simp only [Option.bind_some]
      rw [n_inc, h2, show (2 : Int32) = nI 2 from rfl, n_rem (by omega) (by omega)]
      by_cases hq : mostN k < figM m k
      · rw [if_pos ((n_lt (by omega) (by omega)).mpr hq)]
        unfold b2
        rw [if_neg (fun z => by omega)]
      · rw [if_neg (fun z => hq ((n_lt (by omega) (by omega)).mp z))]
        by_cases ho : k % 2 = 1
        · rw [if_neg (by rw [show (1 : Int32) = nI 1 from rfl, n_eq (by omega) (by omega)]; omega)]
          rw [r_fig (by omega) (by omega)]
          simp only [Option.bind_some]
          rw [show (1 : Int32) = nI 1 from rfl, n_sub (by omega) (by omega), r_fig (by omega) (by omega)]
          simp only [Option.bind_some]
          by_cases hg : figM m (k - 1) ≤ figM m k
          · rw [if_pos ((n_le (by omega) (by omega)).mpr hg), h2]
            unfold b2
            by_cases hpp : p
            · rw [if_pos hpp, if_pos ⟨⟨by omega, fun _ => hg⟩, hpp⟩]
            · rw [if_neg hpp, if_neg (fun z => hpp z.2)]
          · rw [if_neg (fun z => hg ((n_le (by omega) (by omega)).mp z))]
            unfold b2
            rw [if_neg (fun z => hg (z.1.2 ho))]
        · rw [if_pos (by rw [show (1 : Int32) = nI 1 from rfl, n_eq (by omega) (by omega)]; omega)]
          unfold b2
          by_cases hpp : p
          · rw [if_pos hpp, if_pos ⟨⟨by omega, fun z => absurd z ho⟩, hpp⟩]
          · rw [if_neg hpp, if_neg (fun z => hpp z.2)]
theorem r_box {m : Nat} : (∀ j, 0 ≤ j → j < 6 → (figM m j ≤ mostN j ∧ (j % 2 = 1 → figM m (j - 1) ≤ figM m j))) ↔ boxN m := by
  constructor
  · intro h
    have g1 := h 1 (by omega) (by omega)
    have g3 := h 3 (by omega) (by omega)
    have g5 := h 5 (by omega) (by omega)
    simp [mostN] at g1 g3 g5
    exact ⟨g1.2, g1.1, g3.2, g3.1, g5.2, g5.1⟩
  · rintro ⟨a1, a2, a3, a4, a5, a6⟩ j _ hj
    obtain rfl | rfl | rfl | rfl | rfl | rfl : j = 0 ∨ j = 1 ∨ j = 2 ∨ j = 3 ∨ j = 4 ∨ j = 5 := by omega
    all_goals (simp [mostN]; omega)
theorem r_isBox {d : Nat} {x : Int32} {S : tb_St} : tb_cI (d + 2) mX8_isBox [.int x] S = some (boxB x, S) := by
  refine MX8_isBox ?_
  rw [s_within]
  simp only [Option.bind_some, b2_0]
  unfold boxB
  by_cases h0 : 0 ≤ x ∧ x ≤ 999999
  · rw [if_pos (by simpa using h0)]
    obtain ⟨m, hm, rfl⟩ := n_of_le (x := x) (n := 999999) h0.1 h0.2 (by omega)
    obtain ⟨p, hp, e1, e2⟩ := r_isBoxL (d := d) (S := S) hm 6 0 (by omega)
    have hz : nI 0 = (0 : Int32) := rfl
    rw [hz] at e2
    rw [e2, nI_clamp (by omega)]
    have e3 := e1.trans r_box
    unfold b2
    by_cases hb : boxN m
    · rw [if_pos (e3.mpr hb), if_pos ⟨h0.1, h0.2, hb⟩]
    · rw [if_neg (fun z => hb (e3.mp z)), if_neg (fun z => hb z.2.2)]
  · rw [if_neg (by simpa using h0), if_neg (fun z => h0 ⟨z.1, z.2.1⟩)]
/-- a case in a box -/
def inB (c m : Nat) : Prop := figM m 0 ≤ c / 28 ∧ c / 28 ≤ figM m 1 ∧ figM m 2 ≤ c / 4 % 7 ∧ c / 4 % 7 ≤ figM m 3 ∧ figM m 4 ≤ c % 4 ∧ c % 4 ≤ figM m 5
noncomputable def inBB (c m : Nat) : Int32 := by classical exact if inB c m then 1 else 0
