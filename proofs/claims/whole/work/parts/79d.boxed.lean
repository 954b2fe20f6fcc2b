/-! Part 79d: what C's boxes hold when all is packed -/
theorem pk_mem {al : Nat → Nat → Bool} : ∀ g c D x, c + g = 224 → x ∈ pkL al g c D → x.1 < 224 ∧ D x.1 = false ∧ x.2 ≤ 999999 := by
  intro g
  induction g with
  | zero => intro c D x _ h; simp [pkL] at h
  | succ g ih =>
    intro c D x hc h
    unfold pkL at h
    cases e : D c with
    | true =>
      rw [e, if_pos rfl] at h
      exact ih (c + 1) D x (by omega) h
    | false =>
      rw [e, if_neg (by simp), List.mem_cons] at h
      rcases h with rfl | h
      · exact ⟨by show c < 224; omega, e, (boxOf_fig (show c < 224 by omega)).1⟩
      · obtain ⟨h1, h2, h3⟩ := ih (c + 1) _ x (by omega) h
        rw [Bool.or_eq_false_iff] at h2
        exact ⟨h1, h2.1, h3⟩
theorem pk_len {al : Nat → Nat → Bool} : ∀ g c D, (pkL al g c D).length ≤ g := by
  intro g
  induction g with
  | zero => intro c D; simp [pkL]
  | succ g ih =>
    intro c D
    unfold pkL
    split
    · have := ih (c + 1) D; omega
    · rw [List.length_cons]
      have := ih (c + 1) (fun x => D x || decide (¬ inBB x (boxOf (fun x => !D x && al c x) c) = 0))
      omega
noncomputable def pkM (M : Nat → Int32) : List (Nat × Nat) := pkL (alM M) 224 0 (fun c => decide (M c = -1))
theorem pkM_len {M : Nat → Int32} : (pkM M).length ≤ 224 := pk_len 224 0 _
theorem pkM_mem {M : Nat → Int32} {x : Nat × Nat} {k : Nat} (h : (pkM M)[k]? = some x) : x.1 < 224 ∧ ¬ M x.1 = -1 ∧ x.2 ≤ 999999 := by
  obtain ⟨h1, h2, h3⟩ := pk_mem 224 0 _ x rfl (List.mem_of_getElem? h)
  exact ⟨h1, by simpa using h2, h3⟩
def PKc (L : List (Nat × Nat)) (M : Nat → Int32) (S : tb_St) : Prop := S 28 3 = nI L.length ∧ ∀ j x, L[j]? = some x → S 30 j = nI x.2 ∧ S 31 j = M x.1
def PKr (L : List (Nat × Nat)) (A B : Nat → Int32) (S : tb_St) : Prop := S 45 14 = nI L.length ∧ ∀ j x, L[j]? = some x → (∀ i, i < 6 → S 58 (8 * j + i) = nI (figM x.2 i)) ∧ S 58 (8 * j + 6) = A x.1 ∧ S 58 (8 * j + 7) = B x.1
theorem c_takeAll {d : Nat} {M : Nat → Int32} {S : tb_St} (hM : ∀ j, j < 224 → S 29 j = M j) : ∃ S', tb_cV (d + 5) mX0_takeAll [.ref 28] S = some S' ∧ (∀ q, q ≠ 28 → q ≠ 29 → q ≠ 30 → q ≠ 31 → S' q = S q) ∧ PKc (pkM M) M S' := by
  have hc : cMark (tb_up S 28 3 0) (fun c => decide (M c = -1)) M := by
    intro x hx
    rw [up_ne (by omega), hM x hx]
    by_cases e : M x = -1
    · simp [e]
    · simp [e]
  obtain ⟨S', h1, h2, h3, h4, h5⟩ := c_takeAllL (d := d) (M := M) 224 0 0 (fun c => decide (M c = -1)) (tb_up S 28 3 0) rfl hc (by rw [up_rd, if_pos ⟨rfl, rfl⟩]; rfl) (by omega)
  refine ⟨S', MX0_takeAll h1, fun q q1 q2 q3 q4 => by rw [h2 q q1 q2 q3 q4, up_ne q1], ?_, fun j x hx => ?_⟩
  · rw [h3, Nat.zero_add]
    rfl
  · have h := h5 j x hx
    rw [Nat.zero_add] at h
    exact h
theorem kp_of8 {S S' : tb_St} (h : ∀ q, q < 24 ∨ 31 < q → S' q = S q) : tb_Kp S S' := by
  refine ⟨fun q hq => h q ?_, by rw [h 32 (by omega)], by rw [h 32 (by omega)], fun f _ => by rw [h 45 (by omega)]⟩
  simp only [List.mem_cons, List.not_mem_nil, or_false] at hq
  omega
theorem c_boxFees {d n t : Nat} {S : tb_St} (hT : jTS n S) (ht : t < n) : ∃ S', tb_cV (d + 6) mX7_boxFees [.ref 1, .int (nI t)] S = some S' ∧ (∀ q, q < 24 ∨ 31 < q → S' q = S q) ∧ PKc (pkM (feeM S t)) (feeM S t) S' := by
  obtain ⟨U, u1, u2, u3, u4⟩ := c_open (d := d + 1) hT ht
  obtain ⟨V, v1, v2, v3⟩ := c_feesL (d := d) (w1 := .int (nI t)) hT ht 224 0 tb_jk U rfl u2 u3
  obtain ⟨W, w1, w2, w3⟩ := c_takeAll (d := d) (M := feeM S t) (S := V) (fun j hj => by rw [v3 j hj, if_neg (by omega)])
  refine ⟨W, MX7_boxFees ?_, fun q hq => ?_, w3⟩
  · rw [u1]
    exact v1 W w1
  · rw [w2 q (by omega) (by omega) (by omega) (by omega), v2 q (by omega) (by omega), u4 q (by omega) (by omega) (by omega)]
theorem c_boxGaps {d n t : Nat} {S : tb_St} (hT : jTS n S) (ht : t < n) : ∃ S', tb_cV (d + 6) mX7_boxGaps [.ref 1, .int (nI t)] S = some S' ∧ (∀ q, q < 24 ∨ 31 < q → S' q = S q) ∧ PKc (pkM (gapM S t)) (gapM S t) S' := by
  obtain ⟨U, u1, u2, u3, u4⟩ := c_open (d := d + 1) hT ht
  obtain ⟨V, v1, v2, v3⟩ := c_gapsL (d := d) (w1 := .int (nI t)) hT ht 224 0 U rfl u2 u3
  obtain ⟨W, w1, w2, w3⟩ := c_takeAll (d := d) (M := gapM S t) (S := V) (fun j hj => by rw [v3 j hj, if_neg (by omega)])
  refine ⟨W, MX7_boxGaps ?_, fun q hq => ?_, w3⟩
  · rw [u1]
    exact v1 W w1
  · rw [w2 q (by omega) (by omega) (by omega) (by omega), v2 q (by omega) (by omega), u4 q (by omega) (by omega) (by omega)]
theorem say_cg {S S' : tb_St} {t c : Nat} (h : ∀ q, q < 24 → S' q = S q) : sayV S' t c = sayV S t c := by
  unfold sayV wouldV
  rw [h 3 (by omega), h 4 (by omega), h 5 (by omega), h 6 (by omega), h 7 (by omega), h 8 (by omega)]
theorem jts_cg {n : Nat} {S S' : tb_St} (hT : jTS n S) (h : ∀ q, q < 24 ∨ 31 < q → S' q = S q) : jTS n S' := kp_jts hT (kp_of8 h)
theorem tr_cg {n t : Nat} {S S' U : tb_St} (h : ∀ q, q < 24 → S' q = S q) (hR : TR S' n t U) : TR S n t U := by
  unfold TR at hR ⊢
  rw [h 3 (by omega), h 4 (by omega), h 5 (by omega), h 6 (by omega), h 7 (by omega), h 8 (by omega)] at hR
  exact hR
theorem c_boxDiffs {d n t u : Nat} {S : tb_St} (hT : jTS n S) (ht : t < n) (hu : u < n) : ∃ S', tb_cV (d + 6) mX7_boxDiffs [.ref 1, .int (nI t), .int (nI u)] S = some S' ∧ (∀ q, q < 24 ∨ 31 < q → S' q = S q) ∧ PKc (pkM (diffM S t u)) (diffM S t u) S' := by
  obtain ⟨U, u1, u2, u3, u4⟩ := c_open (d := d + 1) hT ht
  obtain ⟨V, v1, v2, v3⟩ := c_diffs1L (d := d) (x2 := nI u) (w1 := .int (nI t)) (w4 := tb_jk) (w5 := tb_jk) hT ht 224 0 U rfl u2 u3
  have hV : ∀ q, q < 24 ∨ 31 < q → V q = S q := fun q hq => by rw [v2 q (by omega) (by omega), u4 q (by omega) (by omega) (by omega)]
  obtain ⟨X, x1, x2, x3, x4⟩ := c_open (d := d + 1) (jts_cg hT hV) hu
  obtain ⟨Y, y1, y2, y3⟩ := c_diffs2L (d := d) (t := t) (w1 := .int (nI t)) (w2 := .int (nI u)) hT hu 224 0 tb_jk tb_jk X rfl (tr_cg (fun q hq => hV q (by omega)) x2) x3 (fun j _ hj => by rw [x4 29 (by omega) (by omega) (by omega), v3 j hj, if_neg (by omega)])
  obtain ⟨W, w1, w2, w3⟩ := c_takeAll (d := d) (M := diffM S t u) (S := Y) (fun j hj => by rw [y3 j hj, if_neg (by omega)])
  refine ⟨W, MX7_boxDiffs ?_, fun q hq => ?_, w3⟩
  · rw [u1]
    refine v1 W ?_
    rw [x1]
    exact y1 W w1
  · rw [w2 q (by omega) (by omega) (by omega) (by omega), y2 q (by omega) (by omega), x4 q (by omega) (by omega) (by omega), hV q hq]
