/-! Part 72: packing: both find the same box -/
theorem ags1 {G : Nat → Bool} {a m e n h : Nat} : agsB G 1 a m e n h = dysB G m e n h a := by
  unfold agsB rngB rngB
  rw [Bool.and_true]
theorem dys1 {G : Nat → Bool} {e n h a : Nat} : dysB G 1 e n h a = hrsB G n h a e := by
  unfold dysB rngB rngB
  rw [Bool.and_true]
section Take
variable {d a e h c0 : Nat} {w : Int32} {S : tb_St} {r : tb_St}
theorem end_n {k n : Nat} (hk : k < n) (hn : n ≤ 300) : ¬ nI n ≤ nI k := n_nle (by omega) (by omega) hk
theorem c_t28 {w1 w8 : Value} (ha : a ≤ 7) (he : e ≤ 6) (hh : h ≤ 3) : ∀ f x (w7 : Value), x + f = 3 → tb_E (d + 3) mX0_takeFrom tb_dV 63 [.ref 28, w1, .int w, .int (nI a), .int (nI e), .int (nI h), .int (nI (ext (fun y => hrsB (fun c => decide (S 29 c = w)) 1 y a e) f x)), .int (nI e), w8] [] tb_S S = some r → tb_E (d + 3) mX0_takeFrom tb_dV 28 [.ref 28, w1, .int w, .int (nI a), .int (nI e), .int (nI h), .int (nI x), w7, w8] [] tb_S S = some r := by
  intro f
  induction f with
  | zero =>
    intro x w7 hx hr
    refine BX0_takeFrom_28 ?_
    obtain rfl : x = 3 := by omega
    rw [if_pos (show (3 : Int32) ≤ nI 3 by decide)]
    exact hr
  | succ f ih =>
    intro x w7 hx hr
    refine BX0_takeFrom_28 ?_
    rw [if_neg (show ¬ (3 : Int32) ≤ nI x from end_n (n := 3) (by omega) (by omega)), n_inc, c_hours (n := 1) ha he (by omega) (by omega)]
    simp only [Option.bind_some]
    unfold ext at hr
    by_cases q : hrsB (fun c => decide (S 29 c = w)) 1 (x + 1) a e = true
    · rw [if_pos q] at hr
      rw [if_pos q, if_neg (by decide)]
      exact ih (x + 1) _ (by omega) hr
    · rw [if_neg q] at hr
      rw [if_neg q, if_pos rfl]
      exact hr
theorem c_t63 {w1 : Value} {lh n : Nat} (ha : a ≤ 7) (hl : lh ≤ 3) (hn : h + n = lh + 1) : ∀ f x (w8 : Value), x + f = 6 → tb_E (d + 3) mX0_takeFrom tb_dV 96 [.ref 28, w1, .int w, .int (nI a), .int (nI e), .int (nI h), .int (nI lh), .int (nI (ext (fun y => hrsB (fun c => decide (S 29 c = w)) n h a y) f x)), .int (nI a)] [] tb_S S = some r → tb_E (d + 3) mX0_takeFrom tb_dV 63 [.ref 28, w1, .int w, .int (nI a), .int (nI e), .int (nI h), .int (nI lh), .int (nI x), w8] [] tb_S S = some r := by
  intro f
  induction f with
  | zero =>
    intro x w8 hx hr
    refine BX0_takeFrom_63 ?_
    obtain rfl : x = 6 := by omega
    rw [if_pos (show (6 : Int32) ≤ nI 6 by decide)]
    exact hr
  | succ f ih =>
    intro x w8 hx hr
    refine BX0_takeFrom_63 ?_
    rw [if_neg (show ¬ (6 : Int32) ≤ nI x from end_n (n := 6) (by omega) (by omega)), n_inc, c_hours ha (by omega) hl hn]
    simp only [Option.bind_some]
    unfold ext at hr
    by_cases q : hrsB (fun c => decide (S 29 c = w)) n h a (x + 1) = true
    · rw [if_pos q] at hr
      rw [if_pos q, if_neg (by decide)]
      exact ih (x + 1) _ (by omega) hr
    · rw [if_neg q] at hr
      rw [if_neg q, if_pos rfl]
      exact hr
theorem c_t96 {w1 : Value} {lh n le m : Nat} (hl : lh ≤ 3) (hn : h + n = lh + 1) (he : le ≤ 6) (hm : e + m = le + 1) : ∀ f x, x + f = 7 → tb_E (d + 3) mX0_takeFrom tb_dV 129 [.ref 28, w1, .int w, .int (nI a), .int (nI e), .int (nI h), .int (nI lh), .int (nI le), .int (nI (ext (fun y => dysB (fun c => decide (S 29 c = w)) m e n h y) f x))] [] tb_S S = some r → tb_E (d + 3) mX0_takeFrom tb_dV 96 [.ref 28, w1, .int w, .int (nI a), .int (nI e), .int (nI h), .int (nI lh), .int (nI le), .int (nI x)] [] tb_S S = some r := by
  intro f
  induction f with
  | zero =>
    intro x hx hr
    refine BX0_takeFrom_96 ?_
    obtain rfl : x = 7 := by omega
    rw [if_pos (show (7 : Int32) ≤ nI 7 by decide)]
    exact hr
  | succ f ih =>
    intro x hx hr
    refine BX0_takeFrom_96 ?_
    rw [if_neg (show ¬ (7 : Int32) ≤ nI x from end_n (n := 7) (by omega) (by omega)), n_inc, c_days (show x + 1 ≤ 7 by omega) he hl hn hm]
    simp only [Option.bind_some]
    unfold ext at hr
    by_cases q : dysB (fun c => decide (S 29 c = w)) m e n h (x + 1) = true
    · rw [if_pos q] at hr
      rw [if_pos q, if_neg (by decide)]
      exact ih (x + 1) (by omega) hr
    · rw [if_neg q] at hr
      rw [if_neg q, if_pos rfl]
      exact hr
/-- the reference -/
theorem r_p55 {w8 w9 w10 w11 : Value} {x5 x6 : Int32} (hc : c0 < 224) (ha : a ≤ 7) (he : e ≤ 6) : ∀ f x, x + f = 3 → tb_E (d + 2) mX8_packs tb_dV 87 [.ref 45, .int (nI c0), .int (nI a), .int (nI e), .int (nI h), .int x5, .int x6, .int (nI (ext (fun y => hrsB (goR S c0) 1 y a e) f x)), w8, w9, w10, w11] [] tb_S S = some r → tb_E (d + 2) mX8_packs tb_dV 55 [.ref 45, .int (nI c0), .int (nI a), .int (nI e), .int (nI h), .int x5, .int x6, .int (nI x), w8, w9, w10, w11] [] tb_S S = some r := by
  intro f
  induction f with
  | zero =>
    intro x hx hr
    refine BX8_packs_55 ?_
    obtain rfl : x = 3 := by omega
    rw [if_pos (show (3 : Int32) ≤ nI 3 by decide)]
    exact hr
  | succ f ih =>
    intro x hx hr
    refine BX8_packs_55 ?_
    rw [if_neg (show ¬ (3 : Int32) ≤ nI x from end_n (n := 3) (by omega) (by omega)), n_inc, r_all (k := 1) (ne := 1) (nh := 1) hc ha he (by omega) (by omega) (by omega) (by omega), ags1, dys1]
    simp only [Option.bind_some]
    unfold ext at hr
    by_cases q : hrsB (goR S c0) 1 (x + 1) a e = true
    · rw [if_pos q] at hr
      rw [if_pos q, if_neg (by decide)]
      exact ih (x + 1) (by omega) hr
    · rw [if_neg q] at hr
      rw [if_neg q, if_pos rfl]
      exact hr
theorem r_p87 {w8 w9 w10 w11 : Value} {x5 : Int32} {lh n : Nat} (hc : c0 < 224) (ha : a ≤ 7) (hl : lh ≤ 3) (hn : h + n = lh + 1) : ∀ f x, x + f = 6 → tb_E (d + 2) mX8_packs tb_dV 122 [.ref 45, .int (nI c0), .int (nI a), .int (nI e), .int (nI h), .int x5, .int (nI (ext (fun y => hrsB (goR S c0) n h a y) f x)), .int (nI lh), w8, w9, w10, w11] [] tb_S S = some r → tb_E (d + 2) mX8_packs tb_dV 87 [.ref 45, .int (nI c0), .int (nI a), .int (nI e), .int (nI h), .int x5, .int (nI x), .int (nI lh), w8, w9, w10, w11] [] tb_S S = some r := by
  intro f
  induction f with
  | zero =>
    intro x hx hr
    refine BX8_packs_87 ?_
    obtain rfl : x = 6 := by omega
    rw [if_pos (show (6 : Int32) ≤ nI 6 by decide)]
    exact hr
  | succ f ih =>
    intro x hx hr
    refine BX8_packs_87 ?_
    rw [if_neg (show ¬ (6 : Int32) ≤ nI x from end_n (n := 6) (by omega) (by omega)), n_inc, r_all (k := 1) (ne := 1) (nh := n) hc ha (by omega) hl hn (by omega) (by omega), ags1, dys1]
    simp only [Option.bind_some]
    unfold ext at hr
    by_cases q : hrsB (goR S c0) n h a (x + 1) = true
    · rw [if_pos q] at hr
      rw [if_pos q, if_neg (by decide)]
      exact ih (x + 1) (by omega) hr
    · rw [if_neg q] at hr
      rw [if_neg q, if_pos rfl]
      exact hr
theorem r_p122 {w8 w9 w10 w11 : Value} {lh n le m : Nat} (hc : c0 < 224) (hl : lh ≤ 3) (hn : h + n = lh + 1) (he : le ≤ 6) (hm : e + m = le + 1) : ∀ f x, x + f = 7 → tb_E (d + 2) mX8_packs tb_dV 158 [.ref 45, .int (nI c0), .int (nI a), .int (nI e), .int (nI h), .int (nI (ext (fun y => dysB (goR S c0) m e n h y) f x)), .int (nI le), .int (nI lh), w8, w9, w10, w11] [] tb_S S = some r → tb_E (d + 2) mX8_packs tb_dV 122 [.ref 45, .int (nI c0), .int (nI a), .int (nI e), .int (nI h), .int (nI x), .int (nI le), .int (nI lh), w8, w9, w10, w11] [] tb_S S = some r := by
  intro f
  induction f with
  | zero =>
    intro x hx hr
    refine BX8_packs_122 ?_
    obtain rfl : x = 7 := by omega
    rw [if_pos (show (7 : Int32) ≤ nI 7 by decide)]
    exact hr
  | succ f ih =>
    intro x hx hr
    refine BX8_packs_122 ?_
    rw [if_neg (show ¬ (7 : Int32) ≤ nI x from end_n (n := 7) (by omega) (by omega)), n_inc, r_all (k := 1) (ne := m) (nh := n) hc (by omega) he hl hn hm (by omega), ags1]
    simp only [Option.bind_some]
    unfold ext at hr
    by_cases q : dysB (goR S c0) m e n h (x + 1) = true
    · rw [if_pos q] at hr
      rw [if_pos q, if_neg (by decide)]
      exact ih (x + 1) (by omega) hr
    · rw [if_neg q] at hr
      rw [if_neg q, if_pos rfl]
      exact hr
end Take
