/-! Part 70: the law's loop out of the method pairs (printed by program) -/
/-- every pair of methods answers alike -/
def tb_All : Prop := (∀ a : Int32, tb_PI mX7_flat mX8_flat [.int a]) ∧ (tb_PI mX7_empty mX8_empty []) ∧ (∀ a b : Int32, tb_PI mX7_when mX8_when [.int a, .int b]) ∧ (∀ a b c : Int32, tb_PI mX7_cap mX8_cap [.int a, .int b, .int c]) ∧ (∀ a b c : Int32, tb_PI mX7_two mX8_two [.int a, .int b, .int c]) ∧ (tb_PI mX7_drop mX8_drop []) ∧ (∀ a : Int32, tb_PI mX7_feed mX8_feed [.int a]) ∧ (tb_PI mX7_clear mX8_clear []) ∧ (tb_PI mX7_read mX8_read []) ∧ (∀ a : Int32, tb_PI mX7_way mX8_way [.int a]) ∧ (∀ a b : Int32, tb_PI mX7_of mX8_of [.int a, .int b]) ∧ (∀ a b : Int32, tb_PI mX7_taken mX8_taken [.int a, .int b]) ∧ (∀ a : Int32, tb_PI mX7_spell mX8_spell [.int a]) ∧ (∀ a : Int32, tb_PI mX7_paper mX8_paper [.int a]) ∧ (∀ a b : Int32, tb_PI mX7_says mX8_says [.int a, .int b]) ∧ (∀ a b : Int32, tb_PI mX7_sum mX8_sum [.int a, .int b]) ∧ (∀ a b : Int32, tb_PL mX7_odds mX8_odds [.int a, .int b]) ∧ (∀ a b c : Int32, tb_PI mX7_part mX8_part_ [.int a, .int b, .int c]) ∧ (∀ a b c : Int32, tb_PI mX7_gap mX8_gap [.int a, .int b, .int c]) ∧ (∀ a b c d : Int32, tb_PI mX7_diff mX8_diff [.int a, .int b, .int c, .int d]) ∧ (∀ a b : Int32, tb_PI mX7_rule mX8_rule [.int a, .int b]) ∧ (∀ a b : Int32, tb_PI mX7_idle mX8_idle [.int a, .int b]) ∧ (∀ a b : Int32, tb_PI mX7_overlap mX8_overlap [.int a, .int b]) ∧ (∀ a b c d : Int32, tb_PI mX7_would mX8_would [.int a, .int b, .int c, .int d]) ∧ (∀ a b : Int32, tb_PI mX7_paid mX8_paid [.int a, .int b]) ∧ (∀ a b c : Int32, tb_PI mX7_fits mX8_fits [.int a, .int b, .int c]) ∧ (∀ a b c d : Int32, tb_PI mX7_till mX8_till [.int a, .int b, .int c, .int d]) ∧ (∀ a b : Int32, tb_PI mX7_rack mX8_rack [.int a, .int b]) ∧ (∀ a b c : Int32, tb_PI mX7_put mX8_put [.int a, .int b, .int c]) ∧ (∀ a b : Int32, tb_PL mX7_get mX8_get [.int a, .int b]) ∧ (∀ a b c : Int32, tb_PI mX7_lay mX8_lay [.int a, .int b, .int c]) ∧ (∀ a b : Int32, tb_PI mX7_judge mX8_judge [.int a, .int b]) ∧ (tb_PI mX7_image mX8_image []) ∧ (tb_PI mX7_undo mX8_undo []) ∧ (∀ a : Int32, tb_PI mX7_count mX8_count [.int a])
section LawLoop
variable {L i : Nat} {S : tb_St}
theorem law_ix {c : Nat} {w : Int32} (hL : L ≤ 2560) (h0 : S 0 2560 = nI L) (hi : i + 5 ≤ L) (hw : w = nI c) (hc : c ≤ 4) : tb_ix (nI i + w) (S 0 2560).toNatClampNeg = some (i + c) := by
  rw [h0, nI_clamp (by omega), hw, n_add (by omega)]
  exact n_ix (by omega) (by omega)
theorem law_ix0 (hL : L ≤ 2560) (h0 : S 0 2560 = nI L) (hi : i + 5 ≤ L) : tb_ix (nI i) (S 0 2560).toNatClampNeg = some i := by
  rw [h0, nI_clamp (by omega)]
  exact n_ix (by omega) (by omega)
theorem law_next {i : Nat} (hi : i < 10000) (h : ∃ Sf, tb_E 100 mL_law tb_dI 18 [.ref 0, .ref 1, .ref 45, .int (nI (i + 5))] [] tb_S S = some ((1 : Int32), Sf)) : ∃ Sf, tb_E 100 mL_law tb_dI 1295 [.ref 0, .ref 1, .ref 45, .int (nI i)] [] tb_S S = some ((1 : Int32), Sf) := by
  refine Exists.imp (fun Sf h => BL_law_1295 h) ?_
  rw [show nI i + (5 : Int32) = nI (i + 5) by rw [show (5 : Int32) = nI 5 from rfl]; exact n_add (by omega)]
  exact h
theorem law_flat (hL : L ≤ 2560) (h0 : S 0 2560 = nI L) (hi : i + 5 ≤ L) (hJ : tb_J S) (hP : ∀ a : Int32, tb_PI mX7_flat mX8_flat [.int a]) (k : ∀ T, tb_J T → T 0 = S 0 → ∃ Sf, tb_E 100 mL_law tb_dI 18 [.ref 0, .ref 1, .ref 45, .int (nI (i + 5))] [] tb_S T = some ((1 : Int32), Sf)) : ∃ Sf, tb_E 100 mL_law tb_dI 188 [.ref 0, .ref 1, .ref 45, .int (nI i)] [] tb_S S = some ((1 : Int32), Sf) := by
  refine Exists.imp (fun Sf h => BL_law_188 h) ?_
  obtain ⟨v, S1, S2, h1, h2, h3, h4, h5⟩ := hP (S 0 (i + 1)) S hJ
  have e1 := law_ix (S := S) (c := 1) (w := (1 : Int32)) hL h0 hi rfl (by decide)
  simp only [e1, Option.bind_some, h1, h2, h3, if_true]
  exact law_next (by omega) (k S2 h5 h4)
theorem law_empty (hL : L ≤ 2560) (h0 : S 0 2560 = nI L) (hi : i + 5 ≤ L) (hJ : tb_J S) (hP : tb_PI mX7_empty mX8_empty []) (k : ∀ T, tb_J T → T 0 = S 0 → ∃ Sf, tb_E 100 mL_law tb_dI 18 [.ref 0, .ref 1, .ref 45, .int (nI (i + 5))] [] tb_S T = some ((1 : Int32), Sf)) : ∃ Sf, tb_E 100 mL_law tb_dI 211 [.ref 0, .ref 1, .ref 45, .int (nI i)] [] tb_S S = some ((1 : Int32), Sf) := by
  refine Exists.imp (fun Sf h => BL_law_211 h) ?_
  obtain ⟨v, S1, S2, h1, h2, h3, h4, h5⟩ := hP  S hJ
  simp only [Option.bind_some, h1, h2, h3, if_true]
  exact law_next (by omega) (k S2 h5 h4)
theorem law_when (hL : L ≤ 2560) (h0 : S 0 2560 = nI L) (hi : i + 5 ≤ L) (hJ : tb_J S) (hP : ∀ a b : Int32, tb_PI mX7_when mX8_when [.int a, .int b]) (k : ∀ T, tb_J T → T 0 = S 0 → ∃ Sf, tb_E 100 mL_law tb_dI 18 [.ref 0, .ref 1, .ref 45, .int (nI (i + 5))] [] tb_S T = some ((1 : Int32), Sf)) : ∃ Sf, tb_E 100 mL_law tb_dI 224 [.ref 0, .ref 1, .ref 45, .int (nI i)] [] tb_S S = some ((1 : Int32), Sf) := by
  refine Exists.imp (fun Sf h => BL_law_224 h) ?_
  obtain ⟨v, S1, S2, h1, h2, h3, h4, h5⟩ := hP (S 0 (i + 1)) (S 0 (i + 2)) S hJ
  have e1 := law_ix (S := S) (c := 1) (w := (1 : Int32)) hL h0 hi rfl (by decide)
  have e2 := law_ix (S := S) (c := 2) (w := (2 : Int32)) hL h0 hi rfl (by decide)
  simp only [e1, e2, Option.bind_some, h1, h2, h3, if_true]
  exact law_next (by omega) (k S2 h5 h4)
theorem law_cap (hL : L ≤ 2560) (h0 : S 0 2560 = nI L) (hi : i + 5 ≤ L) (hJ : tb_J S) (hP : ∀ a b c : Int32, tb_PI mX7_cap mX8_cap [.int a, .int b, .int c]) (k : ∀ T, tb_J T → T 0 = S 0 → ∃ Sf, tb_E 100 mL_law tb_dI 18 [.ref 0, .ref 1, .ref 45, .int (nI (i + 5))] [] tb_S T = some ((1 : Int32), Sf)) : ∃ Sf, tb_E 100 mL_law tb_dI 257 [.ref 0, .ref 1, .ref 45, .int (nI i)] [] tb_S S = some ((1 : Int32), Sf) := by
  refine Exists.imp (fun Sf h => BL_law_257 h) ?_
  obtain ⟨v, S1, S2, h1, h2, h3, h4, h5⟩ := hP (S 0 (i + 1)) (S 0 (i + 2)) (S 0 (i + 3)) S hJ
  have e1 := law_ix (S := S) (c := 1) (w := (1 : Int32)) hL h0 hi rfl (by decide)
  have e2 := law_ix (S := S) (c := 2) (w := (2 : Int32)) hL h0 hi rfl (by decide)
  have e3 := law_ix (S := S) (c := 3) (w := (3 : Int32)) hL h0 hi rfl (by decide)
  simp only [e1, e2, e3, Option.bind_some, h1, h2, h3, if_true]
  exact law_next (by omega) (k S2 h5 h4)
theorem law_two (hL : L ≤ 2560) (h0 : S 0 2560 = nI L) (hi : i + 5 ≤ L) (hJ : tb_J S) (hP : ∀ a b c : Int32, tb_PI mX7_two mX8_two [.int a, .int b, .int c]) (k : ∀ T, tb_J T → T 0 = S 0 → ∃ Sf, tb_E 100 mL_law tb_dI 18 [.ref 0, .ref 1, .ref 45, .int (nI (i + 5))] [] tb_S T = some ((1 : Int32), Sf)) : ∃ Sf, tb_E 100 mL_law tb_dI 300 [.ref 0, .ref 1, .ref 45, .int (nI i)] [] tb_S S = some ((1 : Int32), Sf) := by
  refine Exists.imp (fun Sf h => BL_law_300 h) ?_
  obtain ⟨v, S1, S2, h1, h2, h3, h4, h5⟩ := hP (S 0 (i + 1)) (S 0 (i + 2)) (S 0 (i + 3)) S hJ
  have e1 := law_ix (S := S) (c := 1) (w := (1 : Int32)) hL h0 hi rfl (by decide)
  have e2 := law_ix (S := S) (c := 2) (w := (2 : Int32)) hL h0 hi rfl (by decide)
  have e3 := law_ix (S := S) (c := 3) (w := (3 : Int32)) hL h0 hi rfl (by decide)
  simp only [e1, e2, e3, Option.bind_some, h1, h2, h3, if_true]
  exact law_next (by omega) (k S2 h5 h4)
theorem law_drop (hL : L ≤ 2560) (h0 : S 0 2560 = nI L) (hi : i + 5 ≤ L) (hJ : tb_J S) (hP : tb_PI mX7_drop mX8_drop []) (k : ∀ T, tb_J T → T 0 = S 0 → ∃ Sf, tb_E 100 mL_law tb_dI 18 [.ref 0, .ref 1, .ref 45, .int (nI (i + 5))] [] tb_S T = some ((1 : Int32), Sf)) : ∃ Sf, tb_E 100 mL_law tb_dI 343 [.ref 0, .ref 1, .ref 45, .int (nI i)] [] tb_S S = some ((1 : Int32), Sf) := by
  refine Exists.imp (fun Sf h => BL_law_343 h) ?_
  obtain ⟨v, S1, S2, h1, h2, h3, h4, h5⟩ := hP  S hJ
  simp only [Option.bind_some, h1, h2, h3, if_true]
  exact law_next (by omega) (k S2 h5 h4)
theorem law_feed (hL : L ≤ 2560) (h0 : S 0 2560 = nI L) (hi : i + 5 ≤ L) (hJ : tb_J S) (hP : ∀ a : Int32, tb_PI mX7_feed mX8_feed [.int a]) (k : ∀ T, tb_J T → T 0 = S 0 → ∃ Sf, tb_E 100 mL_law tb_dI 18 [.ref 0, .ref 1, .ref 45, .int (nI (i + 5))] [] tb_S T = some ((1 : Int32), Sf)) : ∃ Sf, tb_E 100 mL_law tb_dI 356 [.ref 0, .ref 1, .ref 45, .int (nI i)] [] tb_S S = some ((1 : Int32), Sf) := by
  refine Exists.imp (fun Sf h => BL_law_356 h) ?_
  obtain ⟨v, S1, S2, h1, h2, h3, h4, h5⟩ := hP (S 0 (i + 1)) S hJ
  have e1 := law_ix (S := S) (c := 1) (w := (1 : Int32)) hL h0 hi rfl (by decide)
  simp only [e1, Option.bind_some, h1, h2, h3, if_true]
  exact law_next (by omega) (k S2 h5 h4)
theorem law_clear (hL : L ≤ 2560) (h0 : S 0 2560 = nI L) (hi : i + 5 ≤ L) (hJ : tb_J S) (hP : tb_PI mX7_clear mX8_clear []) (k : ∀ T, tb_J T → T 0 = S 0 → ∃ Sf, tb_E 100 mL_law tb_dI 18 [.ref 0, .ref 1, .ref 45, .int (nI (i + 5))] [] tb_S T = some ((1 : Int32), Sf)) : ∃ Sf, tb_E 100 mL_law tb_dI 379 [.ref 0, .ref 1, .ref 45, .int (nI i)] [] tb_S S = some ((1 : Int32), Sf) := by
  refine Exists.imp (fun Sf h => BL_law_379 h) ?_
  obtain ⟨v, S1, S2, h1, h2, h3, h4, h5⟩ := hP  S hJ
  simp only [Option.bind_some, h1, h2, h3, if_true]
  exact law_next (by omega) (k S2 h5 h4)
theorem law_read (hL : L ≤ 2560) (h0 : S 0 2560 = nI L) (hi : i + 5 ≤ L) (hJ : tb_J S) (hP : tb_PI mX7_read mX8_read []) (k : ∀ T, tb_J T → T 0 = S 0 → ∃ Sf, tb_E 100 mL_law tb_dI 18 [.ref 0, .ref 1, .ref 45, .int (nI (i + 5))] [] tb_S T = some ((1 : Int32), Sf)) : ∃ Sf, tb_E 100 mL_law tb_dI 392 [.ref 0, .ref 1, .ref 45, .int (nI i)] [] tb_S S = some ((1 : Int32), Sf) := by
  refine Exists.imp (fun Sf h => BL_law_392 h) ?_
  obtain ⟨v, S1, S2, h1, h2, h3, h4, h5⟩ := hP  S hJ
  simp only [Option.bind_some, h1, h2, h3, if_true]
  exact law_next (by omega) (k S2 h5 h4)
theorem law_way (hL : L ≤ 2560) (h0 : S 0 2560 = nI L) (hi : i + 5 ≤ L) (hJ : tb_J S) (hP : ∀ a : Int32, tb_PI mX7_way mX8_way [.int a]) (k : ∀ T, tb_J T → T 0 = S 0 → ∃ Sf, tb_E 100 mL_law tb_dI 18 [.ref 0, .ref 1, .ref 45, .int (nI (i + 5))] [] tb_S T = some ((1 : Int32), Sf)) : ∃ Sf, tb_E 100 mL_law tb_dI 405 [.ref 0, .ref 1, .ref 45, .int (nI i)] [] tb_S S = some ((1 : Int32), Sf) := by
  refine Exists.imp (fun Sf h => BL_law_405 h) ?_
  obtain ⟨v, S1, S2, h1, h2, h3, h4, h5⟩ := hP (S 0 (i + 1)) S hJ
  have e1 := law_ix (S := S) (c := 1) (w := (1 : Int32)) hL h0 hi rfl (by decide)
  simp only [e1, Option.bind_some, h1, h2, h3, if_true]
  exact law_next (by omega) (k S2 h5 h4)
theorem law_of (hL : L ≤ 2560) (h0 : S 0 2560 = nI L) (hi : i + 5 ≤ L) (hJ : tb_J S) (hP : ∀ a b : Int32, tb_PI mX7_of mX8_of [.int a, .int b]) (k : ∀ T, tb_J T → T 0 = S 0 → ∃ Sf, tb_E 100 mL_law tb_dI 18 [.ref 0, .ref 1, .ref 45, .int (nI (i + 5))] [] tb_S T = some ((1 : Int32), Sf)) : ∃ Sf, tb_E 100 mL_law tb_dI 428 [.ref 0, .ref 1, .ref 45, .int (nI i)] [] tb_S S = some ((1 : Int32), Sf) := by
  refine Exists.imp (fun Sf h => BL_law_428 h) ?_
  obtain ⟨v, S1, S2, h1, h2, h3, h4, h5⟩ := hP (S 0 (i + 1)) (S 0 (i + 2)) S hJ
  have e1 := law_ix (S := S) (c := 1) (w := (1 : Int32)) hL h0 hi rfl (by decide)
  have e2 := law_ix (S := S) (c := 2) (w := (2 : Int32)) hL h0 hi rfl (by decide)
  simp only [e1, e2, Option.bind_some, h1, h2, h3, if_true]
  exact law_next (by omega) (k S2 h5 h4)
theorem law_taken (hL : L ≤ 2560) (h0 : S 0 2560 = nI L) (hi : i + 5 ≤ L) (hJ : tb_J S) (hP : ∀ a b : Int32, tb_PI mX7_taken mX8_taken [.int a, .int b]) (k : ∀ T, tb_J T → T 0 = S 0 → ∃ Sf, tb_E 100 mL_law tb_dI 18 [.ref 0, .ref 1, .ref 45, .int (nI (i + 5))] [] tb_S T = some ((1 : Int32), Sf)) : ∃ Sf, tb_E 100 mL_law tb_dI 461 [.ref 0, .ref 1, .ref 45, .int (nI i)] [] tb_S S = some ((1 : Int32), Sf) := by
  refine Exists.imp (fun Sf h => BL_law_461 h) ?_
  obtain ⟨v, S1, S2, h1, h2, h3, h4, h5⟩ := hP (S 0 (i + 1)) (S 0 (i + 2)) S hJ
  have e1 := law_ix (S := S) (c := 1) (w := (1 : Int32)) hL h0 hi rfl (by decide)
  have e2 := law_ix (S := S) (c := 2) (w := (2 : Int32)) hL h0 hi rfl (by decide)
  simp only [e1, e2, Option.bind_some, h1, h2, h3, if_true]
  exact law_next (by omega) (k S2 h5 h4)
theorem law_spell (hL : L ≤ 2560) (h0 : S 0 2560 = nI L) (hi : i + 5 ≤ L) (hJ : tb_J S) (hP : ∀ a : Int32, tb_PI mX7_spell mX8_spell [.int a]) (k : ∀ T, tb_J T → T 0 = S 0 → ∃ Sf, tb_E 100 mL_law tb_dI 18 [.ref 0, .ref 1, .ref 45, .int (nI (i + 5))] [] tb_S T = some ((1 : Int32), Sf)) : ∃ Sf, tb_E 100 mL_law tb_dI 494 [.ref 0, .ref 1, .ref 45, .int (nI i)] [] tb_S S = some ((1 : Int32), Sf) := by
  refine Exists.imp (fun Sf h => BL_law_494 h) ?_
  obtain ⟨v, S1, S2, h1, h2, h3, h4, h5⟩ := hP (S 0 (i + 1)) S hJ
  have e1 := law_ix (S := S) (c := 1) (w := (1 : Int32)) hL h0 hi rfl (by decide)
  simp only [e1, Option.bind_some, h1, h2, h3, if_true]
  exact law_next (by omega) (k S2 h5 h4)
theorem law_paper (hL : L ≤ 2560) (h0 : S 0 2560 = nI L) (hi : i + 5 ≤ L) (hJ : tb_J S) (hP : ∀ a : Int32, tb_PI mX7_paper mX8_paper [.int a]) (k : ∀ T, tb_J T → T 0 = S 0 → ∃ Sf, tb_E 100 mL_law tb_dI 18 [.ref 0, .ref 1, .ref 45, .int (nI (i + 5))] [] tb_S T = some ((1 : Int32), Sf)) : ∃ Sf, tb_E 100 mL_law tb_dI 517 [.ref 0, .ref 1, .ref 45, .int (nI i)] [] tb_S S = some ((1 : Int32), Sf) := by
  refine Exists.imp (fun Sf h => BL_law_517 h) ?_
  obtain ⟨v, S1, S2, h1, h2, h3, h4, h5⟩ := hP (S 0 (i + 1)) S hJ
  have e1 := law_ix (S := S) (c := 1) (w := (1 : Int32)) hL h0 hi rfl (by decide)
  simp only [e1, Option.bind_some, h1, h2, h3, if_true]
  exact law_next (by omega) (k S2 h5 h4)
theorem law_says (hL : L ≤ 2560) (h0 : S 0 2560 = nI L) (hi : i + 5 ≤ L) (hJ : tb_J S) (hP : ∀ a b : Int32, tb_PI mX7_says mX8_says [.int a, .int b]) (k : ∀ T, tb_J T → T 0 = S 0 → ∃ Sf, tb_E 100 mL_law tb_dI 18 [.ref 0, .ref 1, .ref 45, .int (nI (i + 5))] [] tb_S T = some ((1 : Int32), Sf)) : ∃ Sf, tb_E 100 mL_law tb_dI 540 [.ref 0, .ref 1, .ref 45, .int (nI i)] [] tb_S S = some ((1 : Int32), Sf) := by
  refine Exists.imp (fun Sf h => BL_law_540 h) ?_
  obtain ⟨v, S1, S2, h1, h2, h3, h4, h5⟩ := hP (S 0 (i + 1)) (S 0 (i + 2)) S hJ
  have e1 := law_ix (S := S) (c := 1) (w := (1 : Int32)) hL h0 hi rfl (by decide)
  have e2 := law_ix (S := S) (c := 2) (w := (2 : Int32)) hL h0 hi rfl (by decide)
  simp only [e1, e2, Option.bind_some, h1, h2, h3, if_true]
  exact law_next (by omega) (k S2 h5 h4)
theorem law_sum (hL : L ≤ 2560) (h0 : S 0 2560 = nI L) (hi : i + 5 ≤ L) (hJ : tb_J S) (hP : ∀ a b : Int32, tb_PI mX7_sum mX8_sum [.int a, .int b]) (k : ∀ T, tb_J T → T 0 = S 0 → ∃ Sf, tb_E 100 mL_law tb_dI 18 [.ref 0, .ref 1, .ref 45, .int (nI (i + 5))] [] tb_S T = some ((1 : Int32), Sf)) : ∃ Sf, tb_E 100 mL_law tb_dI 573 [.ref 0, .ref 1, .ref 45, .int (nI i)] [] tb_S S = some ((1 : Int32), Sf) := by
  refine Exists.imp (fun Sf h => BL_law_573 h) ?_
  obtain ⟨v, S1, S2, h1, h2, h3, h4, h5⟩ := hP (S 0 (i + 1)) (S 0 (i + 2)) S hJ
  have e1 := law_ix (S := S) (c := 1) (w := (1 : Int32)) hL h0 hi rfl (by decide)
  have e2 := law_ix (S := S) (c := 2) (w := (2 : Int32)) hL h0 hi rfl (by decide)
  simp only [e1, e2, Option.bind_some, h1, h2, h3, if_true]
  exact law_next (by omega) (k S2 h5 h4)
theorem law_odds (hL : L ≤ 2560) (h0 : S 0 2560 = nI L) (hi : i + 5 ≤ L) (hJ : tb_J S) (hP : ∀ a b : Int32, tb_PL mX7_odds mX8_odds [.int a, .int b]) (k : ∀ T, tb_J T → T 0 = S 0 → ∃ Sf, tb_E 100 mL_law tb_dI 18 [.ref 0, .ref 1, .ref 45, .int (nI (i + 5))] [] tb_S T = some ((1 : Int32), Sf)) : ∃ Sf, tb_E 100 mL_law tb_dI 606 [.ref 0, .ref 1, .ref 45, .int (nI i)] [] tb_S S = some ((1 : Int32), Sf) := by
  refine Exists.imp (fun Sf h => BL_law_606 h) ?_
  obtain ⟨v, S1, S2, h1, h2, h3, h4, h5⟩ := hP (S 0 (i + 1)) (S 0 (i + 2)) S hJ
  have e1 := law_ix (S := S) (c := 1) (w := (1 : Int32)) hL h0 hi rfl (by decide)
  have e2 := law_ix (S := S) (c := 2) (w := (2 : Int32)) hL h0 hi rfl (by decide)
  have hg : lg_cmp v v = 0 := by unfold lg_cmp; simp
  simp only [e1, e2, Option.bind_some, h1, h2, h3, hg, if_true, not_true_eq_false, if_false]
  exact law_next (by omega) (k S2 h5 h4)
theorem law_part (hL : L ≤ 2560) (h0 : S 0 2560 = nI L) (hi : i + 5 ≤ L) (hJ : tb_J S) (hP : ∀ a b c : Int32, tb_PI mX7_part mX8_part_ [.int a, .int b, .int c]) (k : ∀ T, tb_J T → T 0 = S 0 → ∃ Sf, tb_E 100 mL_law tb_dI 18 [.ref 0, .ref 1, .ref 45, .int (nI (i + 5))] [] tb_S T = some ((1 : Int32), Sf)) : ∃ Sf, tb_E 100 mL_law tb_dI 640 [.ref 0, .ref 1, .ref 45, .int (nI i)] [] tb_S S = some ((1 : Int32), Sf) := by
  refine Exists.imp (fun Sf h => BL_law_640 h) ?_
  obtain ⟨v, S1, S2, h1, h2, h3, h4, h5⟩ := hP (S 0 (i + 1)) (S 0 (i + 2)) (S 0 (i + 3)) S hJ
  have e1 := law_ix (S := S) (c := 1) (w := (1 : Int32)) hL h0 hi rfl (by decide)
  have e2 := law_ix (S := S) (c := 2) (w := (2 : Int32)) hL h0 hi rfl (by decide)
  have e3 := law_ix (S := S) (c := 3) (w := (3 : Int32)) hL h0 hi rfl (by decide)
  simp only [e1, e2, e3, Option.bind_some, h1, h2, h3, if_true]
  exact law_next (by omega) (k S2 h5 h4)
theorem law_gap (hL : L ≤ 2560) (h0 : S 0 2560 = nI L) (hi : i + 5 ≤ L) (hJ : tb_J S) (hP : ∀ a b c : Int32, tb_PI mX7_gap mX8_gap [.int a, .int b, .int c]) (k : ∀ T, tb_J T → T 0 = S 0 → ∃ Sf, tb_E 100 mL_law tb_dI 18 [.ref 0, .ref 1, .ref 45, .int (nI (i + 5))] [] tb_S T = some ((1 : Int32), Sf)) : ∃ Sf, tb_E 100 mL_law tb_dI 683 [.ref 0, .ref 1, .ref 45, .int (nI i)] [] tb_S S = some ((1 : Int32), Sf) := by
  refine Exists.imp (fun Sf h => BL_law_683 h) ?_
  obtain ⟨v, S1, S2, h1, h2, h3, h4, h5⟩ := hP (S 0 (i + 1)) (S 0 (i + 2)) (S 0 (i + 3)) S hJ
  have e1 := law_ix (S := S) (c := 1) (w := (1 : Int32)) hL h0 hi rfl (by decide)
  have e2 := law_ix (S := S) (c := 2) (w := (2 : Int32)) hL h0 hi rfl (by decide)
  have e3 := law_ix (S := S) (c := 3) (w := (3 : Int32)) hL h0 hi rfl (by decide)
  simp only [e1, e2, e3, Option.bind_some, h1, h2, h3, if_true]
  exact law_next (by omega) (k S2 h5 h4)
theorem law_diff (hL : L ≤ 2560) (h0 : S 0 2560 = nI L) (hi : i + 5 ≤ L) (hJ : tb_J S) (hP : ∀ a b c d : Int32, tb_PI mX7_diff mX8_diff [.int a, .int b, .int c, .int d]) (k : ∀ T, tb_J T → T 0 = S 0 → ∃ Sf, tb_E 100 mL_law tb_dI 18 [.ref 0, .ref 1, .ref 45, .int (nI (i + 5))] [] tb_S T = some ((1 : Int32), Sf)) : ∃ Sf, tb_E 100 mL_law tb_dI 726 [.ref 0, .ref 1, .ref 45, .int (nI i)] [] tb_S S = some ((1 : Int32), Sf) := by
  refine Exists.imp (fun Sf h => BL_law_726 h) ?_
  obtain ⟨v, S1, S2, h1, h2, h3, h4, h5⟩ := hP (S 0 (i + 1)) (S 0 (i + 2)) (S 0 (i + 3)) (S 0 (i + 4)) S hJ
  have e1 := law_ix (S := S) (c := 1) (w := (1 : Int32)) hL h0 hi rfl (by decide)
  have e2 := law_ix (S := S) (c := 2) (w := (2 : Int32)) hL h0 hi rfl (by decide)
  have e3 := law_ix (S := S) (c := 3) (w := (3 : Int32)) hL h0 hi rfl (by decide)
  have e4 := law_ix (S := S) (c := 4) (w := (4 : Int32)) hL h0 hi rfl (by decide)
  simp only [e1, e2, e3, e4, Option.bind_some, h1, h2, h3, if_true]
  exact law_next (by omega) (k S2 h5 h4)
theorem law_rule (hL : L ≤ 2560) (h0 : S 0 2560 = nI L) (hi : i + 5 ≤ L) (hJ : tb_J S) (hP : ∀ a b : Int32, tb_PI mX7_rule mX8_rule [.int a, .int b]) (k : ∀ T, tb_J T → T 0 = S 0 → ∃ Sf, tb_E 100 mL_law tb_dI 18 [.ref 0, .ref 1, .ref 45, .int (nI (i + 5))] [] tb_S T = some ((1 : Int32), Sf)) : ∃ Sf, tb_E 100 mL_law tb_dI 779 [.ref 0, .ref 1, .ref 45, .int (nI i)] [] tb_S S = some ((1 : Int32), Sf) := by
  refine Exists.imp (fun Sf h => BL_law_779 h) ?_
  obtain ⟨v, S1, S2, h1, h2, h3, h4, h5⟩ := hP (S 0 (i + 1)) (S 0 (i + 2)) S hJ
  have e1 := law_ix (S := S) (c := 1) (w := (1 : Int32)) hL h0 hi rfl (by decide)
  have e2 := law_ix (S := S) (c := 2) (w := (2 : Int32)) hL h0 hi rfl (by decide)
  simp only [e1, e2, Option.bind_some, h1, h2, h3, if_true]
  exact law_next (by omega) (k S2 h5 h4)
theorem law_idle (hL : L ≤ 2560) (h0 : S 0 2560 = nI L) (hi : i + 5 ≤ L) (hJ : tb_J S) (hP : ∀ a b : Int32, tb_PI mX7_idle mX8_idle [.int a, .int b]) (k : ∀ T, tb_J T → T 0 = S 0 → ∃ Sf, tb_E 100 mL_law tb_dI 18 [.ref 0, .ref 1, .ref 45, .int (nI (i + 5))] [] tb_S T = some ((1 : Int32), Sf)) : ∃ Sf, tb_E 100 mL_law tb_dI 812 [.ref 0, .ref 1, .ref 45, .int (nI i)] [] tb_S S = some ((1 : Int32), Sf) := by
  refine Exists.imp (fun Sf h => BL_law_812 h) ?_
  obtain ⟨v, S1, S2, h1, h2, h3, h4, h5⟩ := hP (S 0 (i + 1)) (S 0 (i + 2)) S hJ
  have e1 := law_ix (S := S) (c := 1) (w := (1 : Int32)) hL h0 hi rfl (by decide)
  have e2 := law_ix (S := S) (c := 2) (w := (2 : Int32)) hL h0 hi rfl (by decide)
  simp only [e1, e2, Option.bind_some, h1, h2, h3, if_true]
  exact law_next (by omega) (k S2 h5 h4)
theorem law_overlap (hL : L ≤ 2560) (h0 : S 0 2560 = nI L) (hi : i + 5 ≤ L) (hJ : tb_J S) (hP : ∀ a b : Int32, tb_PI mX7_overlap mX8_overlap [.int a, .int b]) (k : ∀ T, tb_J T → T 0 = S 0 → ∃ Sf, tb_E 100 mL_law tb_dI 18 [.ref 0, .ref 1, .ref 45, .int (nI (i + 5))] [] tb_S T = some ((1 : Int32), Sf)) : ∃ Sf, tb_E 100 mL_law tb_dI 845 [.ref 0, .ref 1, .ref 45, .int (nI i)] [] tb_S S = some ((1 : Int32), Sf) := by
  refine Exists.imp (fun Sf h => BL_law_845 h) ?_
  obtain ⟨v, S1, S2, h1, h2, h3, h4, h5⟩ := hP (S 0 (i + 1)) (S 0 (i + 2)) S hJ
  have e1 := law_ix (S := S) (c := 1) (w := (1 : Int32)) hL h0 hi rfl (by decide)
  have e2 := law_ix (S := S) (c := 2) (w := (2 : Int32)) hL h0 hi rfl (by decide)
  simp only [e1, e2, Option.bind_some, h1, h2, h3, if_true]
  exact law_next (by omega) (k S2 h5 h4)
theorem law_would (hL : L ≤ 2560) (h0 : S 0 2560 = nI L) (hi : i + 5 ≤ L) (hJ : tb_J S) (hP : ∀ a b c d : Int32, tb_PI mX7_would mX8_would [.int a, .int b, .int c, .int d]) (k : ∀ T, tb_J T → T 0 = S 0 → ∃ Sf, tb_E 100 mL_law tb_dI 18 [.ref 0, .ref 1, .ref 45, .int (nI (i + 5))] [] tb_S T = some ((1 : Int32), Sf)) : ∃ Sf, tb_E 100 mL_law tb_dI 878 [.ref 0, .ref 1, .ref 45, .int (nI i)] [] tb_S S = some ((1 : Int32), Sf) := by
  refine Exists.imp (fun Sf h => BL_law_878 h) ?_
  obtain ⟨v, S1, S2, h1, h2, h3, h4, h5⟩ := hP (S 0 (i + 1)) (S 0 (i + 2)) (S 0 (i + 3)) (S 0 (i + 4)) S hJ
  have e1 := law_ix (S := S) (c := 1) (w := (1 : Int32)) hL h0 hi rfl (by decide)
  have e2 := law_ix (S := S) (c := 2) (w := (2 : Int32)) hL h0 hi rfl (by decide)
  have e3 := law_ix (S := S) (c := 3) (w := (3 : Int32)) hL h0 hi rfl (by decide)
  have e4 := law_ix (S := S) (c := 4) (w := (4 : Int32)) hL h0 hi rfl (by decide)
  simp only [e1, e2, e3, e4, Option.bind_some, h1, h2, h3, if_true]
  exact law_next (by omega) (k S2 h5 h4)
theorem law_paid (hL : L ≤ 2560) (h0 : S 0 2560 = nI L) (hi : i + 5 ≤ L) (hJ : tb_J S) (hP : ∀ a b : Int32, tb_PI mX7_paid mX8_paid [.int a, .int b]) (k : ∀ T, tb_J T → T 0 = S 0 → ∃ Sf, tb_E 100 mL_law tb_dI 18 [.ref 0, .ref 1, .ref 45, .int (nI (i + 5))] [] tb_S T = some ((1 : Int32), Sf)) : ∃ Sf, tb_E 100 mL_law tb_dI 931 [.ref 0, .ref 1, .ref 45, .int (nI i)] [] tb_S S = some ((1 : Int32), Sf) := by
  refine Exists.imp (fun Sf h => BL_law_931 h) ?_
  obtain ⟨v, S1, S2, h1, h2, h3, h4, h5⟩ := hP (S 0 (i + 1)) (S 0 (i + 2)) S hJ
  have e1 := law_ix (S := S) (c := 1) (w := (1 : Int32)) hL h0 hi rfl (by decide)
  have e2 := law_ix (S := S) (c := 2) (w := (2 : Int32)) hL h0 hi rfl (by decide)
  simp only [e1, e2, Option.bind_some, h1, h2, h3, if_true]
  exact law_next (by omega) (k S2 h5 h4)
theorem law_fits (hL : L ≤ 2560) (h0 : S 0 2560 = nI L) (hi : i + 5 ≤ L) (hJ : tb_J S) (hP : ∀ a b c : Int32, tb_PI mX7_fits mX8_fits [.int a, .int b, .int c]) (k : ∀ T, tb_J T → T 0 = S 0 → ∃ Sf, tb_E 100 mL_law tb_dI 18 [.ref 0, .ref 1, .ref 45, .int (nI (i + 5))] [] tb_S T = some ((1 : Int32), Sf)) : ∃ Sf, tb_E 100 mL_law tb_dI 964 [.ref 0, .ref 1, .ref 45, .int (nI i)] [] tb_S S = some ((1 : Int32), Sf) := by
  refine Exists.imp (fun Sf h => BL_law_964 h) ?_
  obtain ⟨v, S1, S2, h1, h2, h3, h4, h5⟩ := hP (S 0 (i + 1)) (S 0 (i + 2)) (S 0 (i + 3)) S hJ
  have e1 := law_ix (S := S) (c := 1) (w := (1 : Int32)) hL h0 hi rfl (by decide)
  have e2 := law_ix (S := S) (c := 2) (w := (2 : Int32)) hL h0 hi rfl (by decide)
  have e3 := law_ix (S := S) (c := 3) (w := (3 : Int32)) hL h0 hi rfl (by decide)
  simp only [e1, e2, e3, Option.bind_some, h1, h2, h3, if_true]
  exact law_next (by omega) (k S2 h5 h4)
theorem law_till (hL : L ≤ 2560) (h0 : S 0 2560 = nI L) (hi : i + 5 ≤ L) (hJ : tb_J S) (hP : ∀ a b c d : Int32, tb_PI mX7_till mX8_till [.int a, .int b, .int c, .int d]) (k : ∀ T, tb_J T → T 0 = S 0 → ∃ Sf, tb_E 100 mL_law tb_dI 18 [.ref 0, .ref 1, .ref 45, .int (nI (i + 5))] [] tb_S T = some ((1 : Int32), Sf)) : ∃ Sf, tb_E 100 mL_law tb_dI 1007 [.ref 0, .ref 1, .ref 45, .int (nI i)] [] tb_S S = some ((1 : Int32), Sf) := by
  refine Exists.imp (fun Sf h => BL_law_1007 h) ?_
  obtain ⟨v, S1, S2, h1, h2, h3, h4, h5⟩ := hP (S 0 (i + 1)) (S 0 (i + 2)) (S 0 (i + 3)) (S 0 (i + 4)) S hJ
  have e1 := law_ix (S := S) (c := 1) (w := (1 : Int32)) hL h0 hi rfl (by decide)
  have e2 := law_ix (S := S) (c := 2) (w := (2 : Int32)) hL h0 hi rfl (by decide)
  have e3 := law_ix (S := S) (c := 3) (w := (3 : Int32)) hL h0 hi rfl (by decide)
  have e4 := law_ix (S := S) (c := 4) (w := (4 : Int32)) hL h0 hi rfl (by decide)
  simp only [e1, e2, e3, e4, Option.bind_some, h1, h2, h3, if_true]
  exact law_next (by omega) (k S2 h5 h4)
theorem law_rack (hL : L ≤ 2560) (h0 : S 0 2560 = nI L) (hi : i + 5 ≤ L) (hJ : tb_J S) (hP : ∀ a b : Int32, tb_PI mX7_rack mX8_rack [.int a, .int b]) (k : ∀ T, tb_J T → T 0 = S 0 → ∃ Sf, tb_E 100 mL_law tb_dI 18 [.ref 0, .ref 1, .ref 45, .int (nI (i + 5))] [] tb_S T = some ((1 : Int32), Sf)) : ∃ Sf, tb_E 100 mL_law tb_dI 1060 [.ref 0, .ref 1, .ref 45, .int (nI i)] [] tb_S S = some ((1 : Int32), Sf) := by
  refine Exists.imp (fun Sf h => BL_law_1060 h) ?_
  obtain ⟨v, S1, S2, h1, h2, h3, h4, h5⟩ := hP (S 0 (i + 1)) (S 0 (i + 2)) S hJ
  have e1 := law_ix (S := S) (c := 1) (w := (1 : Int32)) hL h0 hi rfl (by decide)
  have e2 := law_ix (S := S) (c := 2) (w := (2 : Int32)) hL h0 hi rfl (by decide)
  simp only [e1, e2, Option.bind_some, h1, h2, h3, if_true]
  exact law_next (by omega) (k S2 h5 h4)
theorem law_put (hL : L ≤ 2560) (h0 : S 0 2560 = nI L) (hi : i + 5 ≤ L) (hJ : tb_J S) (hP : ∀ a b c : Int32, tb_PI mX7_put mX8_put [.int a, .int b, .int c]) (k : ∀ T, tb_J T → T 0 = S 0 → ∃ Sf, tb_E 100 mL_law tb_dI 18 [.ref 0, .ref 1, .ref 45, .int (nI (i + 5))] [] tb_S T = some ((1 : Int32), Sf)) : ∃ Sf, tb_E 100 mL_law tb_dI 1093 [.ref 0, .ref 1, .ref 45, .int (nI i)] [] tb_S S = some ((1 : Int32), Sf) := by
  refine Exists.imp (fun Sf h => BL_law_1093 h) ?_
  obtain ⟨v, S1, S2, h1, h2, h3, h4, h5⟩ := hP (S 0 (i + 1)) (S 0 (i + 2)) (S 0 (i + 3)) S hJ
  have e1 := law_ix (S := S) (c := 1) (w := (1 : Int32)) hL h0 hi rfl (by decide)
  have e2 := law_ix (S := S) (c := 2) (w := (2 : Int32)) hL h0 hi rfl (by decide)
  have e3 := law_ix (S := S) (c := 3) (w := (3 : Int32)) hL h0 hi rfl (by decide)
  simp only [e1, e2, e3, Option.bind_some, h1, h2, h3, if_true]
  exact law_next (by omega) (k S2 h5 h4)
theorem law_get (hL : L ≤ 2560) (h0 : S 0 2560 = nI L) (hi : i + 5 ≤ L) (hJ : tb_J S) (hP : ∀ a b : Int32, tb_PL mX7_get mX8_get [.int a, .int b]) (k : ∀ T, tb_J T → T 0 = S 0 → ∃ Sf, tb_E 100 mL_law tb_dI 18 [.ref 0, .ref 1, .ref 45, .int (nI (i + 5))] [] tb_S T = some ((1 : Int32), Sf)) : ∃ Sf, tb_E 100 mL_law tb_dI 1136 [.ref 0, .ref 1, .ref 45, .int (nI i)] [] tb_S S = some ((1 : Int32), Sf) := by
  refine Exists.imp (fun Sf h => BL_law_1136 h) ?_
  obtain ⟨v, S1, S2, h1, h2, h3, h4, h5⟩ := hP (S 0 (i + 1)) (S 0 (i + 2)) S hJ
  have e1 := law_ix (S := S) (c := 1) (w := (1 : Int32)) hL h0 hi rfl (by decide)
  have e2 := law_ix (S := S) (c := 2) (w := (2 : Int32)) hL h0 hi rfl (by decide)
  have hg : lg_cmp v v = 0 := by unfold lg_cmp; simp
  simp only [e1, e2, Option.bind_some, h1, h2, h3, hg, if_true, not_true_eq_false, if_false]
  exact law_next (by omega) (k S2 h5 h4)
theorem law_lay (hL : L ≤ 2560) (h0 : S 0 2560 = nI L) (hi : i + 5 ≤ L) (hJ : tb_J S) (hP : ∀ a b c : Int32, tb_PI mX7_lay mX8_lay [.int a, .int b, .int c]) (k : ∀ T, tb_J T → T 0 = S 0 → ∃ Sf, tb_E 100 mL_law tb_dI 18 [.ref 0, .ref 1, .ref 45, .int (nI (i + 5))] [] tb_S T = some ((1 : Int32), Sf)) : ∃ Sf, tb_E 100 mL_law tb_dI 1170 [.ref 0, .ref 1, .ref 45, .int (nI i)] [] tb_S S = some ((1 : Int32), Sf) := by
  refine Exists.imp (fun Sf h => BL_law_1170 h) ?_
  obtain ⟨v, S1, S2, h1, h2, h3, h4, h5⟩ := hP (S 0 (i + 1)) (S 0 (i + 2)) (S 0 (i + 3)) S hJ
  have e1 := law_ix (S := S) (c := 1) (w := (1 : Int32)) hL h0 hi rfl (by decide)
  have e2 := law_ix (S := S) (c := 2) (w := (2 : Int32)) hL h0 hi rfl (by decide)
  have e3 := law_ix (S := S) (c := 3) (w := (3 : Int32)) hL h0 hi rfl (by decide)
  simp only [e1, e2, e3, Option.bind_some, h1, h2, h3, if_true]
  exact law_next (by omega) (k S2 h5 h4)
theorem law_judge (hL : L ≤ 2560) (h0 : S 0 2560 = nI L) (hi : i + 5 ≤ L) (hJ : tb_J S) (hP : ∀ a b : Int32, tb_PI mX7_judge mX8_judge [.int a, .int b]) (k : ∀ T, tb_J T → T 0 = S 0 → ∃ Sf, tb_E 100 mL_law tb_dI 18 [.ref 0, .ref 1, .ref 45, .int (nI (i + 5))] [] tb_S T = some ((1 : Int32), Sf)) : ∃ Sf, tb_E 100 mL_law tb_dI 1213 [.ref 0, .ref 1, .ref 45, .int (nI i)] [] tb_S S = some ((1 : Int32), Sf) := by
  refine Exists.imp (fun Sf h => BL_law_1213 h) ?_
  obtain ⟨v, S1, S2, h1, h2, h3, h4, h5⟩ := hP (S 0 (i + 1)) (S 0 (i + 2)) S hJ
  have e1 := law_ix (S := S) (c := 1) (w := (1 : Int32)) hL h0 hi rfl (by decide)
  have e2 := law_ix (S := S) (c := 2) (w := (2 : Int32)) hL h0 hi rfl (by decide)
  simp only [e1, e2, Option.bind_some, h1, h2, h3, if_true]
  exact law_next (by omega) (k S2 h5 h4)
theorem law_image (hL : L ≤ 2560) (h0 : S 0 2560 = nI L) (hi : i + 5 ≤ L) (hJ : tb_J S) (hP : tb_PI mX7_image mX8_image []) (k : ∀ T, tb_J T → T 0 = S 0 → ∃ Sf, tb_E 100 mL_law tb_dI 18 [.ref 0, .ref 1, .ref 45, .int (nI (i + 5))] [] tb_S T = some ((1 : Int32), Sf)) : ∃ Sf, tb_E 100 mL_law tb_dI 1246 [.ref 0, .ref 1, .ref 45, .int (nI i)] [] tb_S S = some ((1 : Int32), Sf) := by
  refine Exists.imp (fun Sf h => BL_law_1246 h) ?_
  obtain ⟨v, S1, S2, h1, h2, h3, h4, h5⟩ := hP  S hJ
  simp only [Option.bind_some, h1, h2, h3, if_true]
  exact law_next (by omega) (k S2 h5 h4)
theorem law_undo (hL : L ≤ 2560) (h0 : S 0 2560 = nI L) (hi : i + 5 ≤ L) (hJ : tb_J S) (hP : tb_PI mX7_undo mX8_undo []) (k : ∀ T, tb_J T → T 0 = S 0 → ∃ Sf, tb_E 100 mL_law tb_dI 18 [.ref 0, .ref 1, .ref 45, .int (nI (i + 5))] [] tb_S T = some ((1 : Int32), Sf)) : ∃ Sf, tb_E 100 mL_law tb_dI 1259 [.ref 0, .ref 1, .ref 45, .int (nI i)] [] tb_S S = some ((1 : Int32), Sf) := by
  refine Exists.imp (fun Sf h => BL_law_1259 h) ?_
  obtain ⟨v, S1, S2, h1, h2, h3, h4, h5⟩ := hP  S hJ
  simp only [Option.bind_some, h1, h2, h3, if_true]
  exact law_next (by omega) (k S2 h5 h4)
theorem law_count (hL : L ≤ 2560) (h0 : S 0 2560 = nI L) (hi : i + 5 ≤ L) (hJ : tb_J S) (hP : ∀ a : Int32, tb_PI mX7_count mX8_count [.int a]) (k : ∀ T, tb_J T → T 0 = S 0 → ∃ Sf, tb_E 100 mL_law tb_dI 18 [.ref 0, .ref 1, .ref 45, .int (nI (i + 5))] [] tb_S T = some ((1 : Int32), Sf)) : ∃ Sf, tb_E 100 mL_law tb_dI 1272 [.ref 0, .ref 1, .ref 45, .int (nI i)] [] tb_S S = some ((1 : Int32), Sf) := by
  refine Exists.imp (fun Sf h => BL_law_1272 h) ?_
  obtain ⟨v, S1, S2, h1, h2, h3, h4, h5⟩ := hP (S 0 (i + 1)) S hJ
  have e1 := law_ix (S := S) (c := 1) (w := (1 : Int32)) hL h0 hi rfl (by decide)
  simp only [e1, Option.bind_some, h1, h2, h3, if_true]
  exact law_next (by omega) (k S2 h5 h4)
theorem tb_loop (hA : tb_All) : ∀ (g i L : Nat) (S : tb_St), L ≤ 2560 → S 0 2560 = nI L → i ≤ 2570 → L < i + 5 * g → tb_J S → ∃ Sf, tb_E 100 mL_law tb_dI 18 [.ref 0, .ref 1, .ref 45, .int (nI i)] [] tb_S S = some ((1 : Int32), Sf) := by
  obtain ⟨p0, p1, p2, p3, p4, p5, p6, p7, p8, p9, p10, p11, p12, p13, p14, p15, p16, p17, p18, p19, p20, p21, p22, p23, p24, p25, p26, p27, p28, p29, p30, p31, p32, p33, p34⟩ := hA
  intro g
  induction g with
  | zero =>
    intro i L S hL h0 hi hg hJ
    refine Exists.imp (fun Sf h => BL_law_18 h) ?_
    have hc : Int32.ofNat (S 0 2560).toNatClampNeg = S 0 2560 := by rw [h0, nI_clamp (by omega)]; rfl
    have hlt : S 0 2560 - (5 : Int32) < nI i := by
      rw [h0, Int32.lt_iff_toInt_lt, Int32.toInt_sub, nI_toInt (by omega), nI_toInt (by omega), show (5 : Int32).toInt = 5 by decide +kernel, n_bm (by omega) (by omega)]
      omega
    rw [if_pos hc, if_pos hlt]
    exact ⟨S, rfl⟩
  | succ g ih =>
    intro i L S hL h0 hi hg hJ
    refine Exists.imp (fun Sf h => BL_law_18 h) ?_
    have hc : Int32.ofNat (S 0 2560).toNatClampNeg = S 0 2560 := by rw [h0, nI_clamp (by omega)]; rfl
    rw [if_pos hc]
    by_cases hlt : L < i + 5
    · have hlt : S 0 2560 - (5 : Int32) < nI i := by
        rw [h0, Int32.lt_iff_toInt_lt, Int32.toInt_sub, nI_toInt (by omega), nI_toInt (by omega), show (5 : Int32).toInt = 5 by decide +kernel, n_bm (by omega) (by omega)]
        omega
      rw [if_pos hlt]
      exact ⟨S, rfl⟩
    · have hlt' : ¬ S 0 2560 - (5 : Int32) < nI i := by
        rw [h0, Int32.lt_iff_toInt_lt, Int32.toInt_sub, nI_toInt (by omega), nI_toInt (by omega), show (5 : Int32).toInt = 5 by decide +kernel, n_bm (by omega) (by omega)]
        omega
      rw [if_neg hlt', law_ix0 hL h0 (by omega)]
      simp only [Option.bind_some]
      have hk : ∀ T, tb_J T → T 0 = S 0 → ∃ Sf, tb_E 100 mL_law tb_dI 18 [.ref 0, .ref 1, .ref 45, .int (nI (i + 5))] [] tb_S T = some ((1 : Int32), Sf) := fun T hT hT0 => ih (i + 5) L T hL (by rw [hT0]; exact h0) (by omega) (by omega) hT
      by_cases c0 : S 0 i &&& (63 : Int32) = (0 : Int32)
      · rw [if_pos c0]; exact law_flat hL h0 (by omega) hJ p0 hk
      rw [if_neg c0]
      by_cases c1 : S 0 i &&& (63 : Int32) = (1 : Int32)
      · rw [if_pos c1]; exact law_empty hL h0 (by omega) hJ p1 hk
      rw [if_neg c1]
      by_cases c2 : S 0 i &&& (63 : Int32) = (2 : Int32)
      · rw [if_pos c2]; exact law_when hL h0 (by omega) hJ p2 hk
      rw [if_neg c2]
      by_cases c3 : S 0 i &&& (63 : Int32) = (3 : Int32)
      · rw [if_pos c3]; exact law_cap hL h0 (by omega) hJ p3 hk
      rw [if_neg c3]
      by_cases c4 : S 0 i &&& (63 : Int32) = (4 : Int32)
      · rw [if_pos c4]; exact law_two hL h0 (by omega) hJ p4 hk
      rw [if_neg c4]
      by_cases c5 : S 0 i &&& (63 : Int32) = (5 : Int32)
      · rw [if_pos c5]; exact law_drop hL h0 (by omega) hJ p5 hk
      rw [if_neg c5]
      by_cases c6 : S 0 i &&& (63 : Int32) = (6 : Int32)
      · rw [if_pos c6]; exact law_feed hL h0 (by omega) hJ p6 hk
      rw [if_neg c6]
      by_cases c7 : S 0 i &&& (63 : Int32) = (7 : Int32)
      · rw [if_pos c7]; exact law_clear hL h0 (by omega) hJ p7 hk
      rw [if_neg c7]
      by_cases c8 : S 0 i &&& (63 : Int32) = (8 : Int32)
      · rw [if_pos c8]; exact law_read hL h0 (by omega) hJ p8 hk
      rw [if_neg c8]
      by_cases c9 : S 0 i &&& (63 : Int32) = (9 : Int32)
      · rw [if_pos c9]; exact law_way hL h0 (by omega) hJ p9 hk
      rw [if_neg c9]
      by_cases c10 : S 0 i &&& (63 : Int32) = (10 : Int32)
      · rw [if_pos c10]; exact law_of hL h0 (by omega) hJ p10 hk
      rw [if_neg c10]
      by_cases c11 : S 0 i &&& (63 : Int32) = (11 : Int32)
      · rw [if_pos c11]; exact law_taken hL h0 (by omega) hJ p11 hk
      rw [if_neg c11]
      by_cases c12 : S 0 i &&& (63 : Int32) = (12 : Int32)
      · rw [if_pos c12]; exact law_spell hL h0 (by omega) hJ p12 hk
      rw [if_neg c12]
      by_cases c13 : S 0 i &&& (63 : Int32) = (13 : Int32)
      · rw [if_pos c13]; exact law_paper hL h0 (by omega) hJ p13 hk
      rw [if_neg c13]
      by_cases c14 : S 0 i &&& (63 : Int32) = (14 : Int32)
      · rw [if_pos c14]; exact law_says hL h0 (by omega) hJ p14 hk
      rw [if_neg c14]
      by_cases c15 : S 0 i &&& (63 : Int32) = (15 : Int32)
      · rw [if_pos c15]; exact law_sum hL h0 (by omega) hJ p15 hk
      rw [if_neg c15]
      by_cases c16 : S 0 i &&& (63 : Int32) = (16 : Int32)
      · rw [if_pos c16]; exact law_odds hL h0 (by omega) hJ p16 hk
      rw [if_neg c16]
      by_cases c17 : S 0 i &&& (63 : Int32) = (17 : Int32)
      · rw [if_pos c17]; exact law_part hL h0 (by omega) hJ p17 hk
      rw [if_neg c17]
      by_cases c18 : S 0 i &&& (63 : Int32) = (18 : Int32)
      · rw [if_pos c18]; exact law_gap hL h0 (by omega) hJ p18 hk
      rw [if_neg c18]
      by_cases c19 : S 0 i &&& (63 : Int32) = (19 : Int32)
      · rw [if_pos c19]; exact law_diff hL h0 (by omega) hJ p19 hk
      rw [if_neg c19]
      by_cases c20 : S 0 i &&& (63 : Int32) = (20 : Int32)
      · rw [if_pos c20]; exact law_rule hL h0 (by omega) hJ p20 hk
      rw [if_neg c20]
      by_cases c21 : S 0 i &&& (63 : Int32) = (21 : Int32)
      · rw [if_pos c21]; exact law_idle hL h0 (by omega) hJ p21 hk
      rw [if_neg c21]
      by_cases c22 : S 0 i &&& (63 : Int32) = (22 : Int32)
      · rw [if_pos c22]; exact law_overlap hL h0 (by omega) hJ p22 hk
      rw [if_neg c22]
      by_cases c23 : S 0 i &&& (63 : Int32) = (23 : Int32)
      · rw [if_pos c23]; exact law_would hL h0 (by omega) hJ p23 hk
      rw [if_neg c23]
      by_cases c24 : S 0 i &&& (63 : Int32) = (24 : Int32)
      · rw [if_pos c24]; exact law_paid hL h0 (by omega) hJ p24 hk
      rw [if_neg c24]
      by_cases c25 : S 0 i &&& (63 : Int32) = (25 : Int32)
      · rw [if_pos c25]; exact law_fits hL h0 (by omega) hJ p25 hk
      rw [if_neg c25]
      by_cases c26 : S 0 i &&& (63 : Int32) = (26 : Int32)
      · rw [if_pos c26]; exact law_till hL h0 (by omega) hJ p26 hk
      rw [if_neg c26]
      by_cases c27 : S 0 i &&& (63 : Int32) = (27 : Int32)
      · rw [if_pos c27]; exact law_rack hL h0 (by omega) hJ p27 hk
      rw [if_neg c27]
      by_cases c28 : S 0 i &&& (63 : Int32) = (28 : Int32)
      · rw [if_pos c28]; exact law_put hL h0 (by omega) hJ p28 hk
      rw [if_neg c28]
      by_cases c29 : S 0 i &&& (63 : Int32) = (29 : Int32)
      · rw [if_pos c29]; exact law_get hL h0 (by omega) hJ p29 hk
      rw [if_neg c29]
      by_cases c30 : S 0 i &&& (63 : Int32) = (30 : Int32)
      · rw [if_pos c30]; exact law_lay hL h0 (by omega) hJ p30 hk
      rw [if_neg c30]
      by_cases c31 : S 0 i &&& (63 : Int32) = (31 : Int32)
      · rw [if_pos c31]; exact law_judge hL h0 (by omega) hJ p31 hk
      rw [if_neg c31]
      by_cases c32 : S 0 i &&& (63 : Int32) = (32 : Int32)
      · rw [if_pos c32]; exact law_image hL h0 (by omega) hJ p32 hk
      rw [if_neg c32]
      by_cases c33 : S 0 i &&& (63 : Int32) = (33 : Int32)
      · rw [if_pos c33]; exact law_undo hL h0 (by omega) hJ p33 hk
      rw [if_neg c33]
      by_cases c34 : S 0 i &&& (63 : Int32) = (34 : Int32)
      · rw [if_pos c34]; exact law_count hL h0 (by omega) hJ p34 hk
      rw [if_neg c34]
      exact law_next (by omega) (hk S hJ rfl)
end LawLoop
theorem tb_J0 (L : Nat) (xs : Nat → Int32) : tb_J (tb_up (tb_up (tb_up (tb_up (tb_up (tb_up (tb_up (tb_up (tb_up (tb_G L xs) 24 5 (-1 : Int32)) 24 6 (-1 : Int32)) 24 7 (-5 : Int32)) 32 7 (-1 : Int32)) 44 0 (-1 : Int32)) 44 1 (-1 : Int32)) 44 2 (-1 : Int32)) 44 3 (-1 : Int32)) 45 19 (-1 : Int32)) := by
  refine ⟨⟨0, by decide, rfl, rfl, fun t h => by omega⟩, Or.inl ⟨rfl, rfl⟩, ⟨0, by decide, rfl, rfl, fun t h => by omega⟩, ⟨0, by decide, rfl, rfl, fun t h => by omega⟩, ⟨0, by decide, rfl, rfl, fun t h => by omega⟩, ⟨0, by decide, rfl, rfl, fun t h => by omega⟩, fun q hq => Or.inl ?_, rfl⟩
  obtain rfl | rfl | rfl | rfl : q = 0 ∨ q = 1 ∨ q = 2 ∨ q = 3 := by omega
  · exact ⟨rfl, rfl⟩
  · exact ⟨rfl, rfl⟩
  · exact ⟨rfl, rfl⟩
  · exact ⟨rfl, rfl⟩
theorem tb_owed_of (hA : tb_All) : tb_Owed := by
  intro L xs hL
  obtain ⟨Sf, h⟩ := tb_loop hA 520 0 L _ hL (by rfl) (by omega) (by omega) (tb_J0 L xs)
  have hz : nI 0 = (0 : Int32) := rfl
  rw [hz, ← tb_Hfin] at h
  have h2 := K_law (d := 98) (dec := tb_dI) h
  obtain ⟨q, g1, g2⟩ := Option.bind_eq_some_iff.mp h2
  have g3 := tb_dI_inv g2
  subst g3
  exact ⟨_, g1, by show tb_S.length ≤ 600001; decide +kernel, by show (tb_S.map tb_sz1).sum ≤ 7302250; decide +kernel⟩
