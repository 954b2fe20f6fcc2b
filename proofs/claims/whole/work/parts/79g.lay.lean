/-! Part 79g: pair: lay -/
def numF (L : List (Nat × Nat)) (M : Nat → Int32) (j : Nat) : Int32 := if j % 7 = 6 then M (L.getD (j / 7) (0, 0)).1 else nI (figM (L.getD (j / 7) (0, 0)).2 (j % 7))
theorem getD_some {L : List (Nat × Nat)} {k : Nat} (h : k < L.length) : L[k]? = some (L.getD k (0, 0)) := by
  rw [List.getD_eq_getElem?_getD, List.getElem?_eq_getElem h]
  rfl
section Lay
variable {d q n i : Nat} {L : List (Nat × Nat)} {M A B : Nat → Int32}
theorem c_partN {S : tb_St} {k p : Nat} {x : Nat × Nat} (hP : PKc L M S) (hl : L.length ≤ 224) (hx : L[k]? = some x) (hm : x.2 ≤ 999999) (hp : p < 7) : tb_cI (d + 2) mX7_partNumber [.ref 1, .int (nI k), .int (nI p)] S = some (if p = 6 then M x.1 else nI (figM x.2 p), S) := by
  have hk : k < L.length := (List.getElem?_eq_some_iff.mp hx).1
  refine MX7_partNumber ?_
  rw [c_hasB hP, b2_t (in_b hk hl)]
  simp only [Option.bind_some, one0, not_false_eq_true, if_true]
  by_cases e : p = 6
  · subst e
    rw [if_neg (show ¬ ¬ nI 6 = (6 : Int32) from fun z => z rfl), n_ix (show k < 224 by omega) (by omega), if_pos rfl]
    simp only [Option.bind_some]
    rw [(hP.2 k x hx).2]
  · rw [if_pos (show ¬ nI p = 6 by rw [show (6 : Int32) = nI 6 from rfl, n_eq (by omega) (by omega)]; exact e), n_ix (show k < 224 by omega) (by omega), if_neg e]
    simp only [Option.bind_some]
    rw [(hP.2 k x hx).1, c_fig (by omega) (by omega)]
    rfl
theorem c_layL {w1 : Value} (hq : q < 4) (hn : n ≤ 70) (hl : L.length ≤ 224) (hm : ∀ (k : Nat) (x : Nat × Nat), L[k]? = some x → x.2 ≤ 999999) : ∀ g k S, k + g = 7 * L.length → i + k ≤ n → PKc L M S → S 44 q = nI n →
    ∃ S', tb_E (d + 3) mX7_lay tb_dI 58 [.ref 1, w1, .int (nI q), .int (nI i), .int (nI (7 * L.length)), .int (nI k)] [] tb_S S = some (if i + 7 * L.length ≤ n then nI (7 * L.length) else -13, S') ∧ (∀ p, p ≠ 40 + q → S' p = S p) ∧ ∀ t, S' (40 + q) t = if i + k ≤ t ∧ t < n ∧ t < i + 7 * L.length then numF L M (t - i) else S (40 + q) t := by
  intro g
  induction g with
  | zero =>
    intro k S hk hi hP h44
    refine ⟨S, BX7_lay_58 ?_, fun _ _ => rfl, fun t => by rw [if_neg (by omega)]⟩
    rw [if_pos ((n_le (by omega) (by omega)).mpr (by omega)), if_pos (by omega)]
  | succ g ih =>
    intro k S hk hi hP h44
    have hkl : k / 7 < L.length := by omega
    have hx := getD_some hkl
    have hpl : nI i + nI k = nI (i + k) := n_add (by omega)
    by_cases hin : i + k < n
    · have hnum : (if k % 7 = 6 then M (L.getD (k / 7) (0, 0)).1 else nI (figM (L.getD (k / 7) (0, 0)).2 (k % 7))) = numF L M k := rfl
      have hP' : PKc L M (tb_up S (40 + q) (i + k) (numF L M k)) := by
        refine ⟨by rw [up_ne (by omega)]; exact hP.1, fun j x hj => ?_⟩
        rw [up_ne (by omega), up_ne (by omega)]
        exact hP.2 j x hj
      obtain ⟨V, v1, v2, v3⟩ := ih (k + 1) (tb_up S (40 + q) (i + k) (numF L M k)) (by omega) (by omega) hP' (by rw [up_ne (by omega)]; exact h44)
      refine ⟨V, BX7_lay_58 ?_, fun p hp => by rw [v2 p hp, up_ne hp], fun t => ?_⟩
      · rw [if_neg (n_nle (by omega) (by omega) (by omega)), hpl, c_hasPl hq, h44, b2_t (show 0 ≤ nI (i + k) ∧ nI (i + k) < nI n from ⟨n_nn (by omega), (n_lt (by omega) (by omega)).mpr hin⟩)]
        simp only [Option.bind_some, one0, not_false_eq_true, if_true]
        rw [show (7 : Int32) = nI 7 from rfl, n_div (by omega) (by omega), n_rem (by omega) (by omega), c_partN hP hl hx (hm _ _ hx) (by omega)]
        simp only [Option.bind_some]
        rw [hnum, c_store hq h44 hn hin]
        simp only [Option.bind_some, n_inc]
        exact v1
      · rw [v3 t, up_rd]
        by_cases e : t = i + k
        · rw [if_neg (by omega), if_pos ⟨rfl, e⟩, if_pos (by omega), e, Nat.add_sub_cancel_left]
        · by_cases e2 : i + k ≤ t ∧ t < n ∧ t < i + 7 * L.length
          · rw [if_pos (by omega), if_pos e2]
          · rw [if_neg (by omega), if_neg (fun z => e z.2), if_neg e2]
    · refine ⟨S, BX7_lay_58 ?_, fun _ _ => rfl, fun t => by rw [if_neg (by omega)]⟩
      rw [if_neg (n_nle (by omega) (by omega) (by omega)), hpl, c_hasPl hq, h44, b2_f (fun z => hin ((n_lt (by omega) (by omega)).mp z.2)), if_neg (by omega)]
      simp only [Option.bind_some, not_true_eq_false, if_false]
theorem r_layL {w1 : Value} (hq : q < 4) (hn : n ≤ 70) (hl : L.length ≤ 224) : ∀ g k (w5 : Value) T, k + g = 7 * L.length → i + k ≤ n → PKr L A B T → T 64 q = nI (n + 1) →
    ∃ T', tb_E d mX8_lay tb_dI 39 [.ref 45, w1, .int (nI q), .int (nI i), .int (nI k), w5] [] tb_S T = some (if i + 7 * L.length ≤ n then nI (7 * L.length) else -13, T') ∧ (∀ p, p ≠ 65 → T' p = T p) ∧ ∀ y, T' 65 y = if 70 * q + i + k ≤ y ∧ y < 70 * q + n ∧ y < 70 * q + i + 7 * L.length then numF L A (y - 70 * q - i) else T 65 y := by
  intro g
  induction g with
  | zero =>
    intro k w5 T hk hi hP h64
    refine ⟨T, BX8_lay_39 ?_, fun _ _ => rfl, fun y => by rw [if_neg (by omega)]⟩
    rw [hP.1, show (7 : Int32) = nI 7 from rfl, n_mul (by omega) (by omega) (by omega), if_pos ((n_le (by omega) (by omega)).mpr (by omega)), if_pos (by omega)]
  | succ g ih =>
    intro k w5 T hk hi hP h64
    have hkl : k / 7 < L.length := by omega
    have hx := getD_some hkl
    have hpl : nI i + nI k = nI (i + k) := n_add (by omega)
    have h7 : (7 : Int32) * T 45 14 = nI (7 * L.length) := by rw [hP.1, show (7 : Int32) = nI 7 from rfl, n_mul (by omega) (by omega) (by omega)]
    have i4 : tb_ix (nI q) 4 = some q := n_ix hq (by omega)
    by_cases hin : i + k < n
    · have hnum : T 58 (8 * (k / 7) + k % 7) = numF L A k := by
        obtain ⟨g1, g2, g3⟩ := hP.2 _ _ hx
        unfold numF
        by_cases e : k % 7 = 6
        · rw [if_pos e, e]; exact g2
        · rw [if_neg e]; exact g1 _ (by omega)
      have hP' : PKr L A B (tb_up T 65 (70 * q + (i + k)) (numF L A k)) := by
        refine ⟨by rw [up_ne (by omega)]; exact hP.1, fun j x hj => ?_⟩
        rw [up_ne (by omega)]
        exact hP.2 j x hj
      obtain ⟨V, v1, v2, v3⟩ := ih (k + 1) (.int (nI (i + k))) (tb_up T 65 (70 * q + (i + k)) (numF L A k)) (by omega) (by omega) hP' (by rw [up_ne (by omega)]; exact h64)
      refine ⟨V, BX8_lay_39 ?_, fun p hp => by rw [v2 p hp, up_ne hp], fun y => ?_⟩
      · rw [h7, if_neg (n_nle (by omega) (by omega) (by omega)), if_neg (n_nlt (by omega)), hpl, if_neg (n_nlt (by omega)), i4]
        simp only [Option.bind_some]
        rw [h64, if_pos ((n_m2 hn _).mpr ⟨n_nn (by omega), (n_lt (by omega) (by omega)).mpr hin⟩).2, show (7 : Int32) = nI 7 from rfl, n_div (by omega) (by omega), n_rem (by omega) (by omega), ix8 (by omega) (by omega)]
        simp only [Option.bind_some]
        rw [r_rix hq (by omega)]
        simp only [Option.bind_some, n_inc]
        rw [hnum]
        exact v1
      · rw [v3 y, up_rd]
        by_cases e : y = 70 * q + (i + k)
        · rw [if_neg (by omega), if_pos ⟨rfl, e⟩, if_pos (by omega), show y - 70 * q - i = k by omega]
        · by_cases e2 : 70 * q + i + k ≤ y ∧ y < 70 * q + n ∧ y < 70 * q + i + 7 * L.length
          · rw [if_pos (by omega), if_pos e2]
          · rw [if_neg (by omega), if_neg (fun z => e z.2), if_neg e2]
    · refine ⟨T, BX8_lay_39 ?_, fun _ _ => rfl, fun t => by rw [if_neg (by omega)]⟩
      rw [h7, if_neg (n_nle (by omega) (by omega) (by omega)), if_neg (n_nlt (by omega)), hpl, if_neg (n_nlt (by omega)), i4]
      simp only [Option.bind_some]
      rw [h64, if_neg (fun z => hin ((n_lt (by omega) (by omega)).mp ((n_m2 hn _).mp ⟨n_nn (by omega), z⟩).2)), if_neg (by omega)]
theorem c_layO {w1 : Value} {S : tb_St} {c : Int32} (hq : q < 4) (hl : L.length ≤ 224) (hc : ¬ (0 ≤ c ∧ c < nI n)) (h44 : S 44 q = nI n) : tb_E (d + 3) mX7_lay tb_dI 58 [.ref 1, w1, .int (nI q), .int c, .int (nI (7 * L.length)), .int (0 : Int32)] [] tb_S S = some (if L.length = 0 then 0 else -13, S) := by
  refine BX7_lay_58 ?_
  by_cases e : L.length = 0
  · rw [e, if_pos (by decide), if_pos rfl]
    rfl
  · rw [if_neg (show ¬ nI (7 * L.length) ≤ (0 : Int32) from n_nle (a := 7 * L.length) (b := 0) (by omega) (by omega) (by omega)), if_neg e, Int32.add_zero, c_hasPl hq, h44, b2_f hc]
    simp only [Option.bind_some, not_true_eq_false, if_false]
theorem r_layO {w1 w5 : Value} {T : tb_St} {c : Int32} (hq : q < 4) (hn : n ≤ 70) (hl : L.length ≤ 224) (hc : ¬ (0 ≤ c ∧ c < nI n)) (hP : PKr L A B T) (h64 : T 64 q = nI (n + 1)) : tb_E d mX8_lay tb_dI 39 [.ref 45, w1, .int (nI q), .int c, .int (0 : Int32), w5] [] tb_S T = some (if L.length = 0 then 0 else -13, T) := by
  have h7 : (7 : Int32) * T 45 14 = nI (7 * L.length) := by rw [hP.1, show (7 : Int32) = nI 7 from rfl, n_mul (by omega) (by omega) (by omega)]
  refine BX8_lay_39 ?_
  rw [h7]
  by_cases e : L.length = 0
  · rw [e, if_pos (by decide), if_pos rfl]
    rfl
  · rw [if_neg (show ¬ nI (7 * L.length) ≤ (0 : Int32) from n_nle (a := 7 * L.length) (b := 0) (by omega) (by omega) (by omega)), if_neg e]
    by_cases h0 : c < 0
    · rw [if_pos h0]
    · rw [if_neg h0, Int32.add_zero, if_neg h0, n_ix hq (by omega)]
      simp only [Option.bind_some]
      rw [h64, if_neg (fun z => hc ((n_m2 hn _).mp ⟨by grind, z⟩))]
end Lay
theorem num_cg {L : List (Nat × Nat)} {M A : Nat → Int32} {j : Nat} (hj : j < 7 * L.length) (h : ∀ (k : Nat) (x : Nat × Nat), L[k]? = some x → M x.1 = A x.1) : numF L M j = numF L A j := by
  have hx := getD_some (show j / 7 < L.length by omega)
  unfold numF
  rw [h _ _ hx]
theorem p_lay : ∀ a b c : Int32, tb_PI mX7_lay mX8_lay [.int a, .int b, .int c] := by
  intro a b c S hJ
  obtain ⟨n', hT⟩ := hJ.1
  have hn' := hT.1
  have hT' : jTS n' S := hT
  have hj := hJ.2.2.2.2.2.2.2
  rcases term_or (n := n') (by omega) a with ⟨t, ht, rfl⟩ | hx
  · rcases rack_or b with ⟨q, hq, rfl⟩ | ⟨hy1, hy2⟩
    · have i4 : tb_ix (nI q) 4 = some q := n_ix hq (by omega)
      rcases hJ.2.2.2.2.2.2.1 q hq with ⟨l1, l2⟩ | ⟨n, hn, l1, l2, hX⟩
      · refine ⟨-11, S, S, MX7_lay ?_, rfl, MX8_lay ?_, rfl, hJ⟩
        · rw [c_hasY hn' hT.2.1 ht]
          simp only [Option.bind_some, one0, if_false]
          rw [c_rhas, b2_t (rack_in hq).1]
          simp only [Option.bind_some, one0, not_false_eq_true, if_true]
          rw [c_holds hq, b2_f (fun z => z l1)]
          simp only [Option.bind_some, not_true_eq_false, if_false]
        · rw [r_termY hn' hT.2.2.1 ht]
          simp only [Option.bind_some, one0, if_false]
          rw [r_isRack, b2_t (rack_in hq).2]
          simp only [Option.bind_some, one0, not_false_eq_true, if_true, i4]
          rw [l2]
          simp only [not_true_eq_false, if_false]
      · obtain ⟨U, u1, u2, u3⟩ := c_boxFees (d := 93) hT' ht
        have hl : (pkM (feeM S t)).length ≤ 224 := pkM_len
        have hm : ∀ (k : Nat) (x : Nat × Nat), (pkM (feeM S t))[k]? = some x → x.2 ≤ 999999 := fun k x h => (pkM_mem h).2.2
        have hf : ∀ (k : Nat) (x : Nat × Nat), (pkM (feeM S t))[k]? = some x → feeM S t x.1 = sayV S t x.1 := fun k x h => fee_v (pkM_mem h).2.1
        have hn1 : ¬ S 44 q = -1 := by rw [l1]; exact neg1 (by omega)
        have U44 : U 44 q = nI n := by rw [u2 44 (by omega)]; exact l1
        have hn0 : ¬ nI (n + 1) = 0 := by rw [show (0 : Int32) = nI 0 from rfl, n_eq (by omega) (by omega)]; omega
        have h7 : (7 : Int32) * U 28 3 = nI (7 * (pkM (feeM S t)).length) := by rw [u3.1, show (7 : Int32) = nI 7 from rfl, n_mul (by omega) (by omega) (by omega)]
        have cF : ∀ r, tb_E 99 mX7_lay tb_dI 58 [.ref 1, .int (nI t), .int (nI q), .int c, .int (nI (7 * (pkM (feeM S t)).length)), .int (0 : Int32)] [] tb_S U = some r → tb_cI 100 mX7_lay [.ref 1, .int (nI t), .int (nI q), .int c] S = some r := by
          intro r hr
          refine MX7_lay ?_
          rw [c_hasY hn' hT.2.1 ht]
          simp only [Option.bind_some, one0, if_false]
          rw [c_rhas, b2_t (rack_in hq).1]
          simp only [Option.bind_some, one0, not_false_eq_true, if_true]
          rw [c_holds hq, b2_t hn1]
          simp only [Option.bind_some, one0, not_false_eq_true, if_true]
          rw [u1]
          simp only [Option.bind_some]
          rw [h7]
          exact hr
        -- the reference from any state that is alike but for the rack
        have rF : ∀ V, (∀ p, p ≠ 40 + q → p < 24 ∨ 31 < p → V p = S p) → ∃ T, (∀ r, tb_E 99 mX8_lay tb_dI 39 [.ref 45, .int (nI t), .int (nI q), .int c, .int (0 : Int32), tb_jk] [] tb_S T = some r → tb_cI 100 mX8_lay [.ref 45, .int (nI t), .int (nI q), .int c] V = some r) ∧ tb_Kp V T ∧ PKr (pkM (feeM S t)) (sayV S t) (sayV S t) T ∧ T 64 q = nI (n + 1) := by
          intro V hV
          have hTV : jTS n' V := by
            unfold jTS
            rw [hV 2 (by omega) (by omega), hV 3 (by omega) (by omega), hV 4 (by omega) (by omega), hV 5 (by omega) (by omega), hV 6 (by omega) (by omega), hV 7 (by omega) (by omega), hV 8 (by omega) (by omega), hV 9 (by omega) (by omega), hV 45 (by omega) (by omega), hV 46 (by omega) (by omega), hV 47 (by omega) (by omega), hV 48 (by omega) (by omega), hV 49 (by omega) (by omega), hV 50 (by omega) (by omega), hV 51 (by omega) (by omega), hV 52 (by omega) (by omega)]
            exact hT
          have h45 : V 45 = S 45 := hV 45 (by omega) (by omega)
          have hs : ∀ c, sayV V t c = sayV S t c := fun c => say_cg (fun p hp => hV p (by omega) (by omega))
          have hs' : sayV V t = sayV S t := funext hs
          have hfe : feeM V t = feeM S t := by
            funext c
            unfold feeM
            rw [hs]
          obtain ⟨T, t1, t2, t3⟩ := r_fees (d := 70) hTV ht (by rw [h45]; exact hj) tb_Kp.refl
          rw [hs', hfe] at t3
          refine ⟨T, fun r hr => MX8_lay ?_, t2, t3, by rw [t2.p 64 rfl, hV 64 (by omega) (by omega)]; exact l2⟩
          rw [r_termY hn' (by rw [h45]; exact hT.2.2.1) ht]
          simp only [Option.bind_some, one0, if_false]
          rw [r_isRack, b2_t (rack_in hq).2]
          simp only [Option.bind_some, one0, not_false_eq_true, if_true, i4]
          rw [hV 64 (by omega) (by omega), l2, if_pos hn0, t1]
          exact hr
        have h0in : (0 : Nat) ∈ [0, 1, 2, 3, 4, 5, 6, 7, 8, 9, 10, 11, 12, 13, 14, 15, 16, 17, 18, 19, 20, 21, 22, 23, 33, 34, 36, 37, 40, 41, 42, 43, 44, 46, 47, 48, 49, 50, 51, 52, 53, 54, 59, 61, 62, 63, 64, 65] := by decide
        rcases term_or (n := n) (by omega) c with ⟨i, hi, rfl⟩ | hc
        · obtain ⟨V, v1, v2, v3⟩ := c_layL (d := 96) (w1 := .int (nI t)) (i := i) hq hn hl hm (7 * (pkM (feeM S t)).length) 0 U (by omega) (by omega) u3 U44
          have hV : ∀ p, p ≠ 40 + q → p < 24 ∨ 31 < p → V p = S p := fun p h1 h2 => by rw [v2 p h1, u2 p h2]
          obtain ⟨T, t1, t2, t3, t4⟩ := rF V hV
          obtain ⟨W, w1, w2, w3⟩ := r_layL (d := 99) (w1 := .int (nI t)) (i := i) hq hn hl (7 * (pkM (feeM S t)).length) 0 tb_jk T (by omega) (by omega) t3 t4
          have hW : ∀ p, p ≠ 65 → p ≠ 40 + q → p ∈ [0, 1, 2, 3, 4, 5, 6, 7, 8, 9, 10, 11, 12, 13, 14, 15, 16, 17, 18, 19, 20, 21, 22, 23, 33, 34, 36, 37, 40, 41, 42, 43, 44, 46, 47, 48, 49, 50, 51, 52, 53, 54, 59, 61, 62, 63, 64, 65] → W p = S p := fun p h1 h2 h3 => by
            rw [w2 p h1, t2.1 p h3]
            refine hV p h2 ?_
            simp only [List.mem_cons, List.not_mem_nil, or_false] at h3
            omega
          have hWq : W (40 + q) = V (40 + q) := by
            rw [w2 (40 + q) (by omega)]
            refine t2.1 (40 + q) ?_
            simp only [List.mem_cons, List.not_mem_nil, or_false]
            omega
          have hTR : ∀ y, T 65 y = S 65 y := fun y => by rw [t2.p 65 rfl, hV 65 (by omega) (by omega)]
          refine ⟨_, V, W, cF _ v1, hV 0 (by omega) (by omega), t1 _ w1, hW 0 (by omega) (by omega) h0in, ?_⟩
          have hK : tb_Kp S (fun p => if p = 40 + q then S (40 + q) else if p = 65 then S 65 else W p) := by
            refine ⟨fun p hp => ?_, ?_, ?_, fun f hf => ?_⟩
            · show (if p = 40 + q then S (40 + q) else if p = 65 then S 65 else W p) = S p
              by_cases e1 : p = 40 + q
              · rw [if_pos e1, e1]
              · rw [if_neg e1]
                by_cases e2 : p = 65
                · rw [if_pos e2, e2]
                · rw [if_neg e2]; exact hW p e2 e1 hp
            · show (if 32 = 40 + q then S (40 + q) else if 32 = 65 then S 65 else W 32) 2 = S 32 2
              rw [if_neg (by omega), if_neg (by omega), w2 32 (by omega), t2.2.1, hV 32 (by omega) (by omega)]
            · show (if 32 = 40 + q then S (40 + q) else if 32 = 65 then S 65 else W 32) 4 = S 32 4
              rw [if_neg (by omega), if_neg (by omega), w2 32 (by omega), t2.2.2.1, hV 32 (by omega) (by omega)]
            · show (if 45 = 40 + q then S (40 + q) else if 45 = 65 then S 65 else W 45) f = S 45 f
              rw [if_neg (by omega), if_neg (by omega), w2 45 (by omega), t2.2.2.2 f hf, hV 45 (by omega) (by omega)]
          refine (hJ.kp hK).rack (fun p h40 h41 h42 h43 h44 h64 h65 => ?_) (fun p hp => ?_)
          · show W p = (if p = 40 + q then S (40 + q) else if p = 65 then S 65 else W p)
            rw [if_neg (by omega), if_neg h65]
          · have e44 : W 44 = S 44 := hW 44 (by omega) (by omega) (by decide)
            have e64 : W 64 = S 64 := hW 64 (by omega) (by omega) (by decide)
            rw [e44, e64]
            by_cases e : p = q
            · subst e
              refine Or.inr ⟨n, hn, l1, l2, fun k hk => ?_⟩
              show W 65 (70 * p + k) = W (40 + p) k
              rw [hWq, v3 k, w3 (70 * p + k)]
              by_cases e2 : i + 0 ≤ k ∧ k < n ∧ k < i + 7 * (pkM (feeM S t)).length
              · rw [if_pos (by omega), if_pos e2, show 70 * p + k - 70 * p - i = k - i by omega]
                exact (num_cg (by omega) hf).symm
              · rw [if_neg (by omega), if_neg e2, hTR, u2 (40 + p) (by omega)]
                exact hX k hk
            · have g0 := hJ.2.2.2.2.2.2.1 p hp
              have e40 : W (40 + p) = S (40 + p) := hW (40 + p) (by omega) (by omega) (by
                simp only [List.mem_cons, List.not_mem_nil, or_false]
                omega)
              rw [e40]
              rcases g0 with ⟨g1, g2⟩ | ⟨m, hm', g1, g2, g3⟩
              · exact Or.inl ⟨g1, g2⟩
              · refine Or.inr ⟨m, hm', g1, g2, fun k hk => ?_⟩
                show W 65 (70 * p + k) = S (40 + p) k
                rw [w3 (70 * p + k), if_neg (by omega), hTR]
                exact g3 k hk
        · have v1 := c_layO (d := 96) (w1 := .int (nI t)) hq hl hc U44
          obtain ⟨T, t1, t2, t3, t4⟩ := rF U (fun p h1 h2 => u2 p h2)
          have w1 := r_layO (d := 99) (w1 := .int (nI t)) (w5 := tb_jk) hq hn hl hc t3 t4
          exact ⟨_, U, T, cF _ v1, u2 0 (by omega), t1 _ w1, by rw [t2.p 0 rfl]; exact u2 0 (by omega), (hJ.kp (kp_of8 u2)).kp t2⟩
    · refine ⟨-1, S, S, MX7_lay ?_, rfl, MX8_lay ?_, rfl, hJ⟩
      · rw [c_hasY hn' hT.2.1 ht]
        simp only [Option.bind_some, one0, if_false]
        rw [c_rhas, b2_f hy1]
        simp only [Option.bind_some, not_true_eq_false, if_false]
      · rw [r_termY hn' hT.2.2.1 ht]
        simp only [Option.bind_some, one0, if_false]
        rw [r_isRack, b2_f hy2]
        simp only [Option.bind_some, not_true_eq_false, if_false]
  · refine ⟨-1, S, S, MX7_lay ?_, rfl, MX8_lay ?_, rfl, hJ⟩
    · rw [c_hasN hT.2.1 hx]
      simp only [Option.bind_some, if_true]
    · rw [r_termN hn' hT.2.2.1 hx]
      simp only [Option.bind_some, if_true]
