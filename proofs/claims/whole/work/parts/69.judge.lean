/-! Part 69: pair: judge -/
theorem p_judge : ∀ a b : Int32, tb_PI mX7_judge mX8_judge [.int a, .int b] := by
  intro a b
  refine tb_PI_ask (fun S hJ => ?_)
  obtain ⟨n, hT⟩ := hJ.1
  have hn := hT.1
  have hT' : jTS n S := hT
  have hj := hJ.2.2.2.2.2.2.2
  rcases rack_or a with ⟨q, hq, rfl⟩ | ⟨hx1, hx2⟩
  · rcases term_or (n := n) (by omega) b with ⟨t, ht, rfl⟩ | hy
    · have rR : ∀ T, tb_Kp S T → T 45 0 = nI n := fun T hk => by rw [hk.f 0 rfl]; exact hT.2.2.1
      have i4 : tb_ix (nI q) 4 = some q := n_ix hq (by omega)
      rcases hJ.2.2.2.2.2.2.1 q hq with ⟨l1, l2⟩ | ⟨m, hm, l1, l2, hX⟩
      · refine ⟨-11, ⟨S, MX7_judge ?_, tb_Kp.refl⟩, fun T hJT hk => ⟨T, MX8_judge ?_, tb_Kp.refl⟩⟩
        · rw [c_rhas, b2_t (rack_in hq).1]
          simp only [Option.bind_some, one0, if_false]
          rw [c_hasY hn hT.2.1 ht]
          simp only [Option.bind_some, one0, not_false_eq_true, if_true]
          rw [c_holds hq, b2_f (fun z => z l1)]
          simp only [Option.bind_some, not_true_eq_false, if_false]
        · rw [r_isRack, b2_t (rack_in hq).2]
          simp only [Option.bind_some, one0, if_false]
          rw [r_termY hn (rR T hk) ht]
          simp only [Option.bind_some, one0, not_false_eq_true, if_true, i4]
          rw [hk.p 64 rfl, l2]
          simp only [not_true_eq_false, if_false]
      · have hfl := c_flaw (d := 94) hq l1 hm
        have hn1 : ¬ S 44 q = -1 := by rw [l1]; exact neg1 (by omega)
        have hsub : nI (m + 1) - (1 : Int32) = nI m := nI_pred m
        have hne : ¬ nI (m + 1) = 0 := by rw [n_0 (by omega)]; omega
        have cfront : ∀ r, ((if flV (S (40 + q)) m 0 = -1 then (tb_cV 99 mX6_unfold [.ref 24, .int (nI t)] S).bind fun q59 => tb_E 99 mX7_judge tb_dI 65 [.ref 1, .int (nI q), .int (nI t), .int (flV (S (40 + q)) m 0), .int 0] [] tb_S q59 else some (flV (S (40 + q)) m 0, S)) = some r) → tb_cI 100 mX7_judge [.ref 1, .int (nI q), .int (nI t)] S = some r := by
          intro r hr
          refine MX7_judge ?_
          rw [c_rhas, b2_t (rack_in hq).1]
          simp only [Option.bind_some, one0, if_false]
          rw [c_hasY hn hT.2.1 ht]
          simp only [Option.bind_some, one0, not_false_eq_true, if_true]
          rw [c_holds hq, b2_t hn1]
          simp only [Option.bind_some, one0, not_false_eq_true, if_true]
          rw [hfl]
          simp only [Option.bind_some]
          exact hr
        have rfront : ∀ T r, tb_Kp S T → (∀ w5 w6 w7 : Value, tb_E 99 mX8_judge tb_dI 41 [.ref 45, .int (nI q), .int (nI t), .int (nI m), .int 0, w5, w6, w7] [] tb_S T = some r) → tb_cI 100 mX8_judge [.ref 45, .int (nI q), .int (nI t)] T = some r := by
          intro T r hk hr
          refine MX8_judge ?_
          rw [r_isRack, b2_t (rack_in hq).2]
          simp only [Option.bind_some, one0, if_false]
          rw [r_termY hn (rR T hk) ht]
          simp only [Option.bind_some, one0, not_false_eq_true, if_true, i4]
          rw [hk.p 64 rfl, l2, if_pos hne, hsub]
          exact hr _ _ _
        have hXT : ∀ T, tb_Kp S T → ∀ k, k < m → T 65 (70 * q + k) = S (40 + q) k := fun T hk k h => by rw [hk.p 65 rfl]; exact hX k h
        by_cases e : flV (S (40 + q)) m 0 = -1
        · obtain ⟨f1, f2⟩ := fl_ok m 0 (by omega) e
          rw [Nat.zero_add] at f1 f2
          obtain ⟨p, hp⟩ : ∃ p, m = 7 * p := ⟨m / 7, by omega⟩
          refine ⟨jcV (fun c => jaV (S (40 + q)) c p 0) (sayV S t) 224 0, ?_, fun T hJT hk => ?_⟩
          · obtain ⟨S', h1, h2, h3, h4⟩ := c_open (d := 95) hT' ht
            obtain ⟨W, w1, w2⟩ := c_judgeL (d := 93) (w2 := .int (nI t)) (w3 := .int (flV (S (40 + q)) m 0)) hT' ht hq l1 hm hp 224 0 S' rfl h2 h3 (fun q q1 q2 q3 q4 => h4 q q1 q2 q3)
            refine ⟨W, cfront _ ?_, kp_of w2⟩
            rw [if_pos e, h1]
            exact w1
          · obtain ⟨W, w1, w2⟩ := r_judgeL (d := 72) hT' ht hj hq hm hp hX (fun j hj => f2 j (by omega) hj) 224 0 (tb_up T 45 17 (-1)) rfl (hk.trans (s_kp45 rfl)) (by rw [up_rd, if_pos ⟨rfl, rfl⟩])
            refine ⟨W, rfront T _ hk ?_, (s_kp45 (j := 17) (v := -1) rfl).trans w2⟩
            exact (r_flawL (d := 97) hq hm (hXT T hk) m 0 (by omega)).1 e _ w1
        · refine ⟨flV (S (40 + q)) m 0, ⟨S, cfront _ (by rw [if_neg e]), tb_Kp.refl⟩, fun T hJT hk => ⟨T, rfront T _ hk ?_, tb_Kp.refl⟩⟩
          exact (r_flawL (d := 97) hq hm (hXT T hk) m 0 (by omega)).2 e
    · refine ⟨-1, ⟨S, MX7_judge ?_, tb_Kp.refl⟩, fun T hJT hk => ⟨T, MX8_judge ?_, tb_Kp.refl⟩⟩
      · rw [c_rhas, b2_t (rack_in hq).1]
        simp only [Option.bind_some, one0, if_false]
        rw [c_hasN hT.2.1 hy]
        simp only [Option.bind_some, not_true_eq_false, if_false]
      · rw [r_isRack, b2_t (rack_in hq).2]
        simp only [Option.bind_some, one0, if_false]
        rw [r_termN hn (by rw [hk.f 0 rfl]; exact hT.2.2.1) hy]
        simp only [Option.bind_some, not_true_eq_false, if_false]
  · refine ⟨-1, ⟨S, MX7_judge ?_, tb_Kp.refl⟩, fun T hJT hk => ⟨T, MX8_judge ?_, tb_Kp.refl⟩⟩
    · rw [c_rhas, b2_f hx1]
      simp only [Option.bind_some, if_true]
    · rw [r_isRack, b2_f hx2]
      simp only [Option.bind_some, if_true]
