/-! Part 66: pair: overlap -/
theorem box_or {K F B O T Z : Nat → Int32} {t : Nat} (w : wfT K F B O T Z t) : B t = -5 ∨ boxOK (B t) := by
  rcases w with w | w | w | w | w
  · exact Or.inl w.2.2.1
  · exact Or.inl w.2.2.1
  · exact Or.inr w.2.2.1
  · exact Or.inr w.2.2.1
  · exact Or.inl w.2.2.1
theorem side_le {m l k : Nat} : sideN m l k ≤ 10 := by
  unfold sideN
  have := fig_lt m (k + 1)
  omega
theorem p_overlap : ∀ a b : Int32, tb_PI mX7_overlap mX8_overlap [.int a, .int b] := by
  intro a b
  refine tb_PI_ask (fun S hJ => ?_)
  obtain ⟨n, hT⟩ := hJ.1
  have hn := hT.1
  have hT' : jTS n S := hT
  rcases term_or (n := n) (by omega) a with ⟨t, ht, rfl⟩ | hx
  · rcases term_or (n := n) (by omega) b with ⟨u, hu, rfl⟩ | hy
    · have c1 := fun d => c_hasY (d := d) hn hT.2.1 ht
      have c2 := fun d => c_hasY (d := d) hn hT.2.1 hu
      have i1 : tb_ix (nI t) 24 = some t := n_ix (by omega) (by omega)
      have i2 : tb_ix (nI u) 24 = some u := n_ix (by omega) (by omega)
      have j1 : tb_ix (nI t) 96 = some t := n_ix (by omega) (by omega)
      have j2 : tb_ix (nI u) 96 = some u := n_ix (by omega) (by omega)
      rcases box_or (jts_w hT' t ht) with e1 | e1
      · refine ⟨-5, ⟨S, MX7_overlap ?_, tb_Kp.refl⟩, fun T hJT hk => ⟨T, MX8_overlap ?_, tb_Kp.refl⟩⟩
        · rw [c1]
          simp only [Option.bind_some, one0, if_false]
          rw [c2]
          simp only [Option.bind_some, one0, not_false_eq_true, if_true, i1, i2]
          rw [if_pos e1]
        · have e0 : T 45 0 = nI n := by rw [hk.f 0 rfl]; exact hT.2.2.1
          rw [r_termY hn e0 ht]
          simp only [Option.bind_some, one0, if_false]
          rw [r_termY hn e0 hu]
          simp only [Option.bind_some, one0, not_false_eq_true, if_true, j1]
          rw [hk.p 50 rfl, (hT.2.2.2 t ht).1.2.2.2.2.1, if_pos e1]
      obtain ⟨m, hm, em, bm⟩ := box_num e1
      have n1 : ¬ S 5 t = -5 := by rw [em]; exact n5n m (by omega)
      rcases box_or (jts_w hT' u hu) with e2 | e2
      · refine ⟨-5, ⟨S, MX7_overlap ?_, tb_Kp.refl⟩, fun T hJT hk => ⟨T, MX8_overlap ?_, tb_Kp.refl⟩⟩
        · rw [c1]
          simp only [Option.bind_some, one0, if_false]
          rw [c2]
          simp only [Option.bind_some, one0, not_false_eq_true, if_true, i1, i2]
          rw [if_neg n1, if_neg (fun z => z e2)]
        · have e0 : T 45 0 = nI n := by rw [hk.f 0 rfl]; exact hT.2.2.1
          rw [r_termY hn e0 ht]
          simp only [Option.bind_some, one0, if_false]
          rw [r_termY hn e0 hu]
          simp only [Option.bind_some, one0, not_false_eq_true, if_true, j1, j2]
          rw [hk.p 50 rfl, (hT.2.2.2 t ht).1.2.2.2.2.1, if_neg n1, (hT.2.2.2 u hu).1.2.2.2.2.1, if_neg (fun z => z e2)]
      obtain ⟨l, hl, el, bl⟩ := box_num e2
      have n2 : ¬ S 5 u = -5 := by rw [el]; exact n5n l (by omega)
      have s0 := side_le (m := m) (l := l) (k := 0)
      have s2 := side_le (m := m) (l := l) (k := 2)
      have s4 := side_le (m := m) (l := l) (k := 4)
      have p1 : sideN m l 0 * sideN m l 2 ≤ 10 * 10 := Nat.mul_le_mul s0 s2
      have p2 : sideN m l 0 * sideN m l 2 * sideN m l 4 ≤ 10 * 10 * 10 := Nat.mul_le_mul p1 s4
      refine ⟨nI (sideN m l 0 * sideN m l 2 * sideN m l 4), ⟨S, MX7_overlap ?_, tb_Kp.refl⟩, fun T hJT hk => ⟨T, MX8_overlap ?_, tb_Kp.refl⟩⟩
      · rw [c1]
        simp only [Option.bind_some, one0, if_false]
        rw [c2]
        simp only [Option.bind_some, one0, not_false_eq_true, if_true, i1, i2]
        rw [if_neg n1, if_pos n2, em, el]
        have q0 := c_side (d := 97) (S := S) hm hl (k := 0) (by omega)
        have q2 := c_side (d := 97) (S := S) hm hl (k := 2) (by omega)
        have q4 := c_side (d := 97) (S := S) hm hl (k := 4) (by omega)
        rw [show nI 0 = 0 from rfl] at q0
        rw [show nI 2 = 2 from rfl] at q2
        rw [show nI 4 = 4 from rfl] at q4
        rw [q0]
        simp only [Option.bind_some]
        rw [q2]
        simp only [Option.bind_some]
        rw [q4]
        simp only [Option.bind_some]
        rw [n_mul (by omega) (by omega) (by omega), n_mul (by omega) (by omega) (by omega)]
      · have e0 : T 45 0 = nI n := by rw [hk.f 0 rfl]; exact hT.2.2.1
        rw [r_termY hn e0 ht]
        simp only [Option.bind_some, one0, if_false]
        rw [r_termY hn e0 hu]
        simp only [Option.bind_some, one0, not_false_eq_true, if_true, j1, j2]
        rw [hk.p 50 rfl, (hT.2.2.2 t ht).1.2.2.2.2.1, if_neg n1, (hT.2.2.2 u hu).1.2.2.2.2.1, if_pos n2]
        have hp : ∀ q, 46 ≤ q → q ≤ 50 → T q = S q := fun q h1 h2 => hk.p q (by
          obtain rfl | rfl | rfl | rfl | rfl : q = 46 ∨ q = 47 ∨ q = 48 ∨ q = 49 ∨ q = 50 := by omega
          all_goals rfl)
        rw [← cnt_both bm]
        exact r_overL (d := 97) (r_tab hT' hp) ht hu em el hm hl 224 0 0 rfl (Nat.le_refl _)
    · refine ⟨-1, ⟨S, MX7_overlap ?_, tb_Kp.refl⟩, fun T hJT hk => ⟨T, MX8_overlap ?_, tb_Kp.refl⟩⟩
      · rw [c_hasY hn hT.2.1 ht]
        simp only [Option.bind_some, one0, if_false]
        rw [c_hasN hT.2.1 hy]
        simp only [Option.bind_some, not_true_eq_false, if_false]
      · have e0 : T 45 0 = nI n := by rw [hk.f 0 rfl]; exact hT.2.2.1
        rw [r_termY hn e0 ht]
        simp only [Option.bind_some, one0, if_false]
        rw [r_termN hn e0 hy]
        simp only [Option.bind_some, not_true_eq_false, if_false]
  · refine ⟨-1, ⟨S, MX7_overlap ?_, tb_Kp.refl⟩, fun T hJT hk => ⟨T, MX8_overlap ?_, tb_Kp.refl⟩⟩
    · rw [c_hasN hT.2.1 hx]
      simp only [Option.bind_some, if_true]
    · rw [r_termN hn (by rw [hk.f 0 rfl]; exact hT.2.2.1) hx]
      simp only [Option.bind_some, if_true]
