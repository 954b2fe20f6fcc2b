/-! Part 7l: pair: read -/
theorem c_cut {n c : Nat} {U : tb_St} (hn : n ≤ 24) (hc : c ≤ 24) (hnc : n ≤ c) (h : U 2 7 = nI c) : ∃ V, (∀ d, tb_cV (d + 1) mX5_cutTo [.ref 2, .int (nI n)] U = some V) ∧ V 2 7 = nI n ∧ ∀ q, q ≠ 2 → V q = U q := by
  by_cases e : c ≤ n
  · obtain rfl : c = n := by omega
    refine ⟨U, fun d => MX5_cutTo ?_, h, fun _ _ => rfl⟩
    rw [if_neg (n_nlt (by omega)), h, if_pos (n_le' (by omega) (by omega) (by omega))]
  · refine ⟨tb_up U 2 7 (nI n), fun d => MX5_cutTo ?_, by rw [up_rd, if_pos ⟨rfl, rfl⟩], fun q hq => up_ne hq⟩
    rw [if_neg (n_nlt (by omega)), h, if_neg (n_nle (by omega) (by omega) (by omega))]
theorem r_waysL {w : Nat} (hw : w ≤ 7) : ∀ g k T, k + g = w → T 45 24 = nI w → ∃ T', (∀ d (w1 w3 : Value), tb_E d mX8_read tb_dI 65 [.ref 45, w1, .int (nI k), w3] [] tb_S T = some ((-100 : Int32) - T 45 28, T')) ∧ (∀ q, q ≠ 61 → T' q = T q) ∧ (∀ j, j < k → T' 61 j = T 61 j) ∧ ∀ j, k ≤ j → j < w → T' 61 j = T 60 (w - 1 - j) := by
  intro g
  induction g with
  | zero =>
    intro k T hk h
    refine ⟨T, fun d w1 w3 => BX8_read_65 ?_, fun _ _ => rfl, fun _ _ => rfl, fun j h1 h2 => by omega⟩
    rw [h, if_pos (n_le' (by omega) (by omega) (by omega))]
  | succ g ih =>
    intro k T hk h
    obtain ⟨V, v1, v2, v3, v4⟩ := ih (k + 1) (tb_up T 61 k (T 60 (w - 1 - k))) (by omega) (by rw [up_ne (by omega)]; exact h)
    refine ⟨V, fun d w1 w3 => BX8_read_65 ?_, fun q hq => by rw [v2 q hq, up_ne hq], fun j hj => by rw [v3 j (by omega), up_rd, if_neg (by omega)], fun j h1 h2 => ?_⟩
    · have e : nI w - (1 : Int32) - nI k = nI (w - 1 - k) := by
        rw [show (1 : Int32) = nI 1 from rfl, n_sub (by omega) (by omega), n_sub (by omega) (by omega)]
      rw [h, if_neg (n_nle (by omega) (by omega) (by omega)), e, n_ix (by omega) (by omega), n_ix (by omega) (by omega)]
      simp only [Option.bind_some]
      rw [n_inc, v1 d w1 w3, up_ne (by omega)]
    · by_cases e : j = k
      · rw [e, v3 k (by omega), up_rd, if_pos ⟨rfl, rfl⟩]
      · rw [v4 j (by omega) h2, up_ne (by omega)]
theorem r_fitY {n m : Nat} {x1 : Int32} {T : tb_St} (hnm : n + m < 96) (h0 : T 45 0 = nI n) (h29 : T 45 29 = nI m) : ∀ g k, k + g = m → (∀ j, k ≤ j → j < m → T 51 (n + j) ≤ 40) → ∀ d, tb_E d mX8_read tb_dI 128 [.ref 45, .int x1, .int (1 : Int32), .int (nI k)] [] tb_S T = some (x1, tb_up T 45 0 (nI (n + m))) := by
  intro g
  induction g with
  | zero =>
    intro k hk _ d
    refine BX8_read_128 ?_
    rw [h29, if_pos (n_le' (by omega) (by omega) (by omega)), if_pos (by decide), h0, n_add (by omega)]
  | succ g ih =>
    intro k hk hs d
    refine BX8_read_128 ?_
    rw [h29, if_neg (n_nle (by omega) (by omega) (by omega)), h0, n_add (by omega), n_ix (by omega) (by omega)]
    simp only [Option.bind_some]
    rw [if_pos (hs k (by omega) (by omega)), n_inc]
    exact ih (k + 1) (by omega) (fun j h1 h2 => hs j (by omega) h2) d
theorem r_fitN {n m : Nat} {x1 : Int32} {T : tb_St} (hnm : n + m < 96) (h0 : T 45 0 = nI n) (h29 : T 45 29 = nI m) : ∀ g k x2, k + g = m → (x2 = 0 ∨ ∃ j, k ≤ j ∧ j < m ∧ ¬ T 51 (n + j) ≤ 40) → ∀ d, tb_E d mX8_read tb_dI 128 [.ref 45, .int x1, .int x2, .int (nI k)] [] tb_S T = some (-4, T) := by
  intro g
  induction g with
  | zero =>
    intro k x2 hk hx d
    refine BX8_read_128 ?_
    have hx0 : x2 = 0 := by
      rcases hx with hx | ⟨j, h1, h2, -⟩
      · exact hx
      · omega
    rw [h29, if_pos (n_le' (by omega) (by omega) (by omega)), if_neg (fun z => z hx0)]
  | succ g ih =>
    intro k x2 hk hx d
    refine BX8_read_128 ?_
    rw [h29, if_neg (n_nle (by omega) (by omega) (by omega)), h0, n_add (by omega), n_ix (by omega) (by omega)]
    simp only [Option.bind_some]
    rw [n_inc]
    by_cases e : T 51 (n + k) ≤ 40
    · rw [if_pos e]
      refine ih (k + 1) x2 (by omega) ?_ d
      rcases hx with hx | ⟨j, h1, h2, h3⟩
      · exact Or.inl hx
      · by_cases ej : j = k
        · subst ej; exact absurd e h3
        · exact Or.inr ⟨j, by omega, h2, h3⟩
    · rw [if_neg e]
      exact ih (k + 1) 0 (by omega) (Or.inl rfl) d
/-- both tell a fault -/
theorem tail_F {n : Nat} {U V : tb_St} (h : Flt n U V) : ∃ a SC TC, (∀ d (v : Int32), tb_E (d + 1) mX4_readAll tb_dI 64 [.ref 32, .int v] [] tb_S U = some (a, SC)) ∧ (∀ d (w2 w3 : Value), tb_E d mX8_read tb_dI 46 [.ref 45, .int (-1 : Int32), w2, w3] [] tb_S V = some (a, TC)) ∧ (∀ q, q ≠ 2 → q ≠ 32 → SC q = U q) ∧ SC 2 7 = nI n ∧ SC 32 2 = 0 ∧ (∀ q, q ≠ 45 → q ≠ 61 → TC q = V q) ∧ (∀ i, i ≠ 21 → i ≠ 26 → TC 45 i = V 45 i) ∧ TC 45 21 = 0 ∧ jText 7 (SC 32 4) (TC 45 26) (SC 34) (TC 61) ∧ jT n (nI n) (nI n) (SC 3) (SC 4) (SC 5) (SC 6) (SC 7) (SC 8) (SC 9) (TC 46) (TC 47) (TC 48) (TC 49) (TC 50) (TC 51) (TC 52) := by
  obtain ⟨f, w, hf, hw, f7, f28, f4, f24, fw, f6, ⟨c, c1, c2, c3⟩, hT⟩ := h
  have hn := hT.1
  obtain ⟨X, x1, x2, x3⟩ := c_cut (U := tb_up U 32 2 0) hn c2 c1 (by rw [up_ne (by omega)]; exact c3)
  obtain ⟨Y, y1, y2, y3, y4⟩ := r_waysL hw w 0 (tb_up (tb_up V 45 21 0) 45 26 (nI w)) (by omega) (by rw [up_rd, if_neg (by omega), up_rd, if_neg (by omega)]; exact f24)
  have e28 : (tb_up (tb_up V 45 21 0) 45 26 (nI w)) 45 28 = nI f := by rw [up_rd, if_neg (by omega), up_rd, if_neg (by omega)]; exact f28
  have hne : ¬ U 32 7 = -1 := by rw [f7]; exact neg1 (by omega)
  have xq : ∀ q, q ≠ 2 → q ≠ 32 → X q = U q := fun q h1 h2 => by rw [x3 q h1, up_ne h2]
  have x32 : ∀ i, i ≠ 2 → X 32 i = U 32 i := fun i hi => by rw [x3 32 (by omega), up_rd, if_neg (by omega)]
  have yq : ∀ q, q ≠ 45 → q ≠ 61 → Y q = V q := fun q h1 h2 => by rw [y2 q h2, up_ne h1, up_ne h1]
  refine ⟨(-100 : Int32) - nI f, X, Y, fun d v => BX4_readAll_64 ?_, fun d w2 w3 => BX8_read_46 ?_, xq, x2, by rw [x3 32 (by omega), up_rd, if_pos ⟨rfl, rfl⟩], yq, fun i h1 h2 => by rw [y2 45 (by omega), up_rd, if_neg (by omega), up_rd, if_neg (by omega)], by rw [y2 45 (by omega), up_rd, if_neg (by omega), up_rd, if_pos ⟨rfl, rfl⟩], ⟨w, hw, by rw [x32 4 (by omega)]; exact f4, by rw [y2 45 (by omega), up_rd, if_pos ⟨rfl, rfl⟩], fun k hk => ?_⟩, ?_⟩
  · rw [if_pos hne]
    refine BX4_readAll_86 ?_
    have e6 : tb_up U 32 2 0 32 6 = nI n := by rw [up_rd, if_neg (by omega)]; exact f6
    rw [e6, x1]
    simp only [Option.bind_some]
    rw [x32 7 (by omega), if_pos hne, f7]
  · rw [if_neg not0m1, f24]
    have := y1 d (.int (-1 : Int32)) w3
    rw [e28] at this
    exact this
  · rw [xq 34 (by omega) (by omega), y4 k (by omega) hk, up_ne (by omega), up_ne (by omega)]
    exact (fw k hk).symm
  · rw [xq 3 (by omega) (by omega), xq 4 (by omega) (by omega), xq 5 (by omega) (by omega), xq 6 (by omega) (by omega), xq 7 (by omega) (by omega), xq 8 (by omega) (by omega), xq 9 (by omega) (by omega), yq 46 (by omega) (by omega), yq 47 (by omega) (by omega), yq 48 (by omega) (by omega), yq 49 (by omega) (by omega), yq 50 (by omega) (by omega), yq 51 (by omega) (by omega), yq 52 (by omega) (by omega)]
    exact hT
def RFF (T T' : tb_St) : Prop := (∀ q, q ≠ 45 → (q < 46 ∨ 52 < q) → q ≠ 60 → q ≠ 61 → T' q = T q) ∧ ∀ i, i ∈ [8, 19, 30, 32, 33, 34] → T' 45 i = T 45 i
def jRead (S T : tb_St) : Prop := (∃ n, jT n (S 2 7) (T 45 0) (S 3) (S 4) (S 5) (S 6) (S 7) (S 8) (S 9) (T 46) (T 47) (T 48) (T 49) (T 50) (T 51) (T 52)) ∧ jText 60 (S 32 2) (T 45 21) (S 33) (T 59) ∧ jText 7 (S 32 4) (T 45 26) (S 34) (T 61)
theorem both_read {S T : tb_St} (h : jRead S T) : ∃ v SC TC, tb_cI 100 mX7_read [.ref 1] S = some (v, SC) ∧ tb_cI 100 mX8_read [.ref 45] T = some (v, TC) ∧ CF S SC ∧ RFF T TC ∧ jRead SC TC := by
  obtain ⟨⟨n, hT⟩, ⟨len, hl, l1, l2, l3⟩, hW⟩ := h
  have hn := hT.1
  generalize hS0 : tb_up (tb_up (tb_up (tb_up (tb_up S 32 5 0) 32 6 (S 2 7)) 32 7 (-1)) 32 8 0) 32 10 0 = S0
  generalize hT0 : tb_up (tb_up (tb_up T 45 23 0) 45 29 0) 45 24 0 = T0
  have s32 : S0 32 2 = S 32 2 ∧ S0 32 4 = S 32 4 ∧ S0 32 5 = 0 ∧ S0 32 6 = S 2 7 ∧ S0 32 7 = -1 ∧ S0 32 8 = 0 ∧ S0 32 10 = 0 := by subst hS0; simp [up_rd]
  have sq : ∀ q, q ≠ 32 → S0 q = S q := fun q hq => by subst hS0; rw [up_ne hq, up_ne hq, up_ne hq, up_ne hq, up_ne hq]
  have t45 : T0 45 23 = 0 ∧ T0 45 24 = 0 ∧ T0 45 29 = 0 := by subst hT0; simp [up_rd]
  have ti : ∀ i, i ≠ 23 → i ≠ 24 → i ≠ 29 → T0 45 i = T 45 i := fun i h1 h2 h3 => by subst hT0; rw [up_rd, if_neg (by omega), up_rd, if_neg (by omega), up_rd, if_neg (by omega)]
  have tq : ∀ q, q ≠ 45 → T0 q = T q := fun q hq => by subst hT0; rw [up_ne hq, up_ne hq, up_ne hq]
  have hR0 : Rb n len (S 33) 0 0 S0 T0 := by
    refine ⟨⟨hl, by omega, by rw [s32.1]; exact l1, s32.2.2.1, fun j _ => by rw [sq 33 (by omega)]⟩, ⟨hl, by omega, by rw [ti 21 (by omega) (by omega) (by omega)]; exact l2, t45.1, fun j hj => by rw [tq 59 (by omega)]; exact l3 j hj⟩, by omega, hn, by rw [s32.2.2.2.1]; exact hT.2.1, s32.2.2.2.2.1, by rw [ti 0 (by omega) (by omega) (by omega)]; exact hT.2.2.1, t45.2.2, Or.inl ⟨s32.2.2.2.2.2.1, ?_⟩⟩
    rw [sq 2 (by omega), sq 3 (by omega), sq 4 (by omega), sq 5 (by omega), sq 6 (by omega), sq 7 (by omega), sq 8 (by omega), sq 9 (by omega), tq 46 (by omega), tq 47 (by omega), tq 48 (by omega), tq 49 (by omega), tq 50 (by omega), tq 51 (by omega), tq 52 (by omega)]
    exact ⟨hT.1, hT.2.1, rfl, hT.2.2.2⟩
  have hSt : St 0 S0 T0 := ⟨by omega, s32.2.2.2.2.2.2, t45.2.1, fun j hj => by omega⟩
  have c0 : CF S S0 := fun q _ h _ _ => sq q h
  have r0 : RF T T0 := ⟨fun q h1 _ _ => tq q h1, fun i h1 h2 _ h4 => ti i h1 h2 h4⟩
  obtain ⟨v, S1, v', T1, a1, a2, o1, o2, o3⟩ := sim_all (n := n) (len := len) (tp := S 33) 6 0 rfl 0 0 S0 T0 hR0 hSt
  have a1' : tb_cI 98 mX4_readTerm [.ref 32, .int (0 : Int32)] S0 = some (v, S1) := a1 78
  have a2' : tb_cI 99 mX8_term [.ref 45, .int (0 : Int32)] T0 = some (v', T1) := a2 85
  have cS := c0.trans o1
  have rT := r0.trans o2
  have hC : ∀ r, (if ¬ S1 32 7 = (-1 : Int32) then tb_E 98 mX4_readAll tb_dI 64 [.ref 32, .int v] [] tb_S S1 else (if S1 32 2 ≤ S1 32 5 then tb_E 98 mX4_readAll tb_dI 64 [.ref 32, .int v] [] tb_S S1 else (tb_cV 98 mX4_fail [.ref 32, .int (S1 32 5)] S1).bind fun q61 => tb_E 98 mX4_readAll tb_dI 64 [.ref 32, .int v] [] tb_S q61)) = some r → tb_cI 100 mX7_read [.ref 1] S = some r := by
    intro r hr
    have hA : tb_cI 99 mX4_readAll [.ref 32] S = some r := by
      refine MX4_readAll ?_
      rw [hS0, a1']
      exact hr
    refine MX7_read ?_
    rw [hA]
    rfl
  have hR : ∀ r, (if v' < 0 then tb_E 99 mX8_read tb_dI 46 [.ref 45, .int v', tb_jk, tb_jk] [] tb_S T1 else (if T1 45 21 ≤ T1 45 23 then tb_E 99 mX8_read tb_dI 46 [.ref 45, .int v', tb_jk, tb_jk] [] tb_S T1 else tb_E 99 mX8_read tb_dI 46 [.ref 45, .int (-1 : Int32), tb_jk, tb_jk] [] tb_S (tb_up T1 45 28 (T1 45 23)))) = some r → tb_cI 100 mX8_read [.ref 45] T = some r := by
    intro r hr
    refine MX8_read ?_
    rw [hT0, a2']
    exact hr
  -- what a fault leaves
  have hF : ∀ U V, Flt n U V → CF S U → RF T V → (∀ r, tb_E 98 mX4_readAll tb_dI 64 [.ref 32, .int v] [] tb_S U = some r → tb_cI 100 mX7_read [.ref 1] S = some r) → (∀ r, tb_E 99 mX8_read tb_dI 46 [.ref 45, .int (-1 : Int32), tb_jk, tb_jk] [] tb_S V = some r → tb_cI 100 mX8_read [.ref 45] T = some r) → ∃ v SC TC, tb_cI 100 mX7_read [.ref 1] S = some (v, SC) ∧ tb_cI 100 mX8_read [.ref 45] T = some (v, TC) ∧ CF S SC ∧ RFF T TC ∧ jRead SC TC := by
    intro U V hUV cU rV kC kR
    obtain ⟨a, SC, TC, z1, z2, z3, z4, z5, z6, z7, z8, z9, z10⟩ := tail_F hUV
    refine ⟨a, SC, TC, kC _ (z1 97 v), kR _ (z2 99 _ _), fun q h1 h2 h3 h4 => by rw [z3 q (by omega) h2]; exact cU q h1 h2 h3 h4, ⟨fun q h1 h2 h3 h4 => by rw [z6 q h1 h4]; exact rV.1 q h1 h2 h3, fun i hi => ?_⟩, ⟨n, ?_⟩, ⟨0, by omega, z5, z8, fun k hk => by omega⟩, z9⟩
    · simp only [List.mem_cons, List.not_mem_nil, or_false] at hi
      rw [z7 i (by omega) (by omega)]
      exact rV.2 i (by omega) (by omega) (by omega) (by omega)
    · rw [z4, z7 0 (by omega) (by omega), rV.2 0 (by omega) (by omega) (by omega) (by omega), hT.2.2.1]
      exact z10
  rcases o3 with ⟨hv, hFl⟩ | ⟨hv, hP⟩ | ⟨p', m', x, q1, q2, q3, q4, q5, q6, q7, q8⟩
  · refine hF S1 T1 hFl cS rT (fun r hr => hC r ?_) (fun r hr => hR r ?_)
    · rw [if_pos hFl.ne]; exact hr
    · rw [hv, if_pos (by decide)]; exact hr
  · obtain ⟨p, tp, h1, h2, h3, h4, h5, h6, h7⟩ := hP
    have hp := h1.2.1
    have hplt : p < len := by
      by_cases e : p < len
      · exact e
      · unfold chA at h2
        rw [if_neg e] at h2
        exact absurd h2.1 (by decide)
    obtain ⟨U, f1, f2, f3, f4⟩ := c_flt h4 h3 h6 h7 (by omega) h5
    refine hF U T1 f2 (cS.trans f3) rT (fun r hr => hC r ?_) (fun r hr => hR r ?_)
    · rw [if_neg (fun z => z h4), h1.2.2.1, h1.2.2.2.1, if_neg (n_nle (by omega) (by omega) hplt), f1]
      exact hr
    · rw [hv, if_pos (by decide)]; exact hr
  · obtain ⟨b1, b2, b3, b4, b5, b6, b7, b8, b9⟩ := q3
    have hp := b1.2.1
    by_cases hend : p' < len
    · obtain ⟨U, f1, f2, f3, f4⟩ := flt_at (f := p') ⟨b1, b2, b3, b4, b5, b6, b7, b8, b9⟩ q4 (by omega)
      refine hF U (tb_up T1 45 28 (nI p')) f2 (cS.trans f3) (rT.trans (RF.up45 (by omega))) (fun r hr => hC r ?_) (fun r hr => hR r ?_)
      · rw [if_neg (fun z => z b6), b1.2.2.1, b1.2.2.2.1, if_neg (n_nle (by omega) (by omega) hend), f1]
        exact hr
      · rw [q6, if_neg (n_nlt (by omega)), b2.2.2.1, b2.2.2.2.1, if_neg (n_nle (by omega) (by omega) hend)]
        exact hr
    · obtain rfl : p' = len := by omega
      have hC' : ∀ r, tb_E 98 mX4_readAll tb_dI 64 [.ref 32, .int v] [] tb_S S1 = some r → tb_cI 100 mX7_read [.ref 1] S = some r := by
        intro r hr
        refine hC r ?_
        rw [if_neg (fun z => z b6), b1.2.2.1, b1.2.2.2.1, if_pos (n_le' (by omega) (by omega) (by omega))]
        exact hr
      have hR' : ∀ r, tb_E 99 mX8_read tb_dI 46 [.ref 45, .int (nI x), tb_jk, tb_jk] [] tb_S T1 = some r → tb_cI 100 mX8_read [.ref 45] T = some r := by
        intro r hr
        refine hR r ?_
        rw [q6, if_neg (n_nlt (by omega)), b2.2.2.1, b2.2.2.2.1, if_pos (n_le' (by omega) (by omega) (by omega))]
        exact hr
      have u21 : ∀ i, i ≠ 21 → tb_up T1 45 21 0 45 i = T1 45 i := fun i hi => by rw [up_rd, if_neg (by omega)]
      have k4 : S1 32 4 = S 32 4 := by rw [q5.1]; exact s32.2.1
      have k34 : S1 34 = S 34 := by rw [q5.2]; exact sq 34 (by omega)
      have t26 : T1 45 26 = T 45 26 := rT.2 26 (by omega) (by omega) (by omega) (by omega)
      have t61 : T1 61 = T 61 := rT.1 61 (by omega) (by omega) (by omega)
      rcases b9 with ⟨h8, hj⟩ | ⟨h8, hold, hbig⟩
      · have hvx := (q8 h8).2
        have hnm := hj.1
        refine ⟨nI x, tb_up S1 32 2 0, tb_up (tb_up T1 45 21 0) 45 0 (nI (n + m')), hC' _ (BX4_readAll_64 ?_), hR' _ (BX8_read_46 ?_), cS.trans CF.up32, ⟨fun q h1 h2 h3 h4 => by rw [up_ne h1, up_ne h1]; exact rT.1 q h1 h2 h3, fun i hi => ?_⟩, ⟨n + m', ?_⟩, ⟨0, by omega, by rw [up_rd, if_pos ⟨rfl, rfl⟩]; rfl, by rw [up_rd, if_neg (by omega), up_rd, if_pos ⟨rfl, rfl⟩]; rfl, fun k hk => by omega⟩, ?_⟩
        · rw [if_neg (fun z => z b6), if_neg (fun z => z h8), hvx]
        · rw [if_pos (nI0 x (by omega)), b7, b8, n_add (by omega), if_neg (fun z => by rw [show (24 : Int32) = nI 24 from rfl, n_lt (by omega) (by omega)] at z; omega)]
          refine r_fitY (n := n) (m := m') (by omega) (by rw [u21 0 (by omega)]; exact b7) (by rw [u21 29 (by omega)]; exact b8) m' 0 (by omega) (fun j _ hjm => ?_) 99
          rw [up_ne (by omega), (hj.2.2.2 (n + j) (by omega)).1.2.2.2.2.2.1]
          obtain ⟨z, z1, z2, z3⟩ := wfT_size (hj.2.2.2 (n + j) (by omega)).2
          rw [z1]
          exact (n_le (b := 40) (by omega) (by omega)).mpr z3
        · simp only [List.mem_cons, List.not_mem_nil, or_false] at hi
          rw [up_rd, if_neg (by omega), up_rd, if_neg (by omega)]
          exact rT.2 i (by omega) (by omega) (by omega) (by omega)
        · have w1 : ∀ q, q ≠ 32 → tb_up S1 32 2 0 q = S1 q := fun q h => up_ne h
          have w2 : ∀ q, q ≠ 45 → tb_up (tb_up T1 45 21 0) 45 0 (nI (n + m')) q = T1 q := fun q h => by rw [up_ne h, up_ne h]
          have w3 : tb_up (tb_up T1 45 21 0) 45 0 (nI (n + m')) 45 0 = nI (n + m') := by rw [up_rd, if_pos ⟨rfl, rfl⟩]
          rw [w3, w1 2 (by omega), w1 3 (by omega), w1 4 (by omega), w1 5 (by omega), w1 6 (by omega), w1 7 (by omega), w1 8 (by omega), w1 9 (by omega), w2 46 (by omega), w2 47 (by omega), w2 48 (by omega), w2 49 (by omega), w2 50 (by omega), w2 51 (by omega), w2 52 (by omega)]
          exact hj
        · have w1 : tb_up S1 32 2 0 32 4 = S1 32 4 := by rw [up_rd, if_neg (by omega)]
          have w2 : tb_up S1 32 2 0 34 = S1 34 := up_ne (by omega)
          have w3 : tb_up (tb_up T1 45 21 0) 45 0 (nI (n + m')) 45 26 = T1 45 26 := by rw [up_rd, if_neg (by omega), up_rd, if_neg (by omega)]
          have w4 : tb_up (tb_up T1 45 21 0) 45 0 (nI (n + m')) 61 = T1 61 := by rw [up_ne (by omega), up_ne (by omega)]
          rw [w1, w2, w3, w4, k4, k34, t26, t61]
          exact hW
      · obtain ⟨⟨c, c1, c2, c3⟩, hjn⟩ := hold
        obtain ⟨X, x1, x2, x3⟩ := c_cut (U := tb_up S1 32 2 0) hn c2 c1 (by rw [up_ne (by omega)]; exact c3)
        have xq : ∀ q, q ≠ 2 → q ≠ 32 → X q = S1 q := fun q h1 h2 => by rw [x3 q h1, up_ne h2]
        have x32 : ∀ i, i ≠ 2 → X 32 i = S1 32 i := fun i hi => by rw [x3 32 (by omega), up_rd, if_neg (by omega)]
        have hnm : n + m' < 96 := by
          have := b1.1
          omega
        have hfit : ∀ x2 d, (x2 = 0 ∨ ∃ j, 0 ≤ j ∧ j < m' ∧ ¬ T1 51 (n + j) ≤ 40) → tb_E d mX8_read tb_dI 128 [.ref 45, .int (nI x), .int x2, .int (0 : Int32)] [] tb_S (tb_up T1 45 21 0) = some (-4, tb_up T1 45 21 0) := by
          intro x2 d hx2
          refine r_fitN (n := n) (m := m') (T := tb_up T1 45 21 0) hnm (by rw [u21 0 (by omega)]; exact b7) (by rw [u21 29 (by omega)]; exact b8) m' 0 x2 (by omega) ?_ d
          rw [up_ne (by omega)]
          exact hx2
        refine ⟨-4, X, tb_up T1 45 21 0, hC' _ (BX4_readAll_64 ?_), hR' _ (BX8_read_46 ?_), fun q h1 h2 h3 h4 => by rw [xq q (by omega) h2]; exact cS q h1 h2 h3 h4, ⟨fun q h1 h2 h3 h4 => by rw [up_ne h1]; exact rT.1 q h1 h2 h3, fun i hi => ?_⟩, ⟨n, ?_⟩, ⟨0, by omega, by rw [x3 32 (by omega), up_rd, if_pos ⟨rfl, rfl⟩]; rfl, by rw [up_rd, if_pos ⟨rfl, rfl⟩]; rfl, fun k hk => by omega⟩, ?_⟩
        · rw [if_neg (fun z => z b6), if_pos (by rw [h8]; decide)]
          refine BX4_readAll_86 ?_
          have e6 : tb_up S1 32 2 0 32 6 = nI n := by rw [up_rd, if_neg (by omega)]; exact b5
          rw [e6, x1]
          simp only [Option.bind_some]
          rw [x32 7 (by omega), if_neg (fun z => z b6)]
        · rw [if_pos (nI0 x (by omega)), b7, b8, n_add (by omega)]
          by_cases e24 : 24 < n + m'
          · rw [if_pos (show (24 : Int32) < nI (n + m') from (n_lt (a := 24) (by omega) (by omega)).mpr e24)]
            exact hfit 0 99 (Or.inl rfl)
          · rw [if_neg (show ¬ (24 : Int32) < nI (n + m') from fun z => e24 ((n_lt (a := 24) (by omega) (by omega)).mp z))]
            refine hfit 1 99 (Or.inr ?_)
            rcases hbig with hb | ⟨j, hj1, hj2⟩
            · exact absurd hb e24
            · exact ⟨j, by omega, hj1, hj2⟩
        · simp only [List.mem_cons, List.not_mem_nil, or_false] at hi
          rw [u21 i (by omega)]
          exact rT.2 i (by omega) (by omega) (by omega) (by omega)
        · rw [x2, u21 0 (by omega), b7, xq 3 (by omega) (by omega), xq 4 (by omega) (by omega), xq 5 (by omega) (by omega), xq 6 (by omega) (by omega), xq 7 (by omega) (by omega), xq 8 (by omega) (by omega), xq 9 (by omega) (by omega), up_ne (by omega), up_ne (by omega), up_ne (by omega), up_ne (by omega), up_ne (by omega), up_ne (by omega), up_ne (by omega)]
          exact hjn
        · rw [x32 4 (by omega), xq 34 (by omega) (by omega), u21 26 (by omega), up_ne (by omega), k4, k34, t26, t61]
          exact hW
theorem p_read : tb_PI mX7_read mX8_read [] := by
  intro S hJ
  have hR : jRead S S := ⟨hJ.1, hJ.2.2.2.1, hJ.2.2.2.2.1⟩
  obtain ⟨v0, SC, T0, a1, -, a3, -, -⟩ := both_read hR
  have cS : ∀ q, 35 < q → SC q = S q := fun q hq => a3 q (by omega) (by omega) (by omega) (by omega)
  have hR2 : jRead S SC := by
    unfold jRead
    rw [cS 45 (by omega), cS 46 (by omega), cS 47 (by omega), cS 48 (by omega), cS 49 (by omega), cS 50 (by omega), cS 51 (by omega), cS 52 (by omega), cS 59 (by omega), cS 61 (by omega)]
    exact hR
  obtain ⟨v, SD, T, b1, b2, b3, b4, b5⟩ := both_read hR2
  obtain ⟨rfl, rfl⟩ : v0 = v ∧ SC = SD := by
    rw [a1] at b1
    have := Option.some.inj b1
    exact ⟨congrArg Prod.fst this, congrArg Prod.snd this⟩
  have p1 : ∀ q, (q < 2 ∨ 9 < q) → q ≠ 32 → q ≠ 34 → q ≠ 35 → q < 45 → T q = S q := fun q h1 h2 h3 h4 h5 => by rw [b4.1 q (by omega) (by omega) (by omega) (by omega), a3 q h1 h2 h3 h4]
  have p2 : ∀ q, 52 < q → q ≠ 60 → q ≠ 61 → T q = S q := fun q h1 h2 h3 => by rw [b4.1 q (by omega) (by omega) h2 h3, cS q (by omega)]
  have p3 : ∀ q, q < 45 → T q = SC q := fun q h => b4.1 q (by omega) (by omega) (by omega) (by omega)
  have p4 : ∀ i, i ∈ [8, 19, 30, 32, 33, 34] → T 45 i = S 45 i := fun i hi => by rw [b4.2 i hi, cS 45 (by omega)]
  refine ⟨v0, SC, T, a1, a3 0 (by omega) (by omega) (by omega) (by omega), b2, p1 0 (by omega) (by omega) (by omega) (by omega) (by omega), ?_⟩
  obtain ⟨j1, j2, j3⟩ := b5
  refine ⟨?_, ?_, ?_, ?_, ?_, ?_, ?_, ?_⟩
  · rw [p3 2 (by omega), p3 3 (by omega), p3 4 (by omega), p3 5 (by omega), p3 6 (by omega), p3 7 (by omega), p3 8 (by omega), p3 9 (by omega)]
    exact j1
  · have h := hJ.2.1
    rw [p4 32 (by decide), p4 33 (by decide), p4 34 (by decide)]
    simpa (disch := omega) only [p1, p2] using h
  · have h := hJ.2.2.1
    rw [p4 8 (by decide)]
    simpa (disch := omega) only [p1, p2] using h
  · rw [p3 32 (by omega), p3 33 (by omega)]
    exact j2
  · rw [p3 32 (by omega), p3 34 (by omega)]
    exact j3
  · have h := hJ.2.2.2.2.2.1
    rw [p4 30 (by decide)]
    simpa (disch := omega) only [p1, p2] using h
  · intro q hq
    have h := hJ.2.2.2.2.2.2.1 q hq
    rw [p1 44 (by omega) (by omega) (by omega) (by omega) (by omega), p2 64 (by omega) (by omega) (by omega), p1 (40 + q) (by omega) (by omega) (by omega) (by omega) (by omega), p2 65 (by omega) (by omega) (by omega)]
    exact h
  · rw [p4 19 (by decide)]
    exact hJ.2.2.2.2.2.2.2
