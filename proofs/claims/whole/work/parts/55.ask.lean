/-! Part 55: asking both of a term and a case; says, sum, would, till -/
noncomputable def wouldV (S : tb_St) (sf sv : Int32) (t c : Nat) : Int32 := ev (S 3) (S 4) (S 5) (S 6) (S 7) (S 8) (fun _ => false) sf sv c 24 t 0
noncomputable def sayV (S : tb_St) (t c : Nat) : Int32 := wouldV S (-1) (-5) t c
theorem ev_noflat {K F B O T Z : Nat → Int32} {q : Nat → Bool} {n : Nat} {sf sv sw : Int32} {c : Nat} (hn : n ≤ 24) (hw : ∀ t, t < n → wfT K F B O T Z t) (hv : ∀ t, t < n → ¬ nI t = sf) : ∀ f t k, t < n → ev K F B O T Z q sf sv c f t k = ev K F B O T Z q sf sw c f t k := by
  intro f
  induction f with
  | zero => intro t k _; rfl
  | succ f ih =>
    intro t k ht
    have hi : ∀ x : Int32, (x = -5 ∨ ∃ a, a < t ∧ x = nI a) → x.toNatClampNeg < n := by
      rintro x (rfl | ⟨a, ha, rfl⟩)
      · exact (show 0 < n by omega)
      · rw [nI_clamp (by omega)]; omega
    have ho : (O t = -5 ∨ ∃ a, a < t ∧ O t = nI a) ∧ (T t = -5 ∨ ∃ a, a < t ∧ T t = nI a) := by
      rcases wfT_sh (hw t ht) with ⟨o, w, -⟩ | ⟨a, ha, o, w, -⟩ | ⟨a, b, ha, hb, o, w, -⟩
      · exact ⟨Or.inl o, Or.inl w⟩
      · exact ⟨Or.inr ⟨a, ha, o⟩, Or.inl w⟩
      · exact ⟨Or.inr ⟨a, ha, o⟩, Or.inr ⟨b, hb, w⟩⟩
    unfold ev
    rw [ih _ _ (hi _ ho.1), ih _ _ (hi _ ho.2), if_neg (hv t ht), if_neg (hv t ht)]
/-- the tree of C lies ready -/
def TR (S : tb_St) (n t : Nat) (S' : tb_St) : Prop := tabs (S 3) (S 4) (S 5) (S 6) (S 7) (S 8) n S' ∧ S' 24 4 = nI (szN (S 8) t) ∧ szN (S 8) t ≤ 40 ∧ 1 ≤ szN (S 8) t ∧ Lay (S 6) (S 7) (S 8) (S' 25) (S' 26) 24 t 0 ∧ S' 24 5 = -1
def jTS (n : Nat) (S : tb_St) : Prop := jT n (S 2 7) (S 45 0) (S 3) (S 4) (S 5) (S 6) (S 7) (S 8) (S 9) (S 46) (S 47) (S 48) (S 49) (S 50) (S 51) (S 52)
theorem kp_of {S S' : tb_St} (h : ∀ q, q ≠ 24 → q ≠ 25 → q ≠ 26 → q ≠ 27 → S' q = S q) : tb_Kp S S' := by
  refine ⟨fun q hq => h q ?_ ?_ ?_ ?_, by rw [h 32 (by omega) (by omega) (by omega) (by omega)], by rw [h 32 (by omega) (by omega) (by omega) (by omega)], fun f _ => by rw [h 45 (by omega) (by omega) (by omega) (by omega)]⟩ <;>
  · rintro rfl
    revert hq
    decide
theorem neg1 {t : Nat} (h : t < 1000) : ¬ nI t = -1 := n_ne_neg (by omega) (by decide)
theorem c_open {d n t : Nat} {S : tb_St} (hT : jTS n S) (ht : t < n) : ∃ S', tb_cV (d + 4) mX6_unfold [.ref 24, .int (nI t)] S = some S' ∧ TR S n t S' ∧ S' 24 6 = -1 ∧ ∀ q, q ≠ 24 → q ≠ 25 → q ≠ 26 → S' q = S q := by
  have hT' : tabs (S 3) (S 4) (S 5) (S 6) (S 7) (S 8) n S := ⟨hT.1, hT.2.1, rfl, rfl, rfl, rfl, rfl, rfl⟩
  obtain ⟨S', h1, h2, h3, h4, h5, h6, h7, h8⟩ := c_unfold (d := d) (fun t ht => (hT.2.2.2 t ht).2) hT' ht
  exact ⟨S', h1, ⟨hT'.keep (fun q hq => h2 q (by omega) (by omega) (by omega)), h3, h6, h7, h8, h4⟩, h5, h2⟩
theorem c_askw {d n t c : Nat} {S S' : tb_St} (hT : jTS n S) (ht : t < n) (hR : TR S n t S') (hs : ∀ t, t < n → nI t = S' 24 6 → S 3 t = 0) (hc : c < 224) : ∃ S'', tb_cI (d + 5) mX6_answer [.ref 24, .int (nI c)] S' = some (wouldV S (S' 24 6) (S' 24 7) t c, S'') ∧ TR S n t S'' ∧ ∀ q, q ≠ 27 → S'' q = S' q := by
  obtain ⟨h1, h2, h3, h4, h5, h6⟩ := hR
  obtain ⟨S'', a1, a2⟩ := c_answer (d := d) (fun t ht => (hT.2.2.2 t ht).2) h1 ht h2 h3 h4 h5 hs hc
  have hq : qof S' = fun _ => false := by
    funext k
    unfold qof
    rw [h6, decide_eq_false_iff_not]
    rintro ⟨z1, z2⟩
    exact neg1 z1 z2
  rw [hq] at a1
  exact ⟨S'', a1, ⟨h1.keep (fun q hq => a2 q (by omega)), by rw [a2 24 (by omega)]; exact h2, h3, h4, by rw [a2 25 (by omega), a2 26 (by omega)]; exact h5, by rw [a2 24 (by omega)]; exact h6⟩, a2⟩
theorem c_ask {d n t c : Nat} {S S' : tb_St} (hT : jTS n S) (ht : t < n) (hR : TR S n t S') (h6 : S' 24 6 = -1) (hc : c < 224) : ∃ S'', tb_cI (d + 5) mX6_answer [.ref 24, .int (nI c)] S' = some (sayV S t c, S'') ∧ TR S n t S'' ∧ S'' 24 6 = -1 ∧ ∀ q, q ≠ 27 → S'' q = S' q := by
  have hn := hT.1
  obtain ⟨S'', a1, a2, a3⟩ := c_askw (d := d) (c := c) hT ht hR (fun t ht z => absurd (z.trans h6) (neg1 (by omega))) hc
  refine ⟨S'', ?_, a2, by rw [a3 24 (by omega)]; exact h6, a3⟩
  rw [a1, h6]
  unfold sayV wouldV
  rw [ev_noflat hn (fun t ht => (hT.2.2.2 t ht).2) (fun t ht => neg1 (by omega)) 24 t 0 ht]
theorem r_tab {n : Nat} {S T : tb_St} (hT : jTS n S) (hk : ∀ q, 46 ≤ q → q ≤ 50 → T q = S q) : rtab (S 3) (S 4) (S 5) (S 6) (S 7) n T := by
  refine ⟨hT.1, fun t ht => ?_⟩
  rw [hk 46 (by omega) (by omega), hk 47 (by omega) (by omega), hk 48 (by omega) (by omega), hk 49 (by omega) (by omega), hk 50 (by omega) (by omega)]
  obtain ⟨w1, w2, w3, w4, w5, w6, w7⟩ := (hT.2.2.2 t ht).1
  exact ⟨w1, w2, w3, w4, w5⟩
theorem r_askw {d n t c : Nat} {S T : tb_St} (hT : jTS n S) (ht : t < n) (hk : ∀ q, 46 ≤ q → q ≤ 50 → T q = S q) (h17 : T 45 17 = -1) (hv : valR (T 45 20) ∨ ∀ t, t < n → ¬ nI t = T 45 19) (hs : ∀ t, t < n → nI t = T 45 19 → S 3 t = 0) (hc : c < 224) : ∃ v, tb_cI (d + 27) mX8_sayOf [.ref 45, .int (nI t), .int (nI c)] T = some (wouldV S (T 45 19) (T 45 20) t c, tb_up T 45 16 v) := by
  have hn := hT.1
  have hw : ∀ t, t < n → wfT (S 3) (S 4) (S 5) (S 6) (S 7) (S 8) t := fun t ht => (hT.2.2.2 t ht).2
  have hz : szN (S 8) t < 1000 := by
    unfold szN
    rcases hw t ht with w | w | ⟨w1, w2, w3, w4, a, z, w5, w6, w7, w8, w9, w10⟩ | ⟨w1, w2, w3, w4, a, z, w5, w6, w7, w8, w9, w10⟩ | ⟨w1, w2, w3, a, b, z, w, w5, w6, w7, w8, w9, w10, w11, w12, w13, w14⟩
    · rw [w.2.2.2.2.2]; decide
    · rw [w.2.2.2.2.2]; decide
    · rw [w10, nI_clamp (by omega)]; omega
    · rw [w10, nI_clamp (by omega)]; omega
    · rw [w14, nI_clamp (by omega)]; omega
  have hr : ∀ k, rof (-1) k = false := by
    intro k
    unfold rof
    rw [decide_eq_false_iff_not]
    rintro ⟨z1, z2⟩
    exact neg1 z1 z2
  have h := r_said (d := d) (q := fun _ => false) (sf := T 45 19) (sv := T 45 20) (w := -1) (c := c) hw hv hs hc 24 t 0 0 (tb_up T 45 16 0) (by omega) ht ((r_tab hT hk).keep (fun q h1 h2 => up_ne (by omega))) (by rw [up_rd, if_pos ⟨rfl, rfl⟩]; rfl) (by rw [up_rd, if_neg (by omega)]; exact h17) (by rw [up_rd, if_neg (by omega)]) (by rw [up_rd, if_neg (by omega)]) (by omega) (Mt_no (fun _ => rfl) hr 24 t 0 0)
  refine ⟨nI (0 + wh (S 3) (S 6) (S 7) 24 t), MX8_sayOf ?_⟩
  rw [h]
  simp only [Option.bind_some, up_up]
  rfl
theorem r_ask {d n t c : Nat} {S T : tb_St} (hT : jTS n S) (ht : t < n) (hk : tb_Kp S T) (h19 : S 45 19 = -1) (h17 : T 45 17 = -1) (hc : c < 224) : ∃ T', tb_cI (d + 27) mX8_sayOf [.ref 45, .int (nI t), .int (nI c)] T = some (sayV S t c, T') ∧ tb_Kp T T' ∧ T' 45 17 = -1 ∧ ∀ q, q ≠ 45 → T' q = T q := by
  have hn := hT.1
  have h19' : T 45 19 = -1 := by rw [hk.f 19 rfl]; exact h19
  obtain ⟨v, h⟩ := r_askw (d := d) (c := c) hT ht (T := T) (fun q h1 h2 => hk.p q (by
    obtain rfl | rfl | rfl | rfl | rfl : q = 46 ∨ q = 47 ∨ q = 48 ∨ q = 49 ∨ q = 50 := by omega
    all_goals rfl)) h17 (Or.inr (fun t ht z => neg1 (by omega) (z.trans h19'))) (fun t ht z => absurd (z.trans h19') (neg1 (by omega))) hc
  refine ⟨_, ?_, s_kp45 (j := 16) (v := v) rfl, by rw [up_rd, if_neg (by omega)]; exact h17, fun q hq => up_ne hq⟩
  rw [h, h19']
  unfold sayV wouldV
  rw [ev_noflat hn (fun t ht => (hT.2.2.2 t ht).2) (fun t ht => neg1 (by omega)) 24 t 0 ht]
theorem say_val {n t c : Nat} {S : tb_St} (hT : jTS n S) (ht : t < n) : valR (sayV S t c) := by
  have hn := hT.1
  unfold sayV wouldV
  exact ev_val hn (fun t ht => (hT.2.2.2 t ht).2) (Or.inl (Or.inl rfl)) (fun t ht z => absurd z (neg1 (by omega))) 24 t 0 ht
theorem kp_jts {n : Nat} {S T : tb_St} (hT : jTS n S) (h : tb_Kp S T) : jTS n T := by
  unfold jTS at *
  rw [h.p 2 rfl, h.p 3 rfl, h.p 4 rfl, h.p 5 rfl, h.p 6 rfl, h.p 7 rfl, h.p 8 rfl, h.p 9 rfl, h.p 46 rfl, h.p 47 rfl, h.p 48 rfl, h.p 49 rfl, h.p 50 rfl, h.p 51 rfl, h.p 52 rfl, h.f 0 rfl]
  exact hT
theorem case_or (x : Int32) : (∃ c, c < 224 ∧ x = nI c) ∨ ¬ (0 ≤ x ∧ x ≤ 223) := by
  by_cases h : 0 ≤ x ∧ x ≤ 223
  · obtain ⟨k, hk, e⟩ := n_of_le (n := 223) h.1 h.2 (by omega)
    exact Or.inl ⟨k, by omega, e⟩
  · exact Or.inr h
theorem case_b {c : Nat} (h : c < 224) : 0 ≤ nI c ∧ nI c ≤ 223 := ⟨n_nn (by omega), (n_le (b := 223) (by omega) (by omega)).mpr (by omega)⟩
theorem p_says : ∀ a b : Int32, tb_PI mX7_says mX8_says [.int a, .int b] := by
  intro a b
  refine tb_PI_ask (fun S hJ => ?_)
  obtain ⟨n, hT⟩ := hJ.1
  have hn := hT.1
  have hT' : jTS n S := hT
  rcases term_or (n := n) (by omega) a with ⟨t, ht, rfl⟩ | hx
  · rcases case_or b with ⟨c, hc, rfl⟩ | hy
    · refine ⟨sayV S t c, ?_, fun T hJT hk => ?_⟩
      · obtain ⟨S', h1, h2, h3, h4⟩ := c_open (d := 95) hT' ht
        obtain ⟨S'', g1, g2, g3, g4⟩ := c_ask (d := 94) (c := c) hT' ht h2 h3 hc
        refine ⟨S'', MX7_says ?_, kp_of (fun q q1 q2 q3 q4 => (g4 q q4).trans (h4 q q1 q2 q3))⟩
        rw [c_hasY hn hT.2.1 ht]
        simp only [Option.bind_some, one0, if_false]
        rw [s_isCase, b2_t (case_b hc)]
        simp only [Option.bind_some, one0, not_false_eq_true, if_true, h1, g1]
      · have e0 : (tb_up T 45 17 (-1)) 45 0 = nI n := by rw [up_rd, if_neg (by omega), hk.f 0 rfl]; exact hT.2.2.1
        obtain ⟨T', g1, g2, g3, g4⟩ := r_ask (d := 72) (t := t) (c := c) hT' ht (hk.trans (s_kp45 (j := 17) (v := -1) rfl)) hJ.2.2.2.2.2.2.2 (by rw [up_rd, if_pos ⟨rfl, rfl⟩]) hc
        refine ⟨T', MX8_says ?_, ?_⟩
        · rw [r_termY hn e0 ht]
          simp only [Option.bind_some, one0, if_false]
          rw [s_isCaseR, b2_t (case_b hc)]
          simp only [Option.bind_some, one0, if_false, g1]
        · exact (s_kp45 (j := 17) (v := -1) rfl).trans g2
    · refine ⟨-1, ⟨S, MX7_says ?_, tb_Kp.refl⟩, fun T hJT hk => ⟨tb_up T 45 17 (-1), MX8_says ?_, s_kp45 rfl⟩⟩
      · rw [c_hasY hn hT.2.1 ht]
        simp only [Option.bind_some, one0, if_false]
        rw [s_isCase, b2_f hy]
        simp only [Option.bind_some, not_true_eq_false, if_false]
      · rw [r_termY hn (by rw [up_rd, if_neg (by omega), hk.f 0 rfl]; exact hT.2.2.1) ht]
        simp only [Option.bind_some, one0, if_false]
        rw [s_isCaseR, b2_f hy]
        simp only [Option.bind_some, if_true]
  · refine ⟨-1, ⟨S, MX7_says ?_, tb_Kp.refl⟩, fun T hJT hk => ⟨tb_up T 45 17 (-1), MX8_says ?_, s_kp45 rfl⟩⟩
    · rw [c_hasN hT.2.1 hx]
      simp only [Option.bind_some, if_true]
    · rw [r_termN hn (by rw [up_rd, if_neg (by omega), hk.f 0 rfl]; exact hT.2.2.1) hx]
      simp only [Option.bind_some, if_true]
