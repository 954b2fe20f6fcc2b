/-! Part 7c: pair: spell -/
theorem r_ofOne {d : Nat} {x : Int32} {S : tb_St} : tb_cI (d + 1) mX8_ofOne [.int x] S = some (b2 (x = 2 ∨ x = 6), S) := by
  refine MX8_ofOne ?_
  unfold b2
  repeat' split
  all_goals (first | rfl | (exfalso; grind))
section Head
variable {d p t m : Nat} {S : tb_St} {x2 : Int32}
theorem r_hd1 {k : Nat} {r : tb_St} (ht : t < 96) (hk : k < 6) (h2 : x2 = 2 ∨ x2 = 6) (h5 : S 50 t = nI m) (hm : m ≤ 999999) (h : S 45 30 = nI p) (hp : p < 700) (hr : tb_E (d + 1) mX8_spells tb_dV 44 [.ref 45, .int (nI t), .int x2, .int (nI (k + 1))] [] tb_S (apR [48 + figM m k] p S) = some r) : tb_E (d + 1) mX8_spells tb_dV 44 [.ref 45, .int (nI t), .int x2, .int (nI k)] [] tb_S S = some r := by
  have hl := fig_lt m k
  refine BX8_spells_44 ?_
  rw [if_neg (show ¬ (6 : Int32) ≤ nI k from n_nle (a := 6) (by omega) (by omega) hk), r_ofOne, b2_t h2]
  simp only [Option.bind_some, one0, if_false]
  rw [n_ix ht (by omega)]
  simp only [Option.bind_some]
  rw [h5, r_fig (by omega) (by omega)]
  simp only [Option.bind_some]
  rw [n48 (by omega), r_wb h hp]
  simp only [Option.bind_some, n_inc]
  exact hr
theorem r_hd6 {r : tb_St} (ht : t < 96) (h2 : x2 = 2 ∨ x2 = 6) (h5 : S 50 t = nI m) (hm : m ≤ 999999) (h : S 45 30 = nI p) (hp : p + 6 ≤ 700) (hr : tb_E (d + 1) mX8_spells tb_dV 80 [.ref 45, .int (nI t), .int x2, .int (nI 6)] [] tb_S (apR (boxT m) p S) = some r) : tb_E (d + 1) mX8_spells tb_dV 44 [.ref 45, .int (nI t), .int x2, .int (0 : Int32)] [] tb_S S = some r := by
  have n1 := apR_n [48 + figM m 0] p S h
  have n2 := apR_n [48 + figM m 1] _ _ n1
  have n3 := apR_n [48 + figM m 2] _ _ n2
  have n4 := apR_n [48 + figM m 3] _ _ n3
  have n5 := apR_n [48 + figM m 4] _ _ n4
  simp only [List.length_cons, List.length_nil, Nat.zero_add] at n1 n2 n3 n4 n5
  refine r_hd1 (k := 0) ht (by omega) h2 h5 hm h (by omega) ?_
  refine r_hd1 (k := 1) ht (by omega) h2 (by rw [apR_ne2 _ _ _ 50 (by omega) (by omega)]; exact h5) hm n1 (by omega) ?_
  refine r_hd1 (k := 2) ht (by omega) h2 (by rw [apR_ne2 _ _ _ 50 (by omega) (by omega), apR_ne2 _ _ _ 50 (by omega) (by omega)]; exact h5) hm n2 (by omega) ?_
  refine r_hd1 (k := 3) ht (by omega) h2 (by rw [apR_ne2 _ _ _ 50 (by omega) (by omega), apR_ne2 _ _ _ 50 (by omega) (by omega), apR_ne2 _ _ _ 50 (by omega) (by omega)]; exact h5) hm n3 (by omega) ?_
  refine r_hd1 (k := 4) ht (by omega) h2 (by rw [apR_ne2 _ _ _ 50 (by omega) (by omega), apR_ne2 _ _ _ 50 (by omega) (by omega), apR_ne2 _ _ _ 50 (by omega) (by omega), apR_ne2 _ _ _ 50 (by omega) (by omega)]; exact h5) hm n4 (by omega) ?_
  refine r_hd1 (k := 5) ht (by omega) h2 (by rw [apR_ne2 _ _ _ 50 (by omega) (by omega), apR_ne2 _ _ _ 50 (by omega) (by omega), apR_ne2 _ _ _ 50 (by omega) (by omega), apR_ne2 _ _ _ 50 (by omega) (by omega), apR_ne2 _ _ _ 50 (by omega) (by omega)]; exact h5) hm n5 (by omega) ?_
  refine BX8_spells_44 ?_
  rw [if_pos (by decide)]
  exact hr
end Head
section Term
variable {K F B O T Z : Nat → Int32} {n d : Nat}
theorem rtab_ap {S : tb_St} (h : rtab K F B O T n S) (a : List Nat) (p : Nat) : rtab K F B O T n (apR a p S) := h.keep (fun q h1 h2 => apR_ne2 _ _ _ q (by omega) (by omega))
theorem r_wt (hw : ∀ t, t < n → wfT K F B O T Z t) : ∀ f t p S, t < f → t < n → rtab K F B O T n S → S 45 30 = nI p → p + (txt K F B O T f t).length ≤ 470 → tb_cV (d + f + 3) mX8_spells [.ref 45, .int (nI t)] S = some (apR (txt K F B O T f t) p S) := by
  intro f
  induction f with
  | zero => intro t p S h; omega
  | succ f ih =>
    intro t p S hf ht hT hp0 hp
    have hn := hT.1
    obtain ⟨tK, tF, tO, tT, tB⟩ := hT.2 t ht
    have ix : tb_ix (nI t) 96 = some t := n_ix (by omega) (by omega)
    show tb_cV (d + f + 3 + 1) mX8_spells [.ref 45, .int (nI t)] S = _
    refine MX8_spells ?_
    rw [ix]
    simp only [Option.bind_some]
    rw [tK]
    rcases hw t ht with ⟨k, ⟨v, hv, fv⟩, -, -, -, -⟩ | ⟨k, -, -, -, -, -⟩ | ⟨k, -, bx, -, a, z, ha, o, -, -, -, -⟩ | ⟨k, ⟨v, hv, fv⟩, bx, -, a, z, ha, o, -, -, -, -⟩ | ⟨k, -, bx, a, b, z, w, ha, hb, o, o2, -, -, -, -, -, -⟩
    · have e : txt K F B O T (f + 1) t = feeT v := by
        rw [txt_succ, if_pos k, fv, nI_clamp (by omega)]
      rw [e] at hp ⊢
      rw [k, if_neg (by decide), tF, fv, r_wfee hp0 (by omega) hv]
      rfl
    · have e : txt K F B O T (f + 1) t = [45] := by
        rw [txt_succ, if_neg (by rw [k]; decide), if_pos k]
      rw [e] at hp ⊢
      rw [k, if_pos (by decide), if_neg (by decide), show (45 : Int32) = nI 45 from rfl, r_wb hp0 (by simp at hp; omega)]
      rfl
    · obtain ⟨bm, hbm⟩ := boxOK_le bx
      generalize (B t).toNatClampNeg = m at bm hbm
      have e : txt K F B O T (f + 1) t = [letN 2] ++ (boxT m ++ ([40] ++ (txt K F B O T f a ++ [41]))) := by
        rw [txt_succ, if_neg (by rw [k]; decide), if_neg (by rw [k]; decide), if_pos k, k, bm, o, nI_clamp (by omega), nI_clamp (by omega)]
        rfl
      rw [e] at hp ⊢
      have bl : (boxT m).length = 6 := rfl
      simp only [List.length_cons, List.length_append, List.length_nil, bl] at hp
      have n1 := apR_n [letN 2] p S hp0
      have n2 := apR_n (boxT m) _ _ n1
      have n3 := apR_n [40] _ _ n2
      have n4 := apR_n (txt K F B O T f a) _ _ n3
      rw [rpp5]
      rw [k, if_pos (by decide), if_pos (by decide), r_sign (Or.inl rfl)]
      simp only [Option.bind_some]
      rw [r_wb hp0 (by omega)]
      simp only [Option.bind_some]
      refine r_hd6 (p := p + [letN 2].length) (m := m) (by omega) (Or.inl rfl) (by rw [apR_ne2 _ _ _ 50 (by omega) (by omega), tB]; exact bm) hbm n1 (by show p + 1 + 6 ≤ 700; omega) ?_
      refine BX8_spells_80 ?_
      rw [if_pos (by decide)]
      refine BX8_spells_102 ?_
      rw [show (40 : Int32) = nI 40 from rfl, r_wb n2 (by show p + 1 + 6 < 700; omega)]
      simp only [Option.bind_some]
      rw [ix]
      simp only [Option.bind_some]
      rw [apR_ne2 _ _ _ 48 (by omega) (by omega), apR_ne2 _ _ _ 48 (by omega) (by omega), apR_ne2 _ _ _ 48 (by omega) (by omega), tO, o]
      rw [ih a _ _ (by omega) (by omega) (rtab_ap (rtab_ap (rtab_ap hT _ _) _ _) _ _) n3 (by show p + 1 + 6 + 1 + _ ≤ 470; omega)]
      simp only [Option.bind_some]
      rw [r_ofTwo, b2_f (by decide)]
      simp only [Option.bind_some, if_true]
      rw [show (41 : Int32) = nI 41 from rfl, r_wb n4 (by show p + 1 + 6 + 1 + _ < 700; omega)]
      rfl
    · obtain ⟨bm, hbm⟩ := boxOK_le bx
      generalize (B t).toNatClampNeg = m at bm hbm
      have e : txt K F B O T (f + 1) t = [letN 6] ++ (boxT m ++ ([58] ++ (feeT v ++ ([40] ++ (txt K F B O T f a ++ [41]))))) := by
        rw [txt_succ, if_neg (by rw [k]; decide), if_neg (by rw [k]; decide), if_neg (by rw [k]; decide), if_pos k, k, bm, fv, o, nI_clamp (by omega), nI_clamp (by omega), nI_clamp (by omega)]
        rfl
      rw [e] at hp ⊢
      have bl : (boxT m).length = 6 := rfl
      simp only [List.length_cons, List.length_append, List.length_nil, bl] at hp
      have n1 := apR_n [letN 6] p S hp0
      have n2 := apR_n (boxT m) _ _ n1
      have n3 := apR_n [58] _ _ n2
      have n4 := apR_n (feeT v) _ _ n3
      have n5 := apR_n [40] _ _ n4
      have n6 := apR_n (txt K F B O T f a) _ _ n5
      rw [apR_app, apR_app, apR_app, apR_app, apR_app, apR_app]
      rw [k, if_pos (by decide), if_pos (by decide), r_sign (by decide)]
      simp only [Option.bind_some]
      rw [r_wb hp0 (by omega)]
      simp only [Option.bind_some]
      refine r_hd6 (p := p + [letN 6].length) (m := m) (by omega) (Or.inr rfl) (by rw [apR_ne2 _ _ _ 50 (by omega) (by omega), tB]; exact bm) hbm n1 (by show p + 1 + 6 ≤ 700; omega) ?_
      refine BX8_spells_80 ?_
      rw [if_neg (by decide), show (58 : Int32) = nI 58 from rfl, r_wb n2 (by show p + 1 + 6 < 700; omega)]
      simp only [Option.bind_some]
      rw [ix]
      simp only [Option.bind_some]
      rw [apR_ne2 _ _ _ 47 (by omega) (by omega), apR_ne2 _ _ _ 47 (by omega) (by omega), apR_ne2 _ _ _ 47 (by omega) (by omega), tF, fv, r_wfee n3 (by show p + 1 + 6 + 1 + _ ≤ 700; omega) hv]
      simp only [Option.bind_some]
      refine BX8_spells_102 ?_
      rw [show (40 : Int32) = nI 40 from rfl, r_wb n4 (by show p + 1 + 6 + 1 + _ < 700; omega)]
      simp only [Option.bind_some]
      rw [ix]
      simp only [Option.bind_some]
      rw [apR_ne2 _ _ _ 48 (by omega) (by omega), apR_ne2 _ _ _ 48 (by omega) (by omega), apR_ne2 _ _ _ 48 (by omega) (by omega), apR_ne2 _ _ _ 48 (by omega) (by omega), apR_ne2 _ _ _ 48 (by omega) (by omega), tO, o]
      rw [ih a _ _ (by omega) (by omega) (rtab_ap (rtab_ap (rtab_ap (rtab_ap (rtab_ap hT _ _) _ _) _ _) _ _) _ _) n5 (by show p + 1 + 6 + 1 + _ + 1 + _ ≤ 470; omega)]
      simp only [Option.bind_some]
      rw [r_ofTwo, b2_f (by decide)]
      simp only [Option.bind_some, if_true]
      rw [show (41 : Int32) = nI 41 from rfl, r_wb n6 (by show p + 1 + 6 + 1 + _ + 1 + _ < 700; omega)]
      rfl
    · have k0 : ¬ K t = 0 ∧ ¬ K t = 1 ∧ ¬ K t = 2 ∧ ¬ K t = 6 := by
        rcases k with k | k | k | k <;> rw [k] <;> decide
      have e : txt K F B O T (f + 1) t = [letN (K t)] ++ ([40] ++ (txt K F B O T f a ++ ([44] ++ (txt K F B O T f b ++ [41])))) := by
        rw [txt_succ, if_neg k0.1, if_neg k0.2.1, if_neg k0.2.2.1, if_neg k0.2.2.2, o, o2, nI_clamp (by omega), nI_clamp (by omega)]
        rfl
      rw [e] at hp ⊢
      simp only [List.length_cons, List.length_append, List.length_nil] at hp
      have n1 := apR_n [letN (K t)] p S hp0
      have n2 := apR_n [40] _ _ n1
      have n3 := apR_n (txt K F B O T f a) _ _ n2
      have n4 := apR_n [44] _ _ n3
      have n5 := apR_n (txt K F B O T f b) _ _ n4
      rw [rpp6]
      rw [if_pos k0.1, if_pos k0.2.1, r_sign (by rcases k with k | k | k | k <;> rw [k] <;> decide)]
      simp only [Option.bind_some]
      rw [r_wb hp0 (by omega)]
      simp only [Option.bind_some]
      refine BX8_spells_44 ?_
      rw [if_neg (by decide), r_ofOne, b2_f (fun z => z.elim k0.2.2.1 k0.2.2.2)]
      simp only [Option.bind_some, if_true]
      refine BX8_spells_80 ?_
      rw [if_pos k0.2.2.2]
      refine BX8_spells_102 ?_
      rw [show (40 : Int32) = nI 40 from rfl, r_wb n1 (by show p + 1 < 700; omega)]
      simp only [Option.bind_some]
      rw [ix]
      simp only [Option.bind_some]
      rw [apR_ne2 _ _ _ 48 (by omega) (by omega), apR_ne2 _ _ _ 48 (by omega) (by omega), tO, o]
      rw [ih a _ _ (by omega) (by omega) (rtab_ap (rtab_ap hT _ _) _ _) n2 (by show p + 1 + 1 + _ ≤ 470; omega)]
      simp only [Option.bind_some]
      rw [r_ofTwo, b2_t (by rcases k with k | k | k | k <;> rw [k] <;> decide)]
      simp only [Option.bind_some, one0, if_false]
      rw [show (44 : Int32) = nI 44 from rfl, r_wb n3 (by show p + 1 + 1 + _ < 700; omega)]
      simp only [Option.bind_some]
      rw [apR_ne2 _ _ _ 49 (by omega) (by omega), apR_ne2 _ _ _ 49 (by omega) (by omega), apR_ne2 _ _ _ 49 (by omega) (by omega), apR_ne2 _ _ _ 49 (by omega) (by omega), tT, o2]
      rw [ih b _ _ (by omega) (by omega) (rtab_ap (rtab_ap (rtab_ap (rtab_ap hT _ _) _ _) _ _) _ _) n4 (by show p + 1 + 1 + _ + 1 + _ ≤ 470; omega)]
      simp only [Option.bind_some]
      rw [show (41 : Int32) = nI 41 from rfl, r_wb n5 (by show p + 1 + 1 + _ + 1 + _ < 700; omega)]
      rfl
end Term
theorem p_spell : ∀ a : Int32, tb_PI mX7_spell mX8_spell [.int a] := by
  intro a S hJ
  obtain ⟨n, hT⟩ := hJ.1
  have hn := hT.1
  have hT' : jTS n S := hT
  rcases term_or (n := n) (by omega) a with ⟨t, ht, rfl⟩ | hx
  · have hlen : (txt (S 3) (S 4) (S 5) (S 6) (S 7) 24 t).length ≤ 470 := by
      have h1 := txt_len (jts_w hT') hn 24 t ht
      have h2 := jts_z hT' ht
      omega
    have c1 := c_wt (d := 71) (jts_w hT') 24 t 0 0 (tb_up S 36 2 0) (by omega) (by omega) ht (n := n) ⟨hn, hT.2.1, rfl, rfl, rfl, rfl, rfl, rfl⟩ (by rw [up_rd, if_pos ⟨rfl, rfl⟩]; rfl) (by omega)
    have c2 := apC_n (txt (S 3) (S 4) (S 5) (S 6) (S 7) 24 t) 0 (tb_up S 36 2 0) (by rw [up_rd, if_pos ⟨rfl, rfl⟩]; rfl)
    have c3 := apC_rd (txt (S 3) (S 4) (S 5) (S 6) (S 7) 24 t) 0 (tb_up S 36 2 0)
    have c4 : ∀ q, q ≠ 36 → q ≠ 37 → apC (txt (S 3) (S 4) (S 5) (S 6) (S 7) 24 t) 0 (tb_up S 36 2 0) q = S q := fun q h1 h2 => by rw [apC_ne _ _ _ q h1 h2, up_ne h1]
    generalize apC (txt (S 3) (S 4) (S 5) (S 6) (S 7) 24 t) 0 (tb_up S 36 2 0) = U at c1 c2 c3 c4
    have r1 := r_wt (d := 72) (jts_w hT') 24 t 0 (tb_up U 45 30 0) (by omega) ht ((r_tab hT' (fun q h1 h2 => c4 q (by omega) (by omega))).keep (fun q h1 h2 => up_ne (by omega))) (by rw [up_rd, if_pos ⟨rfl, rfl⟩]; rfl) (by omega)
    have r2 := apR_n (txt (S 3) (S 4) (S 5) (S 6) (S 7) 24 t) 0 (tb_up U 45 30 0) (by rw [up_rd, if_pos ⟨rfl, rfl⟩]; rfl)
    have r3 := apR_rd (txt (S 3) (S 4) (S 5) (S 6) (S 7) 24 t) 0 (tb_up U 45 30 0)
    have r4 : ∀ q i, ¬ (q = 45 ∧ i = 30) → q ≠ 62 → apR (txt (S 3) (S 4) (S 5) (S 6) (S 7) 24 t) 0 (tb_up U 45 30 0) q i = U q i := fun q i h1 h2 => by rw [apR_ne _ _ _ q i h1 h2, up_rd, if_neg h1]
    generalize apR (txt (S 3) (S 4) (S 5) (S 6) (S 7) 24 t) 0 (tb_up U 45 30 0) = W at r1 r2 r3 r4
    generalize txt (S 3) (S 4) (S 5) (S 6) (S 7) 24 t = L at *
    rw [Nat.zero_add] at c2 r2
    have hq : ∀ q, q ≠ 36 → q ≠ 37 → q ≠ 45 → q ≠ 62 → W q = S q := fun q h1 h2 h3 h4 => by
      rw [← c4 q h1 h2]
      funext i
      exact r4 q i (fun z => h3 z.1) h4
    have p1 : ∀ q, q < 36 → W q = S q := fun q h => hq q (by omega) (by omega) (by omega) (by omega)
    have p2 : ∀ q, 37 < q → q < 45 → W q = S q := fun q h h' => hq q (by omega) (by omega) (by omega) (by omega)
    have p3 : ∀ q, 45 < q → q < 62 → W q = S q := fun q h h' => hq q (by omega) (by omega) (by omega) (by omega)
    have p4 : ∀ q, 62 < q → W q = S q := fun q h => hq q (by omega) (by omega) (by omega) (by omega)
    have p5 : ∀ i, i ≠ 30 → W 45 i = S 45 i := fun i h => by rw [r4 45 i (by omega) (by omega), c4 45 (by omega) (by omega)]
    refine ⟨nI L.length, U, W, MX7_spell ?_, c4 0 (by omega) (by omega), MX8_spell ?_, p1 0 (by omega), ?_⟩
    · rw [c_hasY hn hT.2.1 ht]
      simp only [Option.bind_some, one0, not_false_eq_true, if_true]
      have hwr : tb_cI 99 mX2_write [.ref 36, .int (nI t)] S = some (nI L.length, U) := by
        refine MX2_write ?_
        have c1' : tb_cV 98 mX2_writeTerm [.ref 36, .int (nI t), .int (0 : Int32)] (tb_up S 36 2 0) = some U := c1
        rw [c1']
        simp only [Option.bind_some]
        rw [c2]
      rw [hwr]
      rfl
    · rw [r_termY hn (by rw [c4 45 (by omega) (by omega)]; exact hT.2.2.1) ht]
      simp only [Option.bind_some, one0, not_false_eq_true, if_true]
      have r1' : tb_cV 99 mX8_spells [.ref 45, .int (nI t)] (tb_up U 45 30 0) = some W := r1
      rw [r1']
      simp only [Option.bind_some]
      rw [r2]
    · refine ⟨?_, ?_, ?_, ?_, ?_, ?_, ?_, ?_⟩
      · have h := hJ.1
        simpa (disch := omega) only [p1, p3, p5] using h
      · have h := hJ.2.1
        simpa (disch := omega) only [p1, p4, p5] using h
      · have h := hJ.2.2.1
        simpa (disch := omega) only [p1, p3, p5] using h
      · have h := hJ.2.2.2.1
        simpa (disch := omega) only [p1, p3, p5] using h
      · have h := hJ.2.2.2.2.1
        simpa (disch := omega) only [p1, p3, p5] using h
      · refine ⟨L.length, hlen, ?_, r2, fun k hk => ?_⟩
        · have h := r4 36 2 (by omega) (by omega)
          rw [h, c2]
        · rw [r3 k, if_pos (by omega), r4 37 k (by omega) (by omega), c3 k, if_pos (by omega)]
      · intro q hq4
        have h := hJ.2.2.2.2.2.2.1 q hq4
        rw [p2 44 (by omega) (by omega), p4 64 (by omega), p2 (40 + q) (by omega) (by omega), p4 65 (by omega)]
        exact h
      · rw [p5 19 (by omega)]
        exact hJ.2.2.2.2.2.2.2
  · refine ⟨-1, S, S, MX7_spell ?_, rfl, MX8_spell ?_, rfl, hJ⟩
    · rw [c_hasN hT.2.1 hx]
      simp only [Option.bind_some, not_true_eq_false, if_false]
    · rw [r_termN hn hT.2.2.1 hx]
      simp only [Option.bind_some, not_true_eq_false, if_false]
