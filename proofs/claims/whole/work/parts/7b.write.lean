/-! Part 7b: pair: spell -/
theorem apC_ne2 (a : List Nat) (p : Nat) (S : tb_St) (q : Nat) (h : q < 36) : apC a p S q = S q := apC_ne a p S q (by omega) (by omega)
theorem apR_ne2 (a : List Nat) (p : Nat) (S : tb_St) (q : Nat) (h : q ≠ 45) (h2 : q ≠ 62) : apR a p S q = S q := by
  funext i
  exact apR_ne a p S q i (by omega) h2
theorem app5 (a b c e f : List Nat) (p : Nat) (S : tb_St) : apC (a ++ (b ++ (c ++ (e ++ f)))) p S = apC f (p + a.length + b.length + c.length + e.length) (apC e (p + a.length + b.length + c.length) (apC c (p + a.length + b.length) (apC b (p + a.length) (apC a p S)))) := by
  rw [apC_app, apC_app, apC_app, apC_app]
theorem app6 (a b c e f g : List Nat) (p : Nat) (S : tb_St) : apC (a ++ (b ++ (c ++ (e ++ (f ++ g))))) p S = apC g (p + a.length + b.length + c.length + e.length + f.length) (apC f (p + a.length + b.length + c.length + e.length) (apC e (p + a.length + b.length + c.length) (apC c (p + a.length + b.length) (apC b (p + a.length) (apC a p S))))) := by
  rw [apC_app, apC_app, apC_app, apC_app, apC_app]
theorem rpp5 (a b c e f : List Nat) (p : Nat) (S : tb_St) : apR (a ++ (b ++ (c ++ (e ++ f)))) p S = apR f (p + a.length + b.length + c.length + e.length) (apR e (p + a.length + b.length + c.length) (apR c (p + a.length + b.length) (apR b (p + a.length) (apR a p S)))) := by
  rw [apR_app, apR_app, apR_app, apR_app]
theorem rpp6 (a b c e f g : List Nat) (p : Nat) (S : tb_St) : apR (a ++ (b ++ (c ++ (e ++ (f ++ g))))) p S = apR g (p + a.length + b.length + c.length + e.length + f.length) (apR f (p + a.length + b.length + c.length + e.length) (apR e (p + a.length + b.length + c.length) (apR c (p + a.length + b.length) (apR b (p + a.length) (apR a p S))))) := by
  rw [apR_app, apR_app, apR_app, apR_app, apR_app]
theorem letN_lt (k : Int32) : letN k < 128 := by
  unfold letN
  repeat' split
  all_goals decide
theorem c_sign {d : Nat} {S : tb_St} {k : Int32} (h : k = 2 ∨ k = 3 ∨ k = 4 ∨ k = 5 ∨ k = 6 ∨ k = 7) : tb_cI (d + 1) mX2_signOf [.ref 36, .int k] S = some (nI (letN k), S) := by
  rcases h with rfl | rfl | rfl | rfl | rfl | rfl <;> exact MX2_signOf rfl
theorem r_sign {d : Nat} {S : tb_St} {k : Int32} (h : k = 2 ∨ k = 3 ∨ k = 4 ∨ k = 5 ∨ k = 6 ∨ k = 7) : tb_cI (d + 1) mX8_letterOf [.int k] S = some (nI (letN k), S) := by
  rcases h with rfl | rfl | rfl | rfl | rfl | rfl <;> exact MX8_letterOf rfl
section Head
variable {d p t m : Nat} {S : tb_St}
theorem c_hd1 {k : Nat} {r : tb_St} (ht : t < 24) (hk : k < 6) (h5 : S 5 t = nI m) (hm : m ≤ 999999) (h : S 36 2 = nI p) (hp : p < 470) (hr : tb_E (d + 1) mX2_writeHead tb_dV 17 [.ref 36, .int (nI t), .int (nI (k + 1))] [] tb_S (apC [48 + figM m k] p S) = some r) : tb_E (d + 1) mX2_writeHead tb_dV 17 [.ref 36, .int (nI t), .int (nI k)] [] tb_S S = some r := by
  have hl := fig_lt m k
  refine BX2_writeHead_17 ?_
  rw [if_neg (show ¬ (6 : Int32) ≤ nI k from n_nle (a := 6) (by omega) (by omega) hk), n_ix ht (by omega)]
  simp only [Option.bind_some]
  rw [h5, c_fig (by omega) (by omega)]
  simp only [Option.bind_some]
  rw [n48 (by omega), c_wb h hp (by omega)]
  simp only [Option.bind_some, n_inc]
  exact hr
theorem c_hd6 {r : tb_St} (ht : t < 24) (h5 : S 5 t = nI m) (hm : m ≤ 999999) (h : S 36 2 = nI p) (hp : p + 6 ≤ 470) (hr : tb_E (d + 1) mX2_writeHead tb_dV 17 [.ref 36, .int (nI t), .int (nI 6)] [] tb_S (apC (boxT m) p S) = some r) : tb_E (d + 1) mX2_writeHead tb_dV 17 [.ref 36, .int (nI t), .int (0 : Int32)] [] tb_S S = some r := by
  have n1 := apC_n [48 + figM m 0] p S h
  have n2 := apC_n [48 + figM m 1] _ _ n1
  have n3 := apC_n [48 + figM m 2] _ _ n2
  have n4 := apC_n [48 + figM m 3] _ _ n3
  have n5 := apC_n [48 + figM m 4] _ _ n4
  simp only [List.length_cons, List.length_nil, Nat.zero_add] at n1 n2 n3 n4 n5
  refine c_hd1 (k := 0) ht (by omega) h5 hm h (by omega) ?_
  refine c_hd1 (k := 1) ht (by omega) (by rw [apC_ne2 _ _ _ 5 (by omega)]; exact h5) hm n1 (by omega) ?_
  refine c_hd1 (k := 2) ht (by omega) (by rw [apC_ne2 _ _ _ 5 (by omega), apC_ne2 _ _ _ 5 (by omega)]; exact h5) hm n2 (by omega) ?_
  refine c_hd1 (k := 3) ht (by omega) (by rw [apC_ne2 _ _ _ 5 (by omega), apC_ne2 _ _ _ 5 (by omega), apC_ne2 _ _ _ 5 (by omega)]; exact h5) hm n3 (by omega) ?_
  refine c_hd1 (k := 4) ht (by omega) (by rw [apC_ne2 _ _ _ 5 (by omega), apC_ne2 _ _ _ 5 (by omega), apC_ne2 _ _ _ 5 (by omega), apC_ne2 _ _ _ 5 (by omega)]; exact h5) hm n4 (by omega) ?_
  refine c_hd1 (k := 5) ht (by omega) (by rw [apC_ne2 _ _ _ 5 (by omega), apC_ne2 _ _ _ 5 (by omega), apC_ne2 _ _ _ 5 (by omega), apC_ne2 _ _ _ 5 (by omega), apC_ne2 _ _ _ 5 (by omega)]; exact h5) hm n5 (by omega) ?_
  exact hr
theorem c_headB (ht : t < 24) (h3 : ¬ S 3 t = 6) (h5 : S 5 t = nI m) (hm : m ≤ 999999) (h : S 36 2 = nI p) (hp : p + 6 ≤ 470) : tb_cV (d + 2) mX2_writeHead [.ref 36, .int (nI t)] S = some (apC (boxT m) p S) := by
  refine MX2_writeHead ?_
  rw [n_ix ht (by omega)]
  simp only [Option.bind_some]
  rw [h5, if_pos (n5n m (by omega))]
  refine c_hd6 ht h5 hm h hp ?_
  refine BX2_writeHead_17 ?_
  rw [if_pos (by decide), n_ix ht (by omega)]
  simp only [Option.bind_some]
  rw [apC_ne2 _ _ _ 3 (by omega), if_pos h3]
theorem c_headC {v : Nat} (ht : t < 24) (h3 : S 3 t = 6) (h5 : S 5 t = nI m) (hm : m ≤ 999999) (h4 : S 4 t = nI v) (hv : v ≤ 99) (h : S 36 2 = nI p) (hp : p + 7 + (feeT v).length ≤ 470) : tb_cV (d + 4) mX2_writeHead [.ref 36, .int (nI t)] S = some (apC (feeT v) (p + (boxT m).length + [58].length) (apC [58] (p + (boxT m).length) (apC (boxT m) p S))) := by
  have n1 := apC_n (boxT m) p S h
  have n2 := apC_n [58] _ _ n1
  have bl : (boxT m).length = 6 := rfl
  refine MX2_writeHead ?_
  rw [n_ix ht (by omega)]
  simp only [Option.bind_some]
  rw [h5, if_pos (n5n m (by omega))]
  refine c_hd6 ht h5 hm h (by omega) ?_
  refine BX2_writeHead_17 ?_
  rw [if_pos (by decide), n_ix ht (by omega)]
  simp only [Option.bind_some]
  rw [apC_ne2 _ _ _ 3 (by omega), h3, if_neg (fun z => z rfl), show (58 : Int32) = nI 58 from rfl, c_wb n1 (by omega) (by omega)]
  simp only [Option.bind_some]
  rw [apC_ne2 _ _ _ 4 (by omega), apC_ne2 _ _ _ 4 (by omega), h4, c_wfee n2 (by show p + (boxT m).length + 1 + _ ≤ 470; omega) hv]
  rfl
theorem c_head0 (ht : t < 24) (h5 : S 5 t = -5) : tb_cV (d + 1) mX2_writeHead [.ref 36, .int (nI t)] S = some S := by
  refine MX2_writeHead ?_
  rw [n_ix ht (by omega)]
  simp only [Option.bind_some]
  rw [h5, if_neg (fun z => z rfl)]
end Head
section Term
variable {K F B O T Z : Nat → Int32} {n d : Nat}
theorem c_wt (hw : ∀ t, t < n → wfT K F B O T Z t) : ∀ f t dep p S, t < f → dep + f ≤ 24 → t < n → tabs K F B O T Z n S → S 36 2 = nI p → p + (txt K F B O T f t).length ≤ 470 → tb_cV (d + f + 3) mX2_writeTerm [.ref 36, .int (nI t), .int (nI dep)] S = some (apC (txt K F B O T f t) p S) := by
  intro f
  induction f with
  | zero => intro t dep p S h; omega
  | succ f ih =>
    intro t dep p S hf hdep ht hT hp0 hp
    obtain ⟨hn, h27, hK, hF, hB, hO, hTT, hZ⟩ := hT
    have hT : tabs K F B O T Z n S := ⟨hn, h27, hK, hF, hB, hO, hTT, hZ⟩
    have ix : tb_ix (nI t) 24 = some t := n_ix (by omega) (by omega)
    have hd24 : nI dep < (24 : Int32) := (n_lt (b := 24) (by omega) (by omega)).mpr (by omega)
    have kT : ∀ a p, tabs K F B O T Z n (apC a p S) := fun a p => hT.keep (fun q hq => apC_ne2 _ _ _ q (by omega))
    show tb_cV (d + f + 3 + 1) mX2_writeTerm [.ref 36, .int (nI t), .int (nI dep)] S = _
    refine MX2_writeTerm ?_
    rw [c_hasY hn h27 ht]
    simp only [Option.bind_some, one0, if_false]
    rw [if_pos hd24, ix]
    simp only [Option.bind_some]
    rw [hK]
    rcases hw t ht with ⟨k, ⟨v, hv, fv⟩, -, -, -, -⟩ | ⟨k, -, -, -, -, -⟩ | ⟨k, -, bx, -, a, z, ha, o, -, -, -, -⟩ | ⟨k, ⟨v, hv, fv⟩, bx, -, a, z, ha, o, -, -, -, -⟩ | ⟨k, -, bx, a, b, z, w, ha, hb, o, o2, -, -, -, -, -, -⟩
    · have e : txt K F B O T (f + 1) t = feeT v := by
        rw [txt_succ, if_pos k, fv, nI_clamp (by omega)]
      rw [e] at hp ⊢
      rw [k, if_neg (fun z => z rfl), hF, fv, c_wfee hp0 hp hv]
      rfl
    · have e : txt K F B O T (f + 1) t = [45] := by
        rw [txt_succ, if_neg (by rw [k]; decide), if_pos k]
      rw [e] at hp ⊢
      have hs : tb_cI (d + f + 3) mX2_signOf [.ref 36, .int (1 : Int32)] S = some (nI 45, S) := MX2_signOf rfl
      rw [k, if_pos (by decide), hs]
      simp only [Option.bind_some]
      rw [c_wb hp0 (by simp at hp; omega) (by omega)]
      simp only [Option.bind_some]
      rw [if_neg (by decide)]
    · obtain ⟨bm, hbm⟩ := boxOK_le bx
      generalize (B t).toNatClampNeg = m at bm hbm
      have e : txt K F B O T (f + 1) t = [letN 2] ++ (boxT m ++ ([40] ++ (txt K F B O T f a ++ [41]))) := by
        rw [txt_succ, if_neg (by rw [k]; decide), if_neg (by rw [k]; decide), if_pos k, k, bm, o, nI_clamp (by omega), nI_clamp (by omega)]
        rfl
      rw [e] at hp ⊢
      have bl : (boxT m).length = 6 := rfl
      simp only [List.length_cons, List.length_append, List.length_nil, bl] at hp
      have n1 := apC_n [letN 2] p S hp0
      have n2 := apC_n (boxT m) _ _ n1
      have n3 := apC_n [40] _ _ n2
      have n4 := apC_n (txt K F B O T f a) _ _ n3
      rw [app5]
      rw [k, if_pos (by decide), c_sign (Or.inl rfl)]
      simp only [Option.bind_some]
      rw [c_wb hp0 (by omega) (letN_lt 2)]
      simp only [Option.bind_some]
      rw [if_pos (by decide), c_headB (p := p + [letN 2].length) (m := m) (by omega) (by rw [apC_ne2 _ _ _ 3 (by omega), hK, k]; decide) (by rw [apC_ne2 _ _ _ 5 (by omega), hB]; exact bm) hbm n1 (by show p + 1 + 6 ≤ 470; omega)]
      simp only [Option.bind_some]
      rw [show (40 : Int32) = nI 40 from rfl, c_wb n2 (by show p + 1 + 6 < 470; omega) (by omega)]
      simp only [Option.bind_some]
      rw [apC_ne2 _ _ _ 6 (by omega), apC_ne2 _ _ _ 6 (by omega), apC_ne2 _ _ _ 6 (by omega), hO, o, n_inc]
      rw [ih a (dep + 1) _ _ (by omega) (by omega) (by omega) (hT.keep (fun q hq => by rw [apC_ne2 _ _ _ q (by omega), apC_ne2 _ _ _ q (by omega), apC_ne2 _ _ _ q (by omega)])) n3 (by show p + 1 + 6 + 1 + _ ≤ 470; omega)]
      simp only [Option.bind_some]
      rw [c_isOfTwo, b2_f (by decide)]
      simp only [Option.bind_some, if_true]
      rw [show (41 : Int32) = nI 41 from rfl, c_wb n4 (by show p + 1 + 6 + 1 + _ < 470; omega) (by omega)]
      rfl
    · obtain ⟨bm, hbm⟩ := boxOK_le bx
      generalize (B t).toNatClampNeg = m at bm hbm
      have e : txt K F B O T (f + 1) t = [letN 6] ++ (boxT m ++ ([58] ++ (feeT v ++ ([40] ++ (txt K F B O T f a ++ [41]))))) := by
        rw [txt_succ, if_neg (by rw [k]; decide), if_neg (by rw [k]; decide), if_neg (by rw [k]; decide), if_pos k, k, bm, fv, o, nI_clamp (by omega), nI_clamp (by omega), nI_clamp (by omega)]
        rfl
      rw [e] at hp ⊢
      have bl : (boxT m).length = 6 := rfl
      simp only [List.length_cons, List.length_append, List.length_nil, bl] at hp
      have n1 := apC_n [letN 6] p S hp0
      have n2 := apC_n (boxT m) _ _ n1
      have n3 := apC_n [58] _ _ n2
      have n4 := apC_n (feeT v) _ _ n3
      have n5 := apC_n [40] _ _ n4
      have n6 := apC_n (txt K F B O T f a) _ _ n5
      rw [apC_app, apC_app, apC_app, apC_app, apC_app, apC_app]
      rw [k, if_pos (by decide), c_sign (by decide)]
      simp only [Option.bind_some]
      rw [c_wb hp0 (by omega) (letN_lt 6)]
      simp only [Option.bind_some]
      rw [if_pos (by decide)]
      have hh := c_headC (d := d + f - 1) (p := p + [letN 6].length) (t := t) (m := m) (v := v) (S := apC [letN 6] p S) (by omega) (by rw [apC_ne2 _ _ _ 3 (by omega), hK, k]) (by rw [apC_ne2 _ _ _ 5 (by omega), hB]; exact bm) hbm (by rw [apC_ne2 _ _ _ 4 (by omega), hF]; exact fv) hv n1 (by show p + 1 + 7 + _ ≤ 470; omega)
      rw [show d + f - 1 + 4 = d + f + 3 by omega] at hh
      rw [hh]
      simp only [Option.bind_some]
      rw [show (40 : Int32) = nI 40 from rfl, c_wb n4 (by show p + 1 + 6 + 1 + _ < 470; omega) (by omega)]
      simp only [Option.bind_some]
      rw [apC_ne2 _ _ _ 6 (by omega), apC_ne2 _ _ _ 6 (by omega), apC_ne2 _ _ _ 6 (by omega), apC_ne2 _ _ _ 6 (by omega), apC_ne2 _ _ _ 6 (by omega), hO, o, n_inc]
      rw [ih a (dep + 1) _ _ (by omega) (by omega) (by omega) (hT.keep (fun q hq => by rw [apC_ne2 _ _ _ q (by omega), apC_ne2 _ _ _ q (by omega), apC_ne2 _ _ _ q (by omega), apC_ne2 _ _ _ q (by omega), apC_ne2 _ _ _ q (by omega)])) n5 (by show p + 1 + 6 + 1 + _ + 1 + _ ≤ 470; omega)]
      simp only [Option.bind_some]
      rw [c_isOfTwo, b2_f (by decide)]
      simp only [Option.bind_some, if_true]
      rw [show (41 : Int32) = nI 41 from rfl, c_wb n6 (by show p + 1 + 6 + 1 + _ + 1 + _ < 470; omega) (by omega)]
      rfl
    · have k0 : ¬ K t = 0 ∧ ¬ K t = 1 ∧ ¬ K t = 2 ∧ ¬ K t = 6 := by
        rcases k with k | k | k | k <;> rw [k] <;> decide
      have e : txt K F B O T (f + 1) t = [letN (K t)] ++ ([40] ++ (txt K F B O T f a ++ ([44] ++ (txt K F B O T f b ++ [41])))) := by
        rw [txt_succ, if_neg k0.1, if_neg k0.2.1, if_neg k0.2.2.1, if_neg k0.2.2.2, o, o2, nI_clamp (by omega), nI_clamp (by omega)]
        rfl
      rw [e] at hp ⊢
      simp only [List.length_cons, List.length_append, List.length_nil] at hp
      have n1 := apC_n [letN (K t)] p S hp0
      have n2 := apC_n [40] _ _ n1
      have n3 := apC_n (txt K F B O T f a) _ _ n2
      have n4 := apC_n [44] _ _ n3
      have n5 := apC_n (txt K F B O T f b) _ _ n4
      rw [app6]
      rw [if_pos k0.1, c_sign (by rcases k with k | k | k | k <;> rw [k] <;> decide)]
      simp only [Option.bind_some]
      rw [c_wb hp0 (by omega) (letN_lt _)]
      simp only [Option.bind_some]
      rw [if_pos k0.2.1, c_head0 (by omega) (by rw [apC_ne2 _ _ _ 5 (by omega), hB]; exact bx)]
      simp only [Option.bind_some]
      rw [show (40 : Int32) = nI 40 from rfl, c_wb n1 (by show p + 1 < 470; omega) (by omega)]
      simp only [Option.bind_some]
      rw [apC_ne2 _ _ _ 6 (by omega), apC_ne2 _ _ _ 6 (by omega), hO, o, n_inc]
      rw [ih a (dep + 1) _ _ (by omega) (by omega) (by omega) (hT.keep (fun q hq => by rw [apC_ne2 _ _ _ q (by omega), apC_ne2 _ _ _ q (by omega)])) n2 (by show p + 1 + 1 + _ ≤ 470; omega)]
      simp only [Option.bind_some]
      rw [c_isOfTwo, b2_t k]
      simp only [Option.bind_some, one0, if_false]
      rw [show (44 : Int32) = nI 44 from rfl, c_wb n3 (by show p + 1 + 1 + _ < 470; omega) (by omega)]
      simp only [Option.bind_some]
      rw [apC_ne2 _ _ _ 7 (by omega), apC_ne2 _ _ _ 7 (by omega), apC_ne2 _ _ _ 7 (by omega), apC_ne2 _ _ _ 7 (by omega), hTT, o2]
      rw [ih b (dep + 1) _ _ (by omega) (by omega) (by omega) (hT.keep (fun q hq => by rw [apC_ne2 _ _ _ q (by omega), apC_ne2 _ _ _ q (by omega), apC_ne2 _ _ _ q (by omega), apC_ne2 _ _ _ q (by omega)])) n4 (by show p + 1 + 1 + _ + 1 + _ ≤ 470; omega)]
      simp only [Option.bind_some]
      rw [show (41 : Int32) = nI 41 from rfl, c_wb n5 (by show p + 1 + 1 + _ + 1 + _ < 470; omega) (by omega)]
      rfl
end Term
