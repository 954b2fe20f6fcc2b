/-! Part 7k: reading: a term: both (named ones, made ones) -/
section Sim
variable {n len w g p m : Nat} {tp : Nat → Int32} {S T : tb_St}
theorem popC {v : Int32} (h7 : S 32 7 = -1) (h10 : S 32 10 = nI (w + 1)) {d : Nat} {w1 w2 w3 w4 : Value} : tb_E d mX4_readTerm tb_dI 141 [.ref 32, w1, w2, w3, w4] [.int v] tb_S S = some (v, tb_up S 32 10 (nI w)) := by
  refine BX4_readTerm_141 ?_
  rw [if_neg (fun z => z h7), h10]
  have e : nI (w + 1) - (1 : Int32) = nI w := nI_pred w
  rw [e]
theorem popD {v : Int32} (h7 : ¬ S 32 7 = -1) {d : Nat} {w1 w2 w3 w4 : Value} : tb_E d mX4_readTerm tb_dI 141 [.ref 32, w1, w2, w3, w4] [.int v] tb_S S = some (v, S) := by
  refine BX4_readTerm_141 ?_
  rw [if_pos h7]
theorem Rb.popC (h : Rb n len tp p m S T) : Rb n len tp p m (tb_up S 32 10 (nI w)) T := by
  obtain ⟨a1, a2, a3, a4, a5, a6, a7, a8, a9⟩ := h
  exact ⟨⟨a1.1, a1.2.1, by rw [up_rd, if_neg (by omega)]; exact a1.2.2.1, by rw [up_rd, if_neg (by omega)]; exact a1.2.2.2.1, fun j hj => by rw [up_ne (by omega)]; exact a1.2.2.2.2 j hj⟩, a2, a3, a4, by rw [up_rd, if_neg (by omega)]; exact a5, by rw [up_rd, if_neg (by omega)]; exact a6, a7, a8, a9.cg (by rw [up_rd, if_neg (by omega)]) (fun q _ _ => up_ne (by omega)) (fun _ _ _ => rfl)⟩
theorem Rb.popR (h : Rb n len tp p m S T) : Rb n len tp p m S (tb_up T 45 24 (nI w)) := by
  obtain ⟨a1, a2, a3, a4, a5, a6, a7, a8, a9⟩ := h
  exact ⟨a1, ⟨a2.1, a2.2.1, by rw [up_rd, if_neg (by omega)]; exact a2.2.2.1, by rw [up_rd, if_neg (by omega)]; exact a2.2.2.2.1, fun j hj => by rw [up_ne (by omega)]; exact a2.2.2.2.2 j hj⟩, a3, a4, a5, a6, by rw [up_rd, if_neg (by omega)]; exact a7, by rw [up_rd, if_neg (by omega)]; exact a8, a9.cg rfl (fun _ _ _ => rfl) (fun q _ _ => up_ne (by omega))⟩
theorem St.pop (h : St (w + 1) S T) : St w (tb_up S 32 10 (nI w)) (tb_up T 45 24 (nI w)) := by
  obtain ⟨s1, s2, s3, s4⟩ := h
  exact ⟨by omega, by rw [up_rd, if_pos ⟨rfl, rfl⟩], by rw [up_rd, if_pos ⟨rfl, rfl⟩], fun j hj => by rw [up_ne (by omega), up_ne (by omega)]; exact s4 j (by omega)⟩
/-- a term of the tables, named -/
theorem sim_hash (h : Rb n len tp p m S T) (hS : St w S T) (hw : w ≤ 6) (hch : chA len p tp = 35) :
    ∃ y S' y' T', (∀ d, tb_cI (d + 2 * g + 8) mX4_readTerm [.ref 32, .int (nI w)] S = some (y, S')) ∧ (∀ d, tb_cI (d + g + 8) mX8_term [.ref 45, .int (nI w)] T = some (y', T')) ∧ OutT n len tp p m w S T y S' y' T' := by
  have hp := ch_lt hch (by decide)
  have e5 := h.1.2.2.2.1
  have e23 := h.2.1.2.2.2.1
  have e10 := hS.2.1
  have e24 := hS.2.2.1
  obtain ⟨h1, hS1, cA, rB, kA, fA⟩ := sim_push h hS hw hp
  have hC : ∀ d r, (tb_cI (d + 2 * g + 7) mX4_readNamed [.ref 32] (pushC S w p)).bind (fun q129 => tb_E (d + 2 * g + 7) mX4_readTerm tb_dI 141 [.ref 32, .int (nI w), .int (35 : Int32), .int (8 : Int32), tb_jk] [.int (q129.1)] tb_S (q129.2)) = some r → tb_cI (d + 2 * g + 8) mX4_readTerm [.ref 32, .int (nI w)] S = some r := by
    intro d r hr
    refine MX4_readTerm (d := d + 2 * g + 7) ?_
    rw [c_here h.1, hch]
    simp only [Option.bind_some]
    rw [c_isFig, b2_f (by decide)]
    simp only [Option.bind_some, if_true]
    rw [if_pos (by decide), c_kind35]
    simp only [Option.bind_some]
    rw [if_neg (by decide), e10, if_pos (show nI w ≤ (6 : Int32) from (n_le (b := 6) (by omega) (by omega)).mpr hw), n_ix (by omega) (by omega)]
    simp only [Option.bind_some]
    rw [if_neg (by decide), e5, n_inc, n_inc]
    exact hr
  have hR : ∀ d r, (tb_cI (d + g + 7) mX8_number [.ref 45] (pushR T w p)).bind (fun q115 => (if 0 ≤ q115.1 then (tb_cI (d + g + 7) mX8_isTerm [.ref 45, .int (q115.1)] (q115.2)).bind fun q127 => (if ¬ q127.1 = 0 then (tb_cI (d + g + 7) mX8_ends [.ref 45, .int (q115.1)] (tb_up (q127.2) 45 24 (((q127.2) 45 24) - (1 : Int32)))).bind fun q152 => some (q152.1, q152.2) else some ((-1 : Int32), tb_up (q127.2) 45 28 (nI (p + 1)))) else some ((-1 : Int32), q115.2))) = some r → tb_cI (d + g + 8) mX8_term [.ref 45, .int (nI w)] T = some r := by
    intro d r hr
    refine MX8_term (d := d + g + 7) ?_
    rw [r_isFig h.2.1, hch, b2_f (by decide)]
    simp only [Option.bind_some, if_true]
    rw [r_next h.2.1, hch]
    simp only [Option.bind_some]
    rw [if_pos (by decide), r_next h.2.1, hch]
    simp only [Option.bind_some]
    rw [if_neg (by decide), e24, n_ix (by omega) (by omega)]
    simp only [Option.bind_some]
    rw [e23, n_inc, n_inc]
    exact hr
  generalize pushC S w p = A at *
  generalize pushR T w p = B at *
  have hl := h1.1.1
  have hp1 := h1.1.2.1
  have a7 := h1.2.2.2.2.2.1
  have a6 := h1.2.2.2.2.1
  have a5 := h1.1.2.2.2.1
  rcases fig_or (chA len (p + 1) tp) with ⟨v, hv, hch2⟩ | hch2
  · obtain ⟨x, p', hx, hq1, hq2, n1, n2⟩ := num_ok h1.1 h1.2.1 hch2 hv
    have h2 := h1.to (p' := p') (by omega) hq2
    have hS2 := hS1.to (p' := p')
    have kA2 : KW A (tb_up A 32 5 (nI p')) := KW.up32 (by omega)
    have cA2 : CF A (tb_up A 32 5 (nI p')) := CF.up32
    have rB2 : RF B (tb_up B 45 23 (nI p')) := RF.up45 (by omega)
    have fA2 : tb_up A 32 5 (nI p') 32 8 = A 32 8 := by rw [up_rd, if_neg (by omega)]
    generalize tb_up A 32 5 (nI p') = A2 at *
    generalize tb_up B 45 23 (nI p') = B2 at *
    have b7 := h2.2.2.2.2.2.1
    have b6 := h2.2.2.2.2.1
    have hn := h2.2.2.2.1
    have t0 := h2.2.2.2.2.2.2.1
    by_cases hxn : x < n
    · have hN : ∀ d, tb_cI (d + 3) mX4_readNamed [.ref 32] A = some (nI x, A2) := by
        intro d
        refine MX4_readNamed (d := d + 2) ?_
        rw [n1]
        simp only [Option.bind_some]
        rw [if_neg (fun z => z b7), b6, if_pos ((n_lt (by omega) (by omega)).mpr hxn), if_neg (fun z => z b7)]
      have hC2 : ∀ d, tb_cI (d + 2 * g + 8) mX4_readTerm [.ref 32, .int (nI w)] S = some (nI x, tb_up A2 32 10 (nI w)) := by
        intro d
        refine hC d _ ?_
        rw [hN]
        simp only [Option.bind_some]
        exact popC b7 hS2.2.1
      have hpop : B2 45 24 - (1 : Int32) = nI w := by rw [hS2.2.2.1]; exact nI_pred w
      have hR2 : ∀ d r, tb_cI (d + g + 7) mX8_ends [.ref 45, .int (nI x)] (tb_up B2 45 24 (nI w)) = some r → tb_cI (d + g + 8) mX8_term [.ref 45, .int (nI w)] T = some r := by
        intro d r hr
        refine hR d r ?_
        rw [n2]
        simp only [Option.bind_some]
        rw [if_pos (nI0 x (by omega)), r_termY hn t0 hxn]
        simp only [Option.bind_some, one0, not_false_eq_true, if_true]
        rw [hpop, hr]
        rfl
      have h3 := (h2.popC (w := w)).popR (w := w)
      have hS3 := hS2.pop
      have cU : CF S (tb_up A2 32 10 (nI w)) := (cA.trans cA2).trans CF.up32
      have rU : RF T (tb_up B2 45 24 (nI w)) := (rB.trans rB2).trans (RF.up45 (by omega))
      by_cases h3f : 48 ≤ chA len p' tp ∧ chA len p' tp ≤ 57
      · refine ⟨nI x, tb_up A2 32 10 (nI w), -1, tb_up (tb_up B2 45 24 (nI w)) 45 28 (nI p'), hC2, fun d => hR2 d _ (r_endN h3.2.1 hx h3f), cU, rU.trans (RF.up45 (by omega)), Or.inr (Or.inl ⟨rfl, p', tp, h3.1, h3f, h3.2.2.2.2.1, h3.2.2.2.2.2.1, by rw [up_rd, if_pos ⟨rfl, rfl⟩], hS3.up28, h3.2.2.2.2.2.2.2.2.old.up28⟩)⟩
      · refine ⟨nI x, tb_up A2 32 10 (nI w), nI x, tb_up B2 45 24 (nI w), hC2, fun d => hR2 d _ (r_endY h3.2.1 hx h3f), cU, rU, Or.inr (Or.inr ⟨p', m, x, by omega, by omega, h3, hS3, (kA.trans kA2).trans (KW.up32 (by omega)), rfl, by omega, fun z => ⟨?_, rfl⟩⟩)⟩
        rw [up_rd, if_neg (by omega), fA2, fA] at z
        exact z
    · obtain ⟨U, f1, f2, f3, f4⟩ := flt_at (f := p + 1) h2 hS2 (by omega)
      have hN : ∀ d, tb_cI (d + 3) mX4_readNamed [.ref 32] A = some (-1, U) := by
        intro d
        refine MX4_readNamed (d := d + 2) ?_
        rw [n1]
        simp only [Option.bind_some]
        rw [if_neg (fun z => z b7), b6, if_neg (fun z => hxn ((n_lt (by omega) (by omega)).mp z)), a5, f1]
        simp only [Option.bind_some]
        rw [if_pos f4]
      refine ⟨-1, U, -1, tb_up B2 45 28 (nI (p + 1)), fun d => hC d _ ?_, fun d => hR d _ ?_, (cA.trans cA2).trans f3, (rB.trans rB2).trans (RF.up45 (by omega)), Or.inl ⟨rfl, f2⟩⟩
      · rw [hN]
        simp only [Option.bind_some]
        exact popD f4
      · rw [n2]
        simp only [Option.bind_some]
        rw [if_pos (nI0 x (by omega)), r_termN hn t0 (fun z => hxn ((n_lt (by omega) (by omega)).mp z.2))]
        simp only [Option.bind_some, not_true_eq_false, if_false]
  · obtain ⟨U, f1, f2, f3, f4⟩ := flt_at (f := p + 1) h1 hS1 (by omega)
    have hN : ∀ d, tb_cI (d + 3) mX4_readNamed [.ref 32] A = some (-1, U) := by
      intro d
      refine MX4_readNamed (d := d + 2) ?_
      rw [num_noC h1.1 hch2 (f1 _)]
      simp only [Option.bind_some]
      rw [if_pos f4, if_pos f4]
    refine ⟨-1, U, -1, tb_up B 45 28 (nI (p + 1)), fun d => hC d _ ?_, fun d => hR d _ ?_, cA.trans f3, rB.trans (RF.up45 (by omega)), Or.inl ⟨rfl, f2⟩⟩
    · rw [hN]
      simp only [Option.bind_some]
      exact popD f4
    · rw [num_noR h1.2.1 hch2]
      simp only [Option.bind_some]
      rw [if_neg not0m1]
/-- a term made of others -/
theorem sim_sign (hI : w = 6 ∨ (w < 6 ∧ ∃ g', g = g' + 1 ∧ SimH n len tp g' (w + 1))) (h : Rb n len tp p m S T) (hS : St w S T) (hw : w ≤ 6) (hf : ¬ (48 ≤ chA len p tp ∧ chA len p tp ≤ 57)) (h45 : ¬ chA len p tp = 45) (h35 : ¬ chA len p tp = 35) (hk : kindS (chA len p tp) = 2 ∨ kindS (chA len p tp) = 3 ∨ kindS (chA len p tp) = 4 ∨ kindS (chA len p tp) = 5 ∨ kindS (chA len p tp) = 6 ∨ kindS (chA len p tp) = 7) (h0 : ¬ chA len p tp = 0) :
    ∃ y S' y' T', (∀ d, tb_cI (d + 2 * g + 8) mX4_readTerm [.ref 32, .int (nI w)] S = some (y, S')) ∧ (∀ d, tb_cI (d + g + 8) mX8_term [.ref 45, .int (nI w)] T = some (y', T')) ∧ OutT n len tp p m w S T y S' y' T' := by
  have hp := ch_lt rfl h0
  have e5 := h.1.2.2.2.1
  have e23 := h.2.1.2.2.2.1
  have e10 := hS.2.1
  have e24 := hS.2.2.1
  obtain ⟨h1, hS1, cA, rB, kA, fA⟩ := sim_push h hS hw hp
  have hkm : ¬ kindS (chA len p tp) = -1 := by
    rcases hk with hk | hk | hk | hk | hk | hk <;> rw [hk] <;> decide
  have hk8 : ¬ kindS (chA len p tp) = 8 := by
    rcases hk with hk | hk | hk | hk | hk | hk <;> rw [hk] <;> decide
  have hk0 : 0 ≤ kindS (chA len p tp) := by
    rcases hk with hk | hk | hk | hk | hk | hk <;> rw [hk] <;> decide
  have hC : ∀ d r, (tb_cI (d + 2 * g + 7) mX4_readComposed [.ref 32, .int (kindS (chA len p tp)), .int (nI w)] (pushC S w p)).bind (fun q138 => tb_E (d + 2 * g + 7) mX4_readTerm tb_dI 141 [.ref 32, .int (nI w), .int (chA len p tp), .int (kindS (chA len p tp)), tb_jk] [.int (q138.1)] tb_S (q138.2)) = some r → tb_cI (d + 2 * g + 8) mX4_readTerm [.ref 32, .int (nI w)] S = some r := by
    intro d r hr
    refine MX4_readTerm (d := d + 2 * g + 7) ?_
    rw [c_here h.1]
    simp only [Option.bind_some]
    rw [c_isFig, b2_f hf]
    simp only [Option.bind_some, if_true]
    rw [if_pos h45, c_kind h35]
    simp only [Option.bind_some]
    rw [if_neg hkm, e10, if_pos (show nI w ≤ (6 : Int32) from (n_le (b := 6) (by omega) (by omega)).mpr hw), n_ix (by omega) (by omega)]
    simp only [Option.bind_some]
    rw [if_pos hk8, e5, n_inc, n_inc]
    exact hr
  obtain ⟨v, U, v', V, a1, a2, a3, a4, a5⟩ := sim_comp (g := g) hI hk h1 hS1
  have hR : ∀ d, tb_cI (d + g + 8) mX8_term [.ref 45, .int (nI w)] T = some (v', V) := by
    intro d
    refine MX8_term (d := d + g + 7) ?_
    rw [r_isFig h.2.1, b2_f hf]
    simp only [Option.bind_some, if_true]
    rw [r_next h.2.1]
    simp only [Option.bind_some]
    rw [if_pos h45, r_next h.2.1]
    simp only [Option.bind_some]
    rw [if_pos h35, r_next h.2.1]
    simp only [Option.bind_some]
    rw [r_kind]
    simp only [Option.bind_some]
    rw [if_pos hk0, e24, n_ix (by omega) (by omega)]
    simp only [Option.bind_some]
    rw [e23, n_inc, n_inc]
    exact a2 d
  rcases a5 with ⟨z1, z2⟩ | ⟨q', m', y, l1, l2, l3, l4, l5, l6, l7, l8, l9, l10⟩
  · refine ⟨v, U, v', V, fun d => hC d _ ?_, hR, cA.trans a3, rB.trans a4, Or.inl ⟨z1, z2⟩⟩
    rw [a1]
    simp only [Option.bind_some]
    exact popD z2.ne
  · refine ⟨v, tb_up U 32 10 (nI w), v', V, fun d => hC d _ ?_, hR, (cA.trans a3).trans CF.up32, rB.trans a4, Or.inr (Or.inr ⟨q', m', y, by omega, by omega, l3.popC, ⟨by omega, by rw [up_rd, if_pos ⟨rfl, rfl⟩], l5, fun j hj => by rw [up_ne (by omega)]; exact l6 j hj⟩, (kA.trans l7).trans (KW.up32 (by omega)), l8, l9, fun z => ?_⟩)⟩
    · rw [a1]
      simp only [Option.bind_some]
      exact popC l3.2.2.2.2.2.1 l4
    · rw [up_rd, if_neg (by omega)] at z
      exact ⟨by rw [← fA]; exact (l10 z).1, (l10 z).2⟩
end Sim
theorem sim_all {n len : Nat} {tp : Nat → Int32} : ∀ g w, w + g = 6 → SimH n len tp g w := by
  intro g
  induction g with
  | zero =>
    intro w hw p m S T h hS
    obtain rfl : w = 6 := by omega
    rcases fig_or (chA len p tp) with ⟨v, hv, hch⟩ | hf
    · exact sim_fig (g := 0) (w := 6) h hS hv hch
    by_cases h45 : chA len p tp = 45
    · exact sim_void (g := 0) (w := 6) h hS h45
    by_cases h35 : chA len p tp = 35
    · exact sim_hash (g := 0) (w := 6) h hS (by omega) h35
    rcases kindS_or (chA len p tp) with ⟨hk, h0⟩ | hk
    · exact sim_sign (g := 0) (w := 6) (Or.inl rfl) h hS (by omega) hf h45 h35 hk h0
    · exact sim_bad (g := 0) (w := 6) h hS hf h45 h35 hk
  | succ g ih =>
    intro w hw p m S T h hS
    rcases fig_or (chA len p tp) with ⟨v, hv, hch⟩ | hf
    · exact sim_fig (g := g + 1) (w := w) h hS hv hch
    by_cases h45 : chA len p tp = 45
    · exact sim_void (g := g + 1) (w := w) h hS h45
    by_cases h35 : chA len p tp = 35
    · exact sim_hash (g := g + 1) (w := w) h hS (by omega) h35
    rcases kindS_or (chA len p tp) with ⟨hk, h0⟩ | hk
    · exact sim_sign (g := g + 1) (w := w) (Or.inr ⟨by omega, g, rfl, ih (w + 1) (by omega)⟩) h hS (by omega) hf h45 h35 hk h0
    · exact sim_bad (g := g + 1) (w := w) h hS hf h45 h35 hk
