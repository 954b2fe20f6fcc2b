/-! Part 7j: reading: a term: both -/
def kindS (x : Int32) : Int32 := if x = 33 then 7 else if x = 43 then 4 else if x = 47 then 3 else if x = 60 then 5 else if x = 63 then 2 else if x = 94 then 6 else -1
theorem kindS_or (x : Int32) : (kindS x = 2 ∨ kindS x = 3 ∨ kindS x = 4 ∨ kindS x = 5 ∨ kindS x = 6 ∨ kindS x = 7) ∧ ¬ x = 0 ∨ kindS x = -1 := by
  unfold kindS
  by_cases h1 : x = 33
  · subst h1; decide
  by_cases h2 : x = 43
  · subst h2; decide
  by_cases h3 : x = 47
  · subst h3; decide
  by_cases h4 : x = 60
  · subst h4; decide
  by_cases h5 : x = 63
  · subst h5; decide
  by_cases h6 : x = 94
  · subst h6; decide
  · rw [if_neg h1, if_neg h2, if_neg h3, if_neg h4, if_neg h5, if_neg h6]
    exact Or.inr rfl
theorem c_kind {d : Nat} {x : Int32} {S : tb_St} (h : ¬ x = 35) : tb_cI (d + 1) mX4_kindBySign [.ref 32, .int x] S = some (kindS x, S) := by
  refine MX4_kindBySign ?_
  unfold kindS
  rw [if_neg h]
  repeat' split
  all_goals rfl
theorem c_kind35 {d : Nat} {S : tb_St} : tb_cI (d + 1) mX4_kindBySign [.ref 32, .int (35 : Int32)] S = some (8, S) := MX4_kindBySign rfl
theorem r_kind {d : Nat} {x : Int32} {S : tb_St} : tb_cI (d + 1) mX8_kindOf [.int x] S = some (kindS x, S) := by
  refine MX8_kindOf ?_
  unfold kindS
  repeat' split
  all_goals rfl
def pushC (S : tb_St) (w p : Nat) : tb_St := tb_up (tb_up (tb_up S 35 w (nI p)) 32 10 (nI (w + 1))) 32 5 (nI (p + 1))
def pushR (T : tb_St) (w p : Nat) : tb_St := tb_up (tb_up (tb_up T 45 24 (nI (w + 1))) 60 w (nI p)) 45 23 (nI (p + 1))
section Term
variable {n len w g p m : Nat} {tp : Nat → Int32} {S T : tb_St}
theorem sim_push (h : Rb n len tp p m S T) (hS : St w S T) (hw : w ≤ 6) (hp : p < len) : Rb n len tp (p + 1) m (pushC S w p) (pushR T w p) ∧ St (w + 1) (pushC S w p) (pushR T w p) ∧ CF S (pushC S w p) ∧ RF T (pushR T w p) ∧ KW S (pushC S w p) ∧ pushC S w p 32 8 = S 32 8 := by
  obtain ⟨a1, a2, a3, a4, a5, a6, a7, a8, a9⟩ := h
  obtain ⟨s1, s2, s3, s4⟩ := hS
  have hm : Rb n len tp p m (tb_up (tb_up S 35 w (nI p)) 32 10 (nI (w + 1))) (tb_up (tb_up T 45 24 (nI (w + 1))) 60 w (nI p)) := by
    refine ⟨⟨a1.1, a1.2.1, ?_, ?_, fun j hj => ?_⟩, ⟨a2.1, a2.2.1, ?_, ?_, fun j hj => ?_⟩, a3, a4, ?_, ?_, ?_, ?_, a9.cg ?_ (fun q _ _ => ?_) (fun q _ _ => ?_)⟩
    · rw [up_rd, if_neg (by omega), up_ne (by omega)]; exact a1.2.2.1
    · rw [up_rd, if_neg (by omega), up_ne (by omega)]; exact a1.2.2.2.1
    · rw [up_ne (by omega), up_ne (by omega)]; exact a1.2.2.2.2 j hj
    · rw [up_ne (by omega), up_rd, if_neg (by omega)]; exact a2.2.2.1
    · rw [up_ne (by omega), up_rd, if_neg (by omega)]; exact a2.2.2.2.1
    · rw [up_ne (by omega), up_ne (by omega)]; exact a2.2.2.2.2 j hj
    · rw [up_rd, if_neg (by omega), up_ne (by omega)]; exact a5
    · rw [up_rd, if_neg (by omega), up_ne (by omega)]; exact a6
    · rw [up_ne (by omega), up_rd, if_neg (by omega)]; exact a7
    · rw [up_ne (by omega), up_rd, if_neg (by omega)]; exact a8
    · rw [up_rd, if_neg (by omega), up_ne (by omega)]
    · rw [up_ne (by omega), up_ne (by omega)]
    · rw [up_ne (by omega), up_ne (by omega)]
  have hs : St (w + 1) (tb_up (tb_up S 35 w (nI p)) 32 10 (nI (w + 1))) (tb_up (tb_up T 45 24 (nI (w + 1))) 60 w (nI p)) := by
    refine ⟨by omega, by rw [up_rd, if_pos ⟨rfl, rfl⟩], by rw [up_ne (by omega), up_rd, if_pos ⟨rfl, rfl⟩], fun j hj => ?_⟩
    rw [up_ne (by omega), up_rd, up_rd]
    by_cases e : j = w
    · rw [if_pos ⟨rfl, e⟩, if_pos ⟨rfl, e⟩]
    · rw [if_neg (fun z => e z.2), if_neg (fun z => e z.2), up_ne (by omega)]
      exact s4 j (by omega)
  refine ⟨hm.to (by omega) (by omega), hs.to, (CF.up35.trans CF.up32).trans CF.up32, ((RF.up45 (by omega)).trans RF.up60).trans (RF.up45 (by omega)), (KW.up35.trans (KW.up32 (by omega))).trans (KW.up32 (by omega)), ?_⟩
  unfold pushC
  rw [up_rd, if_neg (by omega), up_rd, if_neg (by omega), up_ne (by omega)]
theorem oldT.cut {n : Nat} {S T T' : tb_St} (h : oldT n S T) (hk : ∀ q, 46 ≤ q → q ≤ 52 → ∀ j, j < n → T' q j = T q j) : oldT n S T' := by
  obtain ⟨h1, h2, h3, h4, h5⟩ := h
  refine ⟨h1, h2, h3, h4, fun t ht => ?_⟩
  rw [hk 46 (by omega) (by omega) t ht, hk 47 (by omega) (by omega) t ht, hk 48 (by omega) (by omega) t ht, hk 49 (by omega) (by omega) t ht, hk 50 (by omega) (by omega) t ht, hk 51 (by omega) (by omega) t ht, hk 52 (by omega) (by omega) t ht]
  exact h5 t ht
/-- a number: FLAT -/
theorem sim_fig {v : Nat} (h : Rb n len tp p m S T) (hS : St w S T) (hv : v ≤ 9) (hch : chA len p tp = nI (48 + v)) :
    ∃ y S' y' T', (∀ d, tb_cI (d + 2 * g + 8) mX4_readTerm [.ref 32, .int (nI w)] S = some (y, S')) ∧ (∀ d, tb_cI (d + g + 8) mX8_term [.ref 45, .int (nI w)] T = some (y', T')) ∧ OutT n len tp p m w S T y S' y' T' := by
  obtain ⟨x, p', hx, hp1, hp2, n1, n2⟩ := num_ok h.1 h.2.1 hch hv
  have hmp := h.2.2.1
  have h1 := h.to (p' := p') (by omega) hp2
  have hS1 := hS.to (p' := p')
  have kA : KW S (tb_up S 32 5 (nI p')) := KW.up32 (by omega)
  have cA : CF S (tb_up S 32 5 (nI p')) := CF.up32
  have rB : RF T (tb_up T 45 23 (nI p')) := RF.up45 (by omega)
  have fA : tb_up S 32 5 (nI p') 32 8 = S 32 8 := by rw [up_rd, if_neg (by omega)]
  generalize tb_up S 32 5 (nI p') = A at *
  generalize tb_up T 45 23 (nI p') = B at *
  have hrec : recOK (A 8) (n + m) 0 (nI x) (-5) none none := Or.inl ⟨rfl, ⟨x, hx, rfl⟩, rfl, rfl, rfl⟩
  obtain ⟨y, U, V, m1, m2, m3, m4, m5, m6, m7, m8, m9⟩ := mk_pair (v1 := -5) (v2 := -5) h1 (by omega) hrec (fun _ => ⟨rfl, rfl⟩)
  have hC : ∀ d, tb_cI (d + 2 * g + 8) mX4_readTerm [.ref 32, .int (nI w)] S = some (y, U) := by
    intro d
    refine MX4_readTerm (d := d + 2 * g + 7) ?_
    rw [c_here h.1]
    simp only [Option.bind_some]
    rw [c_isFig, hch, b2_t (fig_in hv)]
    simp only [Option.bind_some, one0, if_false]
    rw [n1]
    simp only [Option.bind_some]
    rw [m1]
    rfl
  have hR : ∀ d r, (tb_cI (d + g + 7) mX8_ends [.ref 45, .int (nI x)] B).bind (fun q12 => (if 0 ≤ q12.1 then (tb_cI (d + g + 7) mX8_makes [.ref 45, .int (0 : Int32), .int (q12.1), .int (-5 : Int32), .int (-5 : Int32), .int (-5 : Int32)] (q12.2)).bind fun q33 => some (q33.1, q33.2) else some ((-1 : Int32), q12.2))) = some r → tb_cI (d + g + 8) mX8_term [.ref 45, .int (nI w)] T = some r := by
    intro d r hr
    refine MX8_term (d := d + g + 7) ?_
    rw [r_isFig h.2.1, hch, b2_t (fig_in hv)]
    simp only [Option.bind_some, one0, if_false]
    rw [n2]
    simp only [Option.bind_some]
    exact hr
  have cU : CF S U := cA.trans (fun q h1 h2 h3 h4 => m5 q h1 h2)
  have kU : KW S U := kA.trans ⟨m6 4 (by omega), m5 34 (by omega) (by omega)⟩
  by_cases h3 : 48 ≤ chA len p' tp ∧ chA len p' tp ≤ 57
  · refine ⟨y, U, -1, tb_up B 45 28 (nI p'), hC, fun d => hR d _ ?_, cU, rB.trans (RF.up45 (by omega)), Or.inr (Or.inl ⟨rfl, p', tp, m3.1, h3, m3.2.2.2.2.1, m3.2.2.2.2.2.1, by rw [up_rd, if_pos ⟨rfl, rfl⟩], ?_, ?_⟩)⟩
    · rw [r_endN h1.2.1 hx h3]
      simp only [Option.bind_some]
      rw [if_neg not0m1]
    · exact (hS1.cg (m6 10 (by omega)) (m5 35 (by omega) (by omega)) rfl rfl).up28
    · refine oldT.up28 ((m3.2.2.2.2.2.2.2.2.old).cut (fun q q1 q2 j hj => (m9 q q1 q2 j (by omega)).symm))
  · refine ⟨y, U, nI (n + m), V, hC, fun d => hR d _ ?_, cU, rB.trans ⟨fun q q1 q2 _ => m7 q q1 q2, fun i _ _ _ i4 => m8 i i4⟩, Or.inr (Or.inr ⟨p', m + 1, n + m, hp1, by omega, m3, ?_, kU, rfl, by omega, fun z => ?_⟩)⟩
    · rw [r_endY h1.2.1 hx h3]
      simp only [Option.bind_some]
      rw [if_pos (nI0 x (by omega))]
      have m2' : ∀ d, tb_cI (d + 2) mX8_makes [.ref 45, .int (0 : Int32), .int (nI x), .int (-5 : Int32), .int (-5 : Int32), .int (-5 : Int32)] B = some (nI (n + m), V) := m2
      rw [m2']
      rfl
    · exact hS1.cg (m6 10 (by omega)) (m5 35 (by omega) (by omega)) (m8 24 (by omega)) (m7 60 (by omega) (by omega))
    · rw [← fA]
      exact m4 z
/-- VOID -/
theorem sim_void (h : Rb n len tp p m S T) (hS : St w S T) (hch : chA len p tp = 45) :
    ∃ y S' y' T', (∀ d, tb_cI (d + 2 * g + 8) mX4_readTerm [.ref 32, .int (nI w)] S = some (y, S')) ∧ (∀ d, tb_cI (d + g + 8) mX8_term [.ref 45, .int (nI w)] T = some (y', T')) ∧ OutT n len tp p m w S T y S' y' T' := by
  have hp := ch_lt hch (by decide)
  have hmp := h.2.2.1
  have e5 := h.1.2.2.2.1
  have e23 := h.2.1.2.2.2.1
  have h1 := h.to (p' := p + 1) (by omega) (by omega)
  have hS1 := hS.to (p' := p + 1)
  have kA : KW S (tb_up S 32 5 (nI (p + 1))) := KW.up32 (by omega)
  have cA : CF S (tb_up S 32 5 (nI (p + 1))) := CF.up32
  have rB : RF T (tb_up T 45 23 (nI (p + 1))) := RF.up45 (by omega)
  have fA : tb_up S 32 5 (nI (p + 1)) 32 8 = S 32 8 := by rw [up_rd, if_neg (by omega)]
  have hrec : recOK (tb_up S 32 5 (nI (p + 1)) 8) (n + m) 1 (-5) (-5) none none := Or.inr (Or.inl ⟨rfl, rfl, rfl, rfl, rfl⟩)
  obtain ⟨y, U, V, m1, m2, m3, m4, m5, m6, m7, m8, -⟩ := mk_pair (v1 := -5) (v2 := -5) h1 (by omega) hrec (fun _ => ⟨rfl, rfl⟩)
  refine ⟨y, U, nI (n + m), V, fun d => MX4_readTerm (d := d + 2 * g + 7) ?_, fun d => MX8_term (d := d + g + 7) ?_, cA.trans (fun q h1 h2 h3 h4 => m5 q h1 h2), rB.trans ⟨fun q q1 q2 _ => m7 q q1 q2, fun i _ _ _ i4 => m8 i i4⟩, Or.inr (Or.inr ⟨p + 1, m + 1, n + m, by omega, by omega, m3, ?_, kA.trans ⟨m6 4 (by omega), m5 34 (by omega) (by omega)⟩, rfl, by omega, fun z => ?_⟩)⟩
  · rw [c_here h.1]
    simp only [Option.bind_some]
    rw [c_isFig, hch, b2_f (by decide)]
    simp only [Option.bind_some, if_true]
    rw [if_neg (by decide), e5, n_inc, m1]
    rfl
  · rw [r_isFig h.2.1, hch, b2_f (by decide)]
    simp only [Option.bind_some, if_true]
    rw [r_next h.2.1, hch]
    simp only [Option.bind_some]
    have m2' : ∀ d, tb_cI (d + 2) mX8_makes [.ref 45, .int (1 : Int32), .int (-5 : Int32), .int (-5 : Int32), .int (-5 : Int32), .int (-5 : Int32)] (tb_up T 45 23 (nI (p + 1))) = some (nI (n + m), V) := m2
    rw [if_neg (by decide), e23, n_inc, m2']
    rfl
  · exact hS1.cg (m6 10 (by omega)) (m5 35 (by omega) (by omega)) (m8 24 (by omega)) (m7 60 (by omega) (by omega))
  · rw [← fA]
    exact m4 z
/-- no term begins here -/
theorem sim_bad (h : Rb n len tp p m S T) (hS : St w S T) (hf : ¬ (48 ≤ chA len p tp ∧ chA len p tp ≤ 57)) (h45 : ¬ chA len p tp = 45) (h35 : ¬ chA len p tp = 35) (hk : kindS (chA len p tp) = -1) :
    ∃ y S' y' T', (∀ d, tb_cI (d + 2 * g + 8) mX4_readTerm [.ref 32, .int (nI w)] S = some (y, S')) ∧ (∀ d, tb_cI (d + g + 8) mX8_term [.ref 45, .int (nI w)] T = some (y', T')) ∧ OutT n len tp p m w S T y S' y' T' := by
  have hl := h.1.1
  have hp := h.1.2.1
  have e5 := h.1.2.2.2.1
  have e23 := h.2.1.2.2.2.1
  obtain ⟨U, f1, f2, f3, f4⟩ := flt_at (f := p) h hS (by omega)
  refine ⟨-1, U, -1, tb_up T 45 28 (nI p), fun d => MX4_readTerm (d := d + 2 * g + 7) ?_, fun d => MX8_term (d := d + g + 7) ?_, f3, RF.up45 (by omega), Or.inl ⟨rfl, f2⟩⟩
  · rw [c_here h.1]
    simp only [Option.bind_some]
    rw [c_isFig, b2_f hf]
    simp only [Option.bind_some, if_true]
    rw [if_pos h45, c_kind h35, hk]
    simp only [Option.bind_some, if_true]
    rw [e5, f1]
    rfl
  · rw [r_isFig h.2.1, b2_f hf]
    simp only [Option.bind_some, if_true]
    rw [r_next h.2.1]
    simp only [Option.bind_some]
    rw [if_pos h45, r_next h.2.1]
    simp only [Option.bind_some]
    rw [if_pos h35, r_next h.2.1]
    simp only [Option.bind_some]
    rw [r_kind, hk]
    simp only [Option.bind_some]
    rw [if_neg not0m1, e23]
end Term
