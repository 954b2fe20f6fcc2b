/-! Part 7e: reading: what both hold while they read; faults -/
def oldT (n : Nat) (S T : tb_St) : Prop := (∃ c, n ≤ c ∧ c ≤ 24 ∧ S 2 7 = nI c) ∧ jT n (nI n) (nI n) (S 3) (S 4) (S 5) (S 6) (S 7) (S 8) (S 9) (T 46) (T 47) (T 48) (T 49) (T 50) (T 51) (T 52)
def newT (n m : Nat) (S T : tb_St) : Prop := (S 32 8 = 0 ∧ jT (n + m) (S 2 7) (nI (n + m)) (S 3) (S 4) (S 5) (S 6) (S 7) (S 8) (S 9) (T 46) (T 47) (T 48) (T 49) (T 50) (T 51) (T 52)) ∨ (S 32 8 = 1 ∧ oldT n S T ∧ (24 < n + m ∨ ∃ j, j < m ∧ ¬ T 51 (n + j) ≤ 40))
def Rb (n len : Nat) (tp : Nat → Int32) (p m : Nat) (S T : tb_St) : Prop := cAt len p tp S ∧ rAt len p tp T ∧ m ≤ p ∧ n ≤ 24 ∧ S 32 6 = nI n ∧ S 32 7 = -1 ∧ T 45 0 = nI n ∧ T 45 29 = nI m ∧ newT n m S T
def St (w : Nat) (S T : tb_St) : Prop := w ≤ 7 ∧ S 32 10 = nI w ∧ T 45 24 = nI w ∧ ∀ j, j < w → S 35 j = T 60 j
def Flt (n : Nat) (S T : tb_St) : Prop := ∃ f w, f ≤ 60 ∧ w ≤ 7 ∧ S 32 7 = nI f ∧ T 45 28 = nI f ∧ S 32 4 = nI w ∧ T 45 24 = nI w ∧ (∀ j, j < w → S 34 j = T 60 (w - 1 - j)) ∧ S 32 6 = nI n ∧ oldT n S T
def Pend (n len w : Nat) (S T : tb_St) : Prop := ∃ p tp, cAt len p tp S ∧ (48 ≤ chA len p tp ∧ chA len p tp ≤ 57) ∧ S 32 6 = nI n ∧ S 32 7 = -1 ∧ T 45 28 = nI p ∧ St w S T ∧ oldT n S T
def CF (S S' : tb_St) : Prop := ∀ q, (q < 2 ∨ 9 < q) → q ≠ 32 → q ≠ 34 → q ≠ 35 → S' q = S q
def RF (T T' : tb_St) : Prop := (∀ q, q ≠ 45 → (q < 46 ∨ 52 < q) → q ≠ 60 → T' q = T q) ∧ ∀ i, i ≠ 23 → i ≠ 24 → i ≠ 28 → i ≠ 29 → T' 45 i = T 45 i
def KW (S S' : tb_St) : Prop := S' 32 4 = S 32 4 ∧ S' 34 = S 34
theorem CF.refl {S : tb_St} : CF S S := fun _ _ _ _ _ => rfl
theorem CF.trans {S U V : tb_St} (h : CF S U) (k : CF U V) : CF S V := fun q h1 h2 h3 h4 => (k q h1 h2 h3 h4).trans (h q h1 h2 h3 h4)
theorem RF.refl {S : tb_St} : RF S S := ⟨fun _ _ _ _ => rfl, fun _ _ _ _ _ => rfl⟩
theorem RF.trans {S U V : tb_St} (h : RF S U) (k : RF U V) : RF S V := ⟨fun q h1 h2 h3 => (k.1 q h1 h2 h3).trans (h.1 q h1 h2 h3), fun i h1 h2 h3 h4 => (k.2 i h1 h2 h3 h4).trans (h.2 i h1 h2 h3 h4)⟩
theorem KW.refl {S : tb_St} : KW S S := ⟨rfl, rfl⟩
theorem KW.trans {S U V : tb_St} (h : KW S U) (k : KW U V) : KW S V := ⟨k.1.trans h.1, k.2.trans h.2⟩
theorem CF.up32 {S : tb_St} {j : Nat} {v : Int32} : CF S (tb_up S 32 j v) := fun q _ h _ _ => up_ne h
theorem CF.up35 {S : tb_St} {j : Nat} {v : Int32} : CF S (tb_up S 35 j v) := fun q _ _ _ h => up_ne h
theorem KW.up32 {S : tb_St} {j : Nat} {v : Int32} (h : j ≠ 4) : KW S (tb_up S 32 j v) := ⟨by rw [up_rd, if_neg (by omega)], up_ne (by omega)⟩
theorem KW.up35 {S : tb_St} {j : Nat} {v : Int32} : KW S (tb_up S 35 j v) := ⟨by rw [up_ne (by omega)], up_ne (by omega)⟩
theorem RF.up45 {T : tb_St} {j : Nat} {v : Int32} (h : j = 23 ∨ j = 24 ∨ j = 28 ∨ j = 29) : RF T (tb_up T 45 j v) := ⟨fun q h1 _ _ => up_ne h1, fun i h1 h2 h3 h4 => by rw [up_rd, if_neg (by omega)]⟩
theorem RF.up60 {T : tb_St} {j : Nat} {v : Int32} : RF T (tb_up T 60 j v) := ⟨fun q _ _ h => up_ne h, fun i _ _ _ _ => by rw [up_ne (by omega)]⟩
theorem oldT.cg {n : Nat} {S T S' T' : tb_St} (h : oldT n S T) (h2 : ∀ q, 2 ≤ q → q ≤ 9 → S' q = S q) (h46 : ∀ q, 46 ≤ q → q ≤ 52 → T' q = T q) : oldT n S' T' := by
  unfold oldT at *
  rw [h2 2 (by omega) (by omega), h2 3 (by omega) (by omega), h2 4 (by omega) (by omega), h2 5 (by omega) (by omega), h2 6 (by omega) (by omega), h2 7 (by omega) (by omega), h2 8 (by omega) (by omega), h2 9 (by omega) (by omega), h46 46 (by omega) (by omega), h46 47 (by omega) (by omega), h46 48 (by omega) (by omega), h46 49 (by omega) (by omega), h46 50 (by omega) (by omega), h46 51 (by omega) (by omega), h46 52 (by omega) (by omega)]
  exact h
theorem newT.cg {n m : Nat} {S T S' T' : tb_St} (h : newT n m S T) (h8 : S' 32 8 = S 32 8) (h2 : ∀ q, 2 ≤ q → q ≤ 9 → S' q = S q) (h46 : ∀ q, 46 ≤ q → q ≤ 52 → T' q = T q) : newT n m S' T' := by
  unfold newT oldT at *
  rw [h8, h2 2 (by omega) (by omega), h2 3 (by omega) (by omega), h2 4 (by omega) (by omega), h2 5 (by omega) (by omega), h2 6 (by omega) (by omega), h2 7 (by omega) (by omega), h2 8 (by omega) (by omega), h2 9 (by omega) (by omega), h46 46 (by omega) (by omega), h46 47 (by omega) (by omega), h46 48 (by omega) (by omega), h46 49 (by omega) (by omega), h46 50 (by omega) (by omega), h46 51 (by omega) (by omega), h46 52 (by omega) (by omega)]
  exact h
theorem newT.old {n m : Nat} {S T : tb_St} (h : newT n m S T) : oldT n S T := by
  rcases h with ⟨h8, h⟩ | ⟨h8, h, -⟩
  · have hn := h.1
    exact ⟨⟨n + m, by omega, hn, h.2.1⟩, by omega, rfl, rfl, fun t ht => h.2.2.2 t (by omega)⟩
  · exact h
theorem St.cg {w : Nat} {S T S' T' : tb_St} (h : St w S T) (h1 : S' 32 10 = S 32 10) (h2 : S' 35 = S 35) (h3 : T' 45 24 = T 45 24) (h4 : T' 60 = T 60) : St w S' T' := by
  unfold St at *
  rw [h1, h2, h3, h4]
  exact h
/-- C tells its first fault -/
theorem c_failL : ∀ g u (S : tb_St), S 32 4 = nI u → u + g ≤ 7 → ∃ S', (∀ d (w1 : Value), tb_E d mX4_fail tb_dV 26 [.ref 32, w1, .int (nI g + (-1))] [] tb_S S = some S') ∧ (∀ q, q ≠ 32 → q ≠ 34 → S' q = S q) ∧ (∀ i, i ≠ 4 → S' 32 i = S 32 i) ∧ S' 32 4 = nI (u + g) ∧ (∀ j, j < u → S' 34 j = S 34 j) ∧ ∀ j, j < g → S' 34 (u + j) = S 35 (g - 1 - j) := by
  intro g
  induction g with
  | zero =>
    intro u S h _
    refine ⟨S, fun d w1 => BX4_fail_26 ?_, fun _ _ _ => rfl, fun _ _ => rfl, h, fun _ _ => rfl, fun j hj => by omega⟩
    rw [if_pos (by decide)]
  | succ g ih =>
    intro u S h hu
    obtain ⟨V, v1, v2, v3, v4, v5, v6⟩ := ih (u + 1) (tb_up (tb_up S 34 u (S 35 g)) 32 4 (nI (u + 1))) (by rw [up_rd, if_pos ⟨rfl, rfl⟩]) (by omega)
    refine ⟨V, fun d w1 => BX4_fail_26 ?_, fun q h1 h2 => by rw [v2 q h1 h2, up_ne h1, up_ne h2], fun i hi => by rw [v3 i hi, up_rd, if_neg (by omega), up_ne (by omega)], by rw [v4]; congr 1; omega, fun j hj => by rw [v5 j (by omega), up_ne (by omega), up_rd, if_neg (by omega)], fun j hj => ?_⟩
    · rw [n_dec, if_neg (n_nlt (by omega)), n_ix (by omega) (by omega), h, n_ix (by omega) (by omega)]
      simp only [Option.bind_some]
      rw [n_inc]
      exact v1 d w1
    · cases j with
      | zero =>
        rw [Nat.add_zero, v5 u (by omega), up_ne (by omega), up_rd, if_pos ⟨rfl, rfl⟩]
        rfl
      | succ j =>
        have := v6 j (by omega)
        rw [show u + (j + 1) = u + 1 + j by omega, this, up_ne (by omega), up_ne (by omega)]
        congr 1
        omega
theorem c_failD {d : Nat} {x : Int32} {S : tb_St} (h : ¬ S 32 7 = -1) : tb_cV (d + 1) mX4_fail [.ref 32, .int x] S = some S := by
  refine MX4_fail ?_
  rw [if_neg h]
theorem c_flt {n w f : Nat} {S T : tb_St} (h7 : S 32 7 = -1) (h6 : S 32 6 = nI n) (hS : St w S T) (ho : oldT n S T) (hf : f ≤ 60) (h28 : T 45 28 = nI f) : ∃ S', (∀ d, tb_cV (d + 1) mX4_fail [.ref 32, .int (nI f)] S = some S') ∧ Flt n S' T ∧ CF S S' ∧ ¬ S' 32 7 = -1 := by
  obtain ⟨s1, s2, s3, s4⟩ := hS
  obtain ⟨V, v1, v2, v3, v4, v5, v6⟩ := c_failL w 0 (tb_up (tb_up S 32 7 (nI f)) 32 4 0) (by rw [up_rd, if_pos ⟨rfl, rfl⟩]; rfl) (by omega)
  have e7 : V 32 7 = nI f := by rw [v3 7 (by omega), up_rd, if_neg (by omega), up_rd, if_pos ⟨rfl, rfl⟩]
  refine ⟨V, fun d => MX4_fail ?_, ⟨f, w, hf, s1, e7, h28, by rw [v4, Nat.zero_add], s3, fun j hj => ?_, ?_, ho.cg (fun q h1 h2 => ?_) (fun _ _ _ => rfl)⟩, fun q h1 h2 h3 h4 => ?_, by rw [e7]; exact neg1 (by omega)⟩
  · rw [if_pos h7, s2]
    have := v1 d (.int (nI f))
    rw [show nI w - (1 : Int32) = nI w + (-1) by grind]
    exact this
  · have := v6 j hj
    rw [Nat.zero_add] at this
    rw [this, up_ne (by omega), up_ne (by omega), s4 _ (by omega)]
  · rw [v3 6 (by omega), up_rd, if_neg (by omega), up_rd, if_neg (by omega)]
    exact h6
  · rw [v2 q (by omega) (by omega), up_ne (by omega), up_ne (by omega)]
  · rw [v2 q h2 h3, up_ne h2, up_ne h2]
theorem St.up28 {w : Nat} {S T : tb_St} {v : Int32} (h : St w S T) : St w S (tb_up T 45 28 v) := h.cg rfl rfl (by rw [up_rd, if_neg (by omega)]) (up_ne (by omega))
theorem oldT.up28 {n : Nat} {S T : tb_St} {v : Int32} (h : oldT n S T) : oldT n S (tb_up T 45 28 v) := h.cg (fun _ _ _ => rfl) (fun q h1 h2 => up_ne (by omega))
/-- a fault here, of both -/
theorem flt_at {n len p m w f : Nat} {tp : Nat → Int32} {S T : tb_St} (h : Rb n len tp p m S T) (hS : St w S T) (hf : f ≤ 60) : ∃ S', (∀ d, tb_cV (d + 1) mX4_fail [.ref 32, .int (nI f)] S = some S') ∧ Flt n S' (tb_up T 45 28 (nI f)) ∧ CF S S' ∧ ¬ S' 32 7 = -1 := by
  obtain ⟨h1, h2, h3, h4, h5, h6, h7, h8, h9⟩ := h
  exact c_flt h6 h5 hS.up28 h9.old.up28 hf (by rw [up_rd, if_pos ⟨rfl, rfl⟩])
theorem c_goD {d : Nat} {x : Int32} {S : tb_St} (h : ¬ S 32 7 = -1) : tb_cI (d + 1) mX4_goOver [.ref 32, .int x] S = some (0, S) := by
  refine MX4_goOver ?_
  rw [if_pos h]
  refine BX4_goOver_24 ?_
  rw [if_neg h]
theorem c_goY {d len p : Nat} {tp : Nat → Int32} {x : Int32} {S : tb_St} (hc : cAt len p tp S) (h7 : S 32 7 = -1) (hx : chA len p tp = x) : tb_cI (d + 2) mX4_goOver [.ref 32, .int x] S = some (1, tb_up S 32 5 (nI (p + 1))) := by
  refine MX4_goOver ?_
  rw [if_neg (fun z => z h7), c_here hc]
  simp only [Option.bind_some]
  rw [if_pos hx]
  refine BX4_goOver_24 ?_
  rw [if_pos h7, hc.2.2.2.1, n_inc]
theorem c_goN {d len p : Nat} {tp : Nat → Int32} {x : Int32} {S S' : tb_St} (hc : cAt len p tp S) (h7 : S 32 7 = -1) (hx : ¬ chA len p tp = x) (hf : ∀ d, tb_cV (d + 1) mX4_fail [.ref 32, .int (nI p)] S = some S') (h' : ¬ S' 32 7 = -1) : tb_cI (d + 2) mX4_goOver [.ref 32, .int x] S = some (0, S') := by
  refine MX4_goOver ?_
  rw [if_neg (fun z => z h7), c_here hc]
  simp only [Option.bind_some]
  rw [if_neg hx, hc.2.2.2.1, hf]
  simp only [Option.bind_some]
  refine BX4_goOver_24 ?_
  rw [if_neg h']
theorem r_isY {d len p : Nat} {tp : Nat → Int32} {x : Int32} {T : tb_St} (hr : rAt len p tp T) (hx : chA len p tp = x) : tb_cI (d + 2) mX8_is [.ref 45, .int x] T = some (1, tb_up T 45 23 (nI (p + 1))) := by
  refine MX8_is ?_
  rw [r_next hr]
  simp only [Option.bind_some]
  rw [if_pos hx, hr.2.2.2.1, n_inc]
theorem r_isN {d len p : Nat} {tp : Nat → Int32} {x : Int32} {T : tb_St} (hr : rAt len p tp T) (hx : ¬ chA len p tp = x) : tb_cI (d + 2) mX8_is [.ref 45, .int x] T = some (0, tb_up T 45 28 (nI p)) := by
  refine MX8_is ?_
  rw [r_next hr]
  simp only [Option.bind_some]
  have hw : ∀ (v : Int32) (U : tb_St), tb_cI (d + 1) mX8_wrong [.ref 45, .int v] U = some (0, tb_up U 45 28 v) := fun v U => MX8_wrong rfl
  rw [if_neg hx, hr.2.2.2.1, hw]
  simp only [Option.bind_some, true_or, if_true]
/-- going on in the text keeps what both hold -/
theorem Rb.to {n len p m p' : Nat} {tp : Nat → Int32} {S T : tb_St} (h : Rb n len tp p m S T) (h1 : p ≤ p') (h2 : p' ≤ len) : Rb n len tp p' m (tb_up S 32 5 (nI p')) (tb_up T 45 23 (nI p')) := by
  obtain ⟨a1, a2, a3, a4, a5, a6, a7, a8, a9⟩ := h
  exact ⟨a1.to h2, a2.to h2, by omega, a4, by rw [up_rd, if_neg (by omega)]; exact a5, by rw [up_rd, if_neg (by omega)]; exact a6, by rw [up_rd, if_neg (by omega)]; exact a7, by rw [up_rd, if_neg (by omega)]; exact a8, a9.cg (by rw [up_rd, if_neg (by omega)]) (fun q _ _ => up_ne (by omega)) (fun q _ _ => up_ne (by omega))⟩
theorem St.to {w p' : Nat} {S T : tb_St} (h : St w S T) : St w (tb_up S 32 5 (nI p')) (tb_up T 45 23 (nI p')) := h.cg (by rw [up_rd, if_neg (by omega)]) (up_ne (by omega)) (by rw [up_rd, if_neg (by omega)]) (up_ne (by omega))
theorem go_pair {n len p m w : Nat} {tp : Nat → Int32} {S T : tb_St} {x : Int32} (h : Rb n len tp p m S T) (hS : St w S T) (hx : ¬ x = 0) :
    (p < len ∧ (∀ d, tb_cI (d + 2) mX4_goOver [.ref 32, .int x] S = some (1, tb_up S 32 5 (nI (p + 1)))) ∧ (∀ d, tb_cI (d + 2) mX8_is [.ref 45, .int x] T = some (1, tb_up T 45 23 (nI (p + 1)))) ∧ Rb n len tp (p + 1) m (tb_up S 32 5 (nI (p + 1))) (tb_up T 45 23 (nI (p + 1))) ∧ St w (tb_up S 32 5 (nI (p + 1))) (tb_up T 45 23 (nI (p + 1)))) ∨
    (∃ S', (∀ d, tb_cI (d + 2) mX4_goOver [.ref 32, .int x] S = some (0, S')) ∧ (∀ d, tb_cI (d + 2) mX8_is [.ref 45, .int x] T = some (0, tb_up T 45 28 (nI p))) ∧ Flt n S' (tb_up T 45 28 (nI p)) ∧ CF S S' ∧ ¬ S' 32 7 = -1) := by
  have hc := h.1
  have hr := h.2.1
  have h7 := h.2.2.2.2.2.1
  have hl := hc.1
  have hp := hc.2.1
  by_cases e : chA len p tp = x
  · have hlt := ch_lt e hx
    exact Or.inl ⟨hlt, fun d => c_goY hc h7 e, fun d => r_isY hr e, h.to (by omega) (by omega), hS.to⟩
  · obtain ⟨S', f1, f2, f3, f4⟩ := flt_at (f := p) h hS (by omega)
    exact Or.inr ⟨S', fun d => c_goN hc h7 e f1 f4, fun d => r_isN hr e, f2, f3, f4⟩
theorem pend_go {n len w : Nat} {S T : tb_St} {x : Int32} (h : Pend n len w S T) (hx : ¬ (48 ≤ x ∧ x ≤ 57)) : ∃ S', (∀ d, tb_cI (d + 2) mX4_goOver [.ref 32, .int x] S = some (0, S')) ∧ Flt n S' T ∧ CF S S' ∧ ¬ S' 32 7 = -1 := by
  obtain ⟨p, tp, h1, h2, h3, h4, h5, h6, h7⟩ := h
  have hl := h1.1
  have hp := h1.2.1
  obtain ⟨S', f1, f2, f3, f4⟩ := c_flt h4 h3 h6 h7 (by omega) h5
  exact ⟨S', fun d => c_goN h1 h4 (fun z => by rw [z] at h2; exact hx h2) f1 f4, f2, f3, f4⟩
