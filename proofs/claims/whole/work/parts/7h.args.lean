/-! Part 7h: reading: what stands behind a ( : both -/
theorem Flt.ne {n : Nat} {S T : tb_St} (h : Flt n S T) : ¬ S 32 7 = -1 := by
  obtain ⟨f, w, h1, h2, h3, -⟩ := h
  rw [h3]
  exact neg1 (by omega)
theorem Flt.pop {n : Nat} {S T S' : tb_St} (h : Flt n S T) (h1 : S' = S) : Flt n S' T := by rw [h1]; exact h
def OutT (n len : Nat) (tp : Nat → Int32) (p m w : Nat) (S T : tb_St) (v : Int32) (S' : tb_St) (v' : Int32) (T' : tb_St) : Prop := CF S S' ∧ RF T T' ∧ ((v' = -1 ∧ Flt n S' T') ∨ (v' = -1 ∧ Pend n len w S' T') ∨ ∃ p' m' x, p < p' ∧ m ≤ m' ∧ Rb n len tp p' m' S' T' ∧ St w S' T' ∧ KW S S' ∧ v' = nI x ∧ x < n + m' ∧ (S' 32 8 = 0 → S 32 8 = 0 ∧ v = nI x))
def OutC (n len : Nat) (tp : Nat → Int32) (p m w : Nat) (S T : tb_St) (v : Int32) (S' : tb_St) (v' : Int32) (T' : tb_St) : Prop := CF S S' ∧ RF T T' ∧ ((v' = -1 ∧ Flt n S' T') ∨ ∃ p' m' x, p < p' ∧ m ≤ m' ∧ Rb n len tp p' m' S' T' ∧ S' 32 10 = nI (w + 1) ∧ T' 45 24 = nI w ∧ (∀ j, j < w → S' 35 j = T' 60 j) ∧ KW S S' ∧ v' = nI x ∧ x < n + m' ∧ (S' 32 8 = 0 → S 32 8 = 0 ∧ v = nI x))
def SimH (n len : Nat) (tp : Nat → Int32) (g w : Nat) : Prop := ∀ p m S T, Rb n len tp p m S T → St w S T → ∃ v S' v' T', (∀ d, tb_cI (d + 2 * g + 8) mX4_readTerm [.ref 32, .int (nI w)] S = some (v, S')) ∧ (∀ d, tb_cI (d + g + 8) mX8_term [.ref 45, .int (nI w)] T = some (v', T')) ∧ OutT n len tp p m w S T v S' v' T'
theorem nI0 (k : Nat) (h : k < 2 ^ 31) : (0 : Int32) ≤ nI k := n_nn h
theorem not0m1 : ¬ (0 : Int32) ≤ -1 := by decide
section Args
variable {n len w g : Nat} {tp : Nat → Int32}
/-- the last bracket -/
theorem sim_close {p m : Nat} {S T : tb_St} {k fee box v1 v2 : Int32} {o t : Option Nat} (h : Rb n len tp p m S T) (hS : St (w + 1) S T) (hr : recOK (S 8) (n + m) k fee box o t) (hv : S 32 8 = 0 → v1 = oN o ∧ v2 = oN t) :
    ∃ v S' v' T', (∀ d (w2 w3 : Value), tb_E (d + 4) mX4_readComposed tb_dI 120 [.ref 32, .int k, w2, w3, .int box, .int fee, .int v1, .int v2] [] tb_S S = some (v, S')) ∧ (∀ d (w1 : Value), tb_E (d + 2) mX8_term tb_dI 360 [.ref 45, w1, .int k, .int box, .int fee, .int (oN o), .int (oN t)] [] tb_S T = some (v', T')) ∧ OutC n len tp p m w S T v S' v' T' := by
  rcases go_pair (x := 41) h hS (by decide) with ⟨g1, g2, g3, g4, g5⟩ | ⟨S', g1, g2, g3, g4, g5⟩
  · obtain ⟨s1, s2, s3, s4⟩ := g5
    generalize hA : tb_up S 32 5 (nI (p + 1)) = A at *
    generalize hB : tb_up T 45 23 (nI (p + 1)) = B at *
    have a8 : A 8 = S 8 := by subst hA; exact up_ne (by omega)
    have af : A 32 8 = S 32 8 := by subst hA; rw [up_rd, if_neg (by omega)]
    have kA : KW S A := by subst hA; exact KW.up32 (by omega)
    have cA : CF S A := by subst hA; exact CF.up32
    have rB : RF T B := by subst hB; exact RF.up45 (by omega)
    have hpop : Rb n len tp (p + 1) m A (tb_up B 45 24 (nI w)) := by
      obtain ⟨a1, a2, a3, a4, a5, a6, a7, a9, a10⟩ := g4
      exact ⟨a1, ⟨a2.1, a2.2.1, by rw [up_rd, if_neg (by omega)]; exact a2.2.2.1, by rw [up_rd, if_neg (by omega)]; exact a2.2.2.2.1, fun j hj => by rw [up_ne (by omega)]; exact a2.2.2.2.2 j hj⟩, a3, a4, a5, a6, by rw [up_rd, if_neg (by omega)]; exact a7, by rw [up_rd, if_neg (by omega)]; exact a9, a10.cg rfl (fun _ _ _ => rfl) (fun q _ _ => up_ne (by omega))⟩
    have hmp := h.2.2.1
    obtain ⟨v, U, V, m1, m2, m3, m4, m5, m6, m7, m8, -⟩ := mk_pair (v1 := v1) (v2 := v2) hpop (by omega) (by rw [a8]; exact hr) (by rw [af]; exact hv)
    refine ⟨v, U, nI (n + m), V, fun d w2 w3 => BX4_readComposed_120 ?_, fun d w1 => BX8_term_360 ?_, cA.trans (fun q h1 h2 h3 h4 => m5 q h1 h2), (rB.trans (RF.up45 (j := 24) (v := nI w) (by omega))).trans ⟨fun q h1 h2 _ => m7 q h1 h2, fun i _ _ _ h29 => m8 i h29⟩, Or.inr ⟨p + 1, m + 1, n + m, by omega, by omega, m3, ?_, ?_, fun j hj => ?_, ⟨?_, ?_⟩, rfl, by omega, fun z => ?_⟩⟩
    · rw [g2]
      simp only [Option.bind_some, one0, if_false]
      rw [m1]
      rfl
    · rw [g3]
      simp only [Option.bind_some, one0, not_false_eq_true, if_true]
      have e : B 45 24 - (1 : Int32) = nI w := by rw [s3]; exact nI_pred w
      rw [e, m2]
      rfl
    · rw [m6 10 (by omega)]; exact s2
    · rw [m8 24 (by omega), up_rd, if_pos ⟨rfl, rfl⟩]
    · rw [m5 35 (by omega) (by omega), m7 60 (by omega) (by omega), up_ne (by omega)]
      exact s4 j (by omega)
    · rw [m6 4 (by omega)]; exact kA.1
    · rw [m5 34 (by omega) (by omega)]; exact kA.2
    · rw [← af]; exact m4 z
  · refine ⟨-1, S', -1, tb_up T 45 28 (nI p), fun d w2 w3 => BX4_readComposed_120 ?_, fun d w1 => BX8_term_360 ?_, g4, RF.up45 (by omega), Or.inl ⟨rfl, g3⟩⟩
    · rw [g1]
      simp only [Option.bind_some, if_true]
    · rw [g2]
      simp only [Option.bind_some, not_true_eq_false, if_false]
/-- the class goes over the rest once there is a fault -/
theorem c_dead120 {d : Nat} {S : tb_St} {k box fee v1 v2 : Int32} {w2 w3 : Value} (h : ¬ S 32 7 = -1) : tb_E (d + 1) mX4_readComposed tb_dI 120 [.ref 32, .int k, w2, w3, .int box, .int fee, .int v1, .int v2] [] tb_S S = some (-1, S) := by
  refine BX4_readComposed_120 ?_
  rw [c_goD h]
  simp only [Option.bind_some, if_true]
theorem c_dead72 {d : Nat} {S : tb_St} {k x2 x3 box fee : Int32} {w6 w7 : Value} (h : ¬ S 32 7 = -1) : tb_E (d + 1) mX4_readComposed tb_dI 72 [.ref 32, .int k, .int x2, .int x3, .int box, .int fee, w6, w7] [] tb_S S = some (-1, S) := by
  refine BX4_readComposed_72 ?_
  rw [c_goD h]
  simp only [Option.bind_some, not_true_eq_false, if_false]
theorem c_dead54 {d : Nat} {S : tb_St} {k x2 x3 box : Int32} {w5 w6 w7 : Value} (h : ¬ S 32 7 = -1) : tb_E (d + 1) mX4_readComposed tb_dI 54 [.ref 32, .int k, .int x2, .int x3, .int box, w5, w6, w7] [] tb_S S = some (-1, S) := by
  refine BX4_readComposed_54 ?_
  by_cases e : x2 < (6 : Int32)
  · rw [if_pos e]
    exact c_dead72 h
  · rw [if_neg e, c_failD h]
    exact c_dead72 h
theorem c_dead30 {d : Nat} {S : tb_St} {k x2 x3 box : Int32} {w4 w5 w6 w7 : Value} (h : ¬ S 32 7 = -1) : tb_E (d + 1) mX4_readComposed tb_dI 30 [.ref 32, .int k, .int x2, .int x3, w4, w5, w6, w7] [.int box] tb_S S = some (-1, S) := by
  refine BX4_readComposed_30 ?_
  by_cases e : k = 6
  · rw [if_neg (fun z => z e), c_goD h]
    simp only [Option.bind_some, if_true]
    exact c_dead54 h
  · rw [if_pos e]
    exact c_dead54 h
/-- what kind a text's term is of -/
def kindOK (k x3 fee box : Int32) : Prop := (x3 = 1 ∧ boxOK box ∧ ((k = 2 ∧ fee = -5) ∨ (k = 6 ∧ feeOK fee))) ∨ (x3 = 0 ∧ (k = 3 ∨ k = 4 ∨ k = 5 ∨ k = 7) ∧ fee = -5 ∧ box = -5)
theorem sim_args {p m : Nat} {S T : tb_St} {k x3 fee box : Int32} (hI : SimH n len tp g (w + 1)) (hw : w < 6) (hk : kindOK k x3 fee box) (h : Rb n len tp p m S T) (hS : St (w + 1) S T) :
    ∃ v S' v' T', (∀ d (w6 w7 : Value), tb_E (d + 2 * g + 8) mX4_readComposed tb_dI 72 [.ref 32, .int k, .int (nI w), .int x3, .int box, .int fee, w6, w7] [] tb_S S = some (v, S')) ∧ (∀ d (w5 w6 : Value), tb_E (d + g + 8) mX8_term tb_dI 295 [.ref 45, .int (nI w), .int k, .int box, .int fee, w5, w6] [] tb_S T = some (v', T')) ∧ OutC n len tp p m w S T v S' v' T' := by
  rcases go_pair (x := 40) h hS (by decide) with ⟨-, g2, g3, g4, g5⟩ | ⟨S', g1, g2, g3, g4, g5⟩
  · have kA : KW S (tb_up S 32 5 (nI (p + 1))) := KW.up32 (by omega)
    have cA : CF S (tb_up S 32 5 (nI (p + 1))) := CF.up32
    have rB : RF T (tb_up T 45 23 (nI (p + 1))) := RF.up45 (by omega)
    have fA : tb_up S 32 5 (nI (p + 1)) 32 8 = S 32 8 := by rw [up_rd, if_neg (by omega)]
    obtain ⟨v1, A, v1', B, c1, r1, o1, o2, o3⟩ := hI (p + 1) m _ _ g4 g5
    have cSA := cA.trans o1
    have rTB := rB.trans o2
    have hC : ∀ d r, (if ¬ x3 = 0 then tb_E (d + 2 * g + 8) mX4_readComposed tb_dI 120 [.ref 32, .int k, .int (nI w), .int x3, .int box, .int fee, .int v1, .int (-5 : Int32)] [] tb_S A else (tb_cI (d + 2 * g + 8) mX4_goOver [.ref 32, .int (44 : Int32)] A).bind fun q103 => (if ¬ q103.1 = 0 then (tb_cI (d + 2 * g + 8) mX4_readTerm [.ref 32, .int (nI (w + 1))] (q103.2)).bind fun q115 => tb_E (d + 2 * g + 8) mX4_readComposed tb_dI 120 [.ref 32, .int k, .int (nI w), .int x3, .int box, .int fee, .int v1, .int (q115.1)] [] tb_S (q115.2) else some ((-1 : Int32), q103.2))) = some r → ∀ w6 w7 : Value, tb_E (d + 2 * g + 8) mX4_readComposed tb_dI 72 [.ref 32, .int k, .int (nI w), .int x3, .int box, .int fee, w6, w7] [] tb_S S = some r := by
      intro d r hr w6 w7
      refine BX4_readComposed_72 ?_
      rw [g2]
      simp only [Option.bind_some, one0, not_false_eq_true, if_true]
      rw [n_inc, c1]
      exact hr
    have hRf : v1' = -1 → ∀ d (w5 w6 : Value), tb_E (d + g + 8) mX8_term tb_dI 295 [.ref 45, .int (nI w), .int k, .int box, .int fee, w5, w6] [] tb_S T = some (-1, B) := by
      intro hv d w5 w6
      refine BX8_term_295 ?_
      rw [g3]
      simp only [Option.bind_some, one0, not_false_eq_true, if_true]
      rw [n_inc, r1, hv]
      simp only [Option.bind_some]
      rw [if_neg not0m1]
    rcases o3 with ⟨hv, hF⟩ | ⟨hv, hP⟩ | ⟨p1, m1, x1, q1, q2, q3, q4, q5, q6, q7, q8⟩
    · refine ⟨-1, A, -1, B, fun d w6 w7 => hC d _ ?_ w6 w7, hRf hv, cSA, rTB, Or.inl ⟨rfl, hF⟩⟩
      by_cases e : x3 = 0
      · rw [if_neg (fun z => z e), c_goD hF.ne]
        simp only [Option.bind_some, not_true_eq_false, if_false]
      · rw [if_pos e]
        exact c_dead120 hF.ne
    · by_cases e : x3 = 0
      · obtain ⟨U, f1, f2, f3, f4⟩ := pend_go (x := 44) hP (by decide)
        refine ⟨-1, U, -1, B, fun d w6 w7 => hC d _ ?_ w6 w7, hRf hv, cSA.trans f3, rTB, Or.inl ⟨rfl, f2⟩⟩
        rw [if_neg (fun z => z e), f1]
        simp only [Option.bind_some, not_true_eq_false, if_false]
      · obtain ⟨U, f1, f2, f3, f4⟩ := pend_go (x := 41) hP (by decide)
        refine ⟨-1, U, -1, B, fun d w6 w7 => hC d _ ?_ w6 w7, hRf hv, cSA.trans f3, rTB, Or.inl ⟨rfl, f2⟩⟩
        rw [if_pos e]
        refine BX4_readComposed_120 ?_
        rw [f1]
        simp only [Option.bind_some, if_true]
    · have kSA := kA.trans q5
      have hR : ∀ d r, (if (2 < k ∧ ¬ k = 6) then (tb_cI (d + g + 8) mX8_is [.ref 45, .int (44 : Int32)] B).bind fun q336 => (if ¬ q336.1 = 0 then (tb_cI (d + g + 8) mX8_term [.ref 45, .int (nI (w + 1))] (q336.2)).bind fun q348 => (if 0 ≤ q348.1 then tb_E (d + g + 8) mX8_term tb_dI 360 [.ref 45, .int (nI w), .int k, .int box, .int fee, .int (nI x1), .int (q348.1)] [] tb_S (q348.2) else some ((-1 : Int32), q348.2)) else some ((-1 : Int32), q336.2)) else tb_E (d + g + 8) mX8_term tb_dI 360 [.ref 45, .int (nI w), .int k, .int box, .int fee, .int (nI x1), .int (-5 : Int32)] [] tb_S B) = some r → ∀ w5 w6 : Value, tb_E (d + g + 8) mX8_term tb_dI 295 [.ref 45, .int (nI w), .int k, .int box, .int fee, w5, w6] [] tb_S T = some r := by
        intro d r hr w5 w6
        refine BX8_term_295 ?_
        rw [g3]
        simp only [Option.bind_some, one0, not_false_eq_true, if_true]
        rw [n_inc, r1, q6]
        simp only [Option.bind_some]
        have hb : x1 < 2 ^ 31 := by
          have := q3.2.2.1
          have := q3.1.2.1
          have := q3.1.1
          have := q3.2.2.2.1
          omega
        rw [if_pos (nI0 x1 hb), r_ofTwo]
        simp only [Option.bind_some, b2_0]
        by_cases e : 2 < k ∧ ¬ k = 6
        · rw [if_pos e] at hr
          rw [if_neg (fun z => z e)]
          exact hr
        · rw [if_neg e] at hr
          rw [if_pos e]
          exact hr
      have hv1 : A 32 8 = 0 → v1 = nI x1 := fun z => (q8 z).2
      have hA8 : A 32 8 = 0 → S 32 8 = 0 := fun z => by rw [← fA]; exact (q8 z).1
      rcases hk with ⟨rfl, hb, hkk⟩ | ⟨rfl, hkk, rfl, rfl⟩
      · have hnot : ¬ (2 < k ∧ ¬ k = 6) := by
          rcases hkk with ⟨rfl, -⟩ | ⟨rfl, -⟩ <;> decide
        have hrec : recOK (A 8) (n + m1) k fee box (some x1) none := by
          rcases hkk with ⟨e1, e2⟩ | ⟨e1, e2⟩
          · exact Or.inr (Or.inr (Or.inl ⟨e1, e2, hb, rfl, x1, rfl, q7⟩))
          · exact Or.inr (Or.inr (Or.inr (Or.inl ⟨e1, e2, hb, rfl, x1, rfl, q7⟩)))
        obtain ⟨v, U, v', V, z1, z2, z3, z4, z5⟩ := sim_close (v1 := v1) (v2 := -5) (w := w) q3 q4 hrec (fun z => ⟨hv1 z, rfl⟩)
        refine ⟨v, U, v', V, fun d w6 w7 => hC d _ ?_ w6 w7, fun d w5 w6 => hR d _ ?_ w5 w6, cSA.trans z3, rTB.trans z4, ?_⟩
        · rw [if_pos (by decide)]
          exact z1 _ _ _
        · rw [if_neg hnot]
          exact z2 _ _
        · rcases z5 with z5 | ⟨p', m', x, y1, y2, y3, y4, y5, y6, y7, y8, y9, y10⟩
          · exact Or.inl z5
          · exact Or.inr ⟨p', m', x, by omega, by omega, y3, y4, y5, y6, kSA.trans y7, y8, y9, fun z => ⟨hA8 (y10 z).1, (y10 z).2⟩⟩
      · have hyes : 2 < k ∧ ¬ k = 6 := by
          rcases hkk with rfl | rfl | rfl | rfl <;> decide
        rcases go_pair (x := 44) q3 q4 (by decide) with ⟨-, t2, t3, t4, t5⟩ | ⟨U, t1, t2, t3, t4, t5⟩
        · have kA2 : KW A (tb_up A 32 5 (nI (p1 + 1))) := KW.up32 (by omega)
          have cA2 : CF A (tb_up A 32 5 (nI (p1 + 1))) := CF.up32
          have rB2 : RF B (tb_up B 45 23 (nI (p1 + 1))) := RF.up45 (by omega)
          have fA2 : tb_up A 32 5 (nI (p1 + 1)) 32 8 = A 32 8 := by rw [up_rd, if_neg (by omega)]
          obtain ⟨v2, A2, v2', B2, c2, r2, i1, i2, i3⟩ := hI (p1 + 1) m1 _ _ t4 t5
          have cSA2 := (cSA.trans cA2).trans i1
          have rTB2 := (rTB.trans rB2).trans i2
          have hC2 : ∀ d r, tb_E (d + 2 * g + 8) mX4_readComposed tb_dI 120 [.ref 32, .int k, .int (nI w), .int (0 : Int32), .int (-5 : Int32), .int (-5 : Int32), .int v1, .int v2] [] tb_S A2 = some r → ∀ w6 w7 : Value, tb_E (d + 2 * g + 8) mX4_readComposed tb_dI 72 [.ref 32, .int k, .int (nI w), .int (0 : Int32), .int (-5 : Int32), .int (-5 : Int32), w6, w7] [] tb_S S = some r := by
            intro d r hr w6 w7
            refine hC d r ?_ w6 w7
            rw [if_neg (fun z => z rfl), t2]
            simp only [Option.bind_some, one0, not_false_eq_true, if_true]
            rw [c2]
            exact hr
          have hR2 : ∀ d r, (if 0 ≤ v2' then tb_E (d + g + 8) mX8_term tb_dI 360 [.ref 45, .int (nI w), .int k, .int (-5 : Int32), .int (-5 : Int32), .int (nI x1), .int v2'] [] tb_S B2 else some ((-1 : Int32), B2)) = some r → ∀ w5 w6 : Value, tb_E (d + g + 8) mX8_term tb_dI 295 [.ref 45, .int (nI w), .int k, .int (-5 : Int32), .int (-5 : Int32), w5, w6] [] tb_S T = some r := by
            intro d r hr w5 w6
            refine hR d r ?_ w5 w6
            rw [if_pos hyes, t3]
            simp only [Option.bind_some, one0, not_false_eq_true, if_true]
            rw [r2]
            exact hr
          rcases i3 with ⟨hv, hF⟩ | ⟨hv, hP⟩ | ⟨p2, m2, x2, y1, y2, y3, y4, y5, y6, y7, y8⟩
          · refine ⟨-1, A2, -1, B2, fun d w6 w7 => hC2 d _ (c_dead120 hF.ne) w6 w7, fun d w5 w6 => hR2 d _ ?_ w5 w6, cSA2, rTB2, Or.inl ⟨rfl, hF⟩⟩
            rw [hv, if_neg not0m1]
          · obtain ⟨U, f1, f2, f3, f4⟩ := pend_go (x := 41) hP (by decide)
            refine ⟨-1, U, -1, B2, fun d w6 w7 => hC2 d _ (BX4_readComposed_120 ?_) w6 w7, fun d w5 w6 => hR2 d _ ?_ w5 w6, cSA2.trans f3, rTB2, Or.inl ⟨rfl, f2⟩⟩
            · rw [f1]
              simp only [Option.bind_some, if_true]
            · rw [hv, if_neg not0m1]
          · have hA28 : A2 32 8 = 0 → A 32 8 = 0 := fun z => by rw [← fA2]; exact (y8 z).1
            have hrec : recOK (A2 8) (n + m2) k (-5) (-5) (some x1) (some x2) := Or.inr (Or.inr (Or.inr (Or.inr ⟨hkk, rfl, rfl, x1, x2, rfl, rfl, by omega, y7⟩)))
            obtain ⟨v, U, v', V, z1, z2, z3, z4, z5⟩ := sim_close (v1 := v1) (v2 := v2) (w := w) y3 y4 hrec (fun z => ⟨hv1 (hA28 z), (y8 z).2⟩)
            have hb2 : x2 < 2 ^ 31 := by
              have := y3.2.2.1
              have := y3.1.2.1
              have := y3.1.1
              have := y3.2.2.2.1
              omega
            refine ⟨v, U, v', V, fun d w6 w7 => hC2 d _ (z1 _ _ _) w6 w7, fun d w5 w6 => hR2 d _ ?_ w5 w6, cSA2.trans z3, rTB2.trans z4, ?_⟩
            · rw [y6, if_pos (nI0 x2 hb2)]
              exact z2 _ _
            · rcases z5 with z5 | ⟨p', m', x, l1, l2, l3, l4, l5, l6, l7, l8, l9, l10⟩
              · exact Or.inl z5
              · exact Or.inr ⟨p', m', x, by omega, by omega, l3, l4, l5, l6, ((kSA.trans kA2).trans y5).trans l7, l8, l9, fun z => ⟨hA8 (hA28 (l10 z).1), (l10 z).2⟩⟩
        · refine ⟨-1, U, -1, tb_up B 45 28 (nI p1), fun d w6 w7 => hC d _ ?_ w6 w7, fun d w5 w6 => hR d _ ?_ w5 w6, cSA.trans t4, rTB.trans (RF.up45 (by omega)), Or.inl ⟨rfl, t3⟩⟩
          · rw [if_neg (fun z => z rfl), t1]
            simp only [Option.bind_some, not_true_eq_false, if_false]
          · rw [if_pos hyes, t2]
            simp only [Option.bind_some, not_true_eq_false, if_false]
  · refine ⟨-1, S', -1, tb_up T 45 28 (nI p), fun d w6 w7 => BX4_readComposed_72 ?_, fun d w5 w6 => BX8_term_295 ?_, g4, RF.up45 (by omega), Or.inl ⟨rfl, g3⟩⟩
    · rw [g1]
      simp only [Option.bind_some, not_true_eq_false, if_false]
    · rw [g2]
      simp only [Option.bind_some, not_true_eq_false, if_false]
end Args
