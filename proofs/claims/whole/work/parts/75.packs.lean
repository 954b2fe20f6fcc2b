/-! Part 75: packing: C's list -/
noncomputable def pkL (al : Nat → Nat → Bool) : Nat → Nat → (Nat → Bool) → List (Nat × Nat)
  | 0, _, _ => []
  | g + 1, c, D => if D c = true then pkL al g (c + 1) D else (c, boxOf (fun x => !D x && al c x) c) :: pkL al g (c + 1) (fun x => D x || decide (¬ inBB x (boxOf (fun x => !D x && al c x) c) = 0))
def cMark (S : tb_St) (D : Nat → Bool) (M : Nat → Int32) : Prop := ∀ x, x < 224 → S 29 x = (if D x = true then -1 else M x) ∧ (D x = false → ¬ M x = -1)
def alM (M : Nat → Int32) (c x : Nat) : Bool := decide (M x = M c)
theorem bx_i {a la e le h lh : Nat} (h0 : a ≤ 7) (h1 : la ≤ 7) (h2 : e ≤ 6) (h3 : le ≤ 6) (h4 : h ≤ 3) (h5 : lh ≤ 3) : (((((100000 : Int32) * nI a + 10000 * nI la) + 1000 * nI e) + 100 * nI le) + 10 * nI h) + nI lh = nI (bx a la e le h lh) := by
  rw [show (100000 : Int32) = nI 100000 from rfl, show (10000 : Int32) = nI 10000 from rfl, show (1000 : Int32) = nI 1000 from rfl, show (100 : Int32) = nI 100 from rfl, show (10 : Int32) = nI 10 from rfl]
  rw [n_mul (by omega) (by omega) (by omega), n_mul (by omega) (by omega) (by omega), n_mul (by omega) (by omega) (by omega), n_mul (by omega) (by omega) (by omega), n_mul (by omega) (by omega) (by omega), n_add (by omega), n_add (by omega), n_add (by omega), n_add (by omega), n_add (by omega)]
  rfl
theorem inBB_01 {c m : Nat} : (¬ inBB c m = 0) ↔ inB c m := by
  unfold inBB
  by_cases e : inB c m
  · rw [if_pos e]; simp [e]
  · rw [if_neg e]; simp [e]
theorem c_takeFrom {d c k : Nat} {S : tb_St} {D : Nat → Bool} {M : Nat → Int32} (hc : c < 224) (hM : cMark S D M) (hD : D c = false) (h3 : S 28 3 = nI k) (hk : k ≤ c) :
    ∃ S', tb_cV (d + 4) mX0_takeFrom [.ref 28, .int (nI c)] S = some S' ∧ (∀ q, q ≠ 28 → q ≠ 29 → q ≠ 30 → q ≠ 31 → S' q = S q) ∧ S' 28 3 = nI (k + 1) ∧ S' 30 = upd (S 30) k (nI (boxOf (fun x => !D x && alM M c x) c)) ∧ S' 31 = upd (S 31) k (M c) ∧ cMark S' (fun x => D x || decide (¬ inBB x (boxOf (fun x => !D x && alM M c x) c) = 0)) M := by
  have hw : S 29 c = M c := by rw [(hM c hc).1, hD]; rfl
  have hwn : ¬ M c = -1 := (hM c hc).2 hD
  have hG : ∀ x, x < 224 → (fun x => decide (S 29 x = M c)) x = (fun x => !D x && alM M c x) x := by
    intro x hx
    show decide (S 29 x = M c) = (!D x && alM M c x)
    rw [(hM x hx).1]
    unfold alM
    cases e : D x
    · simp
    · simp; exact fun z => hwn z.symm
  have hb := boxOf_cg hG hc
  have hGc : (fun x => decide (S 29 x = M c)) c = true := by simpa using hw
  have hall := fun j hj => boxOf_all (G := fun x => decide (S 29 x = M c)) (j := j) hc hGc hj
  rw [← hb]
  generalize hGd : (fun x => decide (S 29 x = M c)) = G at *
  have hbf := boxOf_fig (G := G) hc
  have l1 := bxH_le (G := G) (a := c / 28) (e := c / 4 % 7) (show c % 4 ≤ 3 by omega)
  have l2 := bxD_le (G := G) (a := c / 28) (h := c % 4) (show c / 4 % 7 ≤ 6 by omega)
  have l3 := bxA_le (G := G) (e := c / 4 % 7) (h := c % 4) (show c / 28 ≤ 7 by omega)
  generalize hU : tb_up (tb_up (tb_up S 30 k (nI (boxOf G c))) 31 k (M c)) 28 3 (nI (k + 1)) = U
  obtain ⟨V, v1, v2, v3⟩ := c_keepL (d := d) (w := M c) hbf.1 224 0 U rfl
  have u29 : U 29 = S 29 := by subst hU; rw [up_ne (by omega), up_ne (by omega), up_ne (by omega)]
  refine ⟨V, MX0_takeFrom ?_, fun q q1 q2 q3 q4 => ?_, ?_, ?_, ?_, fun x hx => ⟨?_, fun hd => ?_⟩⟩
  · rw [n_ix hc (by omega)]
    simp only [Option.bind_some]
    rw [c_age hc]
    simp only [Option.bind_some]
    rw [c_day hc]
    simp only [Option.bind_some]
    rw [c_hour hc]
    simp only [Option.bind_some]
    rw [hw]
    refine c_t28 (by omega) (by omega) (by omega) (3 - c % 4) (c % 4) _ (by omega) ?_
    rw [hGd]
    refine c_t63 (n := bxH G (c / 28) (c / 4 % 7) (c % 4) + 1 - c % 4) (by omega) l1.2 (by have := l1.1; unfold bxH at this ⊢; omega) (6 - c / 4 % 7) (c / 4 % 7) _ (by omega) ?_
    rw [hGd]
    refine c_t96 (n := bxH G (c / 28) (c / 4 % 7) (c % 4) + 1 - c % 4) (m := bxD G (c / 28) (c / 4 % 7) (c % 4) + 1 - c / 4 % 7) l1.2 (by have := l1.1; unfold bxH at this ⊢; omega) l2.2 (by have := l2.1; unfold bxD at this ⊢; omega) (7 - c / 28) (c / 28) (by omega) ?_
    rw [hGd]
    refine BX0_takeFrom_129 ?_
    have hbi := bx_i (show c / 28 ≤ 7 by omega) l3.2 (show c / 4 % 7 ≤ 6 by omega) l2.2 (show c % 4 ≤ 3 by omega) l1.2
    have hkeep : tb_cV (d + 3) mX0_keep [.ref 28, .int (nI (boxOf G c)), .int (M c)] S = some V := by
      refine MX0_keep ?_
      rw [h3, if_neg (end224 (by omega)), n_ix (show k < 224 by omega) (by omega)]
      simp only [Option.bind_some]
      rw [n_inc, hU]
      exact v1
    refine Eq.trans (congrArg (fun z => (tb_cV (d + 3) mX0_keep [.ref 28, .int z, .int (M c)] S).bind fun q => some q) (show _ = nI (boxOf G c) from hbi)) ?_
    show (tb_cV (d + 3) mX0_keep [.ref 28, .int (nI (boxOf G c)), .int (M c)] S).bind (fun q => some q) = some V
    rw [hkeep]
    rfl
  · rw [v2 q q2]
    subst hU
    rw [up_ne q1, up_ne q4, up_ne q3]
  · rw [v2 28 (by omega)]
    subst hU
    simp [up_rd]
  · rw [v2 30 (by omega)]
    subst hU
    rw [up_ne (by omega), up_ne (by omega), up_eq]
  · rw [v2 31 (by omega)]
    subst hU
    rw [up_ne (by omega), up_eq, up_ne (by omega)]
  · rw [v3 x hx, u29]
    by_cases e : inB x (boxOf G c)
    · have hg := hall x e
      have hg' : S 29 x = M c := by simpa using hg
      rw [if_pos ⟨Nat.zero_le _, hg', inBB_01.mpr e⟩, if_pos]
      simp [inBB_01.mpr e]
    · rw [if_neg (fun z => e (inBB_01.mp z.2.2)), (hM x hx).1]
      have : decide (¬ inBB x (boxOf G c) = 0) = false := by
        rw [decide_eq_false_iff_not]
        exact fun z => e (inBB_01.mp z)
      simp only [this, Bool.or_false]
  · refine (hM x hx).2 ?_
    rw [Bool.or_eq_false_iff] at hd
    exact hd.1
