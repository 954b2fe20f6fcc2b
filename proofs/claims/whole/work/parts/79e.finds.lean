/-! Part 79e: the reference finds the boxes -/
noncomputable def Dn (x3 : Int32) (A B : Nat → Int32) (j : Nat) : Bool := if x3 = 2 then decide (A j = B j) else if x3 = 0 then decide (A j = -5) else !decide (A j = -5)
theorem r_markL {d : Nat} {x3 : Int32} {w1 w2 : Value} {A B : Nat → Int32} : ∀ g c T, c + g = 224 → T 55 = A → T 56 = B → ∃ T', (∀ r, tb_cV d mX8_packs [.ref 45] T' = some r → tb_E d mX8_finds tb_dV 35 [.ref 45, w1, w2, .int x3, .int (nI c)] [] tb_S T = some r) ∧ (∀ q, q ≠ 57 → T' q = T q) ∧ ∀ j, j < 224 → T' 57 j = if j < c then T 57 j else if Dn x3 A B j = true then 1 else 0 := by
  intro g
  induction g with
  | zero =>
    intro c T hc hA hB
    refine ⟨T, fun r hr => BX8_finds_35 ?_, fun _ _ => rfl, fun j hj => by rw [if_pos (by omega)]⟩
    obtain rfl : c = 224 := by omega
    rw [if_pos (show (224 : Int32) ≤ nI 224 by decide), hr]
    rfl
  | succ g ih =>
    intro c T hc hA hB
    have hc' : c < 224 := by omega
    have ix : tb_ix (nI c) 224 = some c := n_ix hc' (by omega)
    generalize hv : (if Dn x3 A B c = true then (1 : Int32) else 0) = v at *
    obtain ⟨W, w1', w2', w3'⟩ := ih (c + 1) (tb_up T 57 c v) (by omega) (by rw [up_ne (by omega)]; exact hA) (by rw [up_ne (by omega)]; exact hB)
    refine ⟨W, fun r hr => BX8_finds_35 ?_, fun q hq => by rw [w2' q hq, up_ne hq], fun j hj => ?_⟩
    · have hw := w1' r hr
      rw [if_neg (end224 hc')]
      by_cases e2 : x3 = 2
      · rw [if_neg (fun z => z e2), ix]
        simp only [Option.bind_some]
        rw [hA, hB]
        unfold Dn at hv
        rw [if_pos e2] at hv
        by_cases e : A c = B c
        · rw [if_neg (fun z => z e), n_inc]
          rw [if_pos (by simpa using e)] at hv
          subst hv
          exact hw
        · rw [if_pos e, n_inc]
          rw [if_neg (by simpa using e)] at hv
          subst hv
          exact hw
      · rw [if_pos e2, ix]
        simp only [Option.bind_some]
        rw [hA]
        unfold Dn at hv
        rw [if_neg e2] at hv
        by_cases e : A c = -5
        · rw [if_neg (fun z => z e)]
          by_cases e0 : x3 = 0
          · rw [if_neg (fun z => z e0)]
            refine BX8_finds_105 ?_
            rw [if_neg (by decide), ix]
            simp only [Option.bind_some]
            rw [n_inc]
            rw [if_pos e0, if_pos (by simpa using e)] at hv
            subst hv
            exact hw
          · rw [if_pos e0]
            refine BX8_finds_105 ?_
            rw [if_pos (by decide), ix]
            simp only [Option.bind_some]
            rw [n_inc]
            rw [if_neg e0, if_neg (by simpa using e)] at hv
            subst hv
            exact hw
        · rw [if_pos e]
          by_cases e0 : x3 = 0
          · rw [if_neg (fun z => z e0)]
            refine BX8_finds_105 ?_
            rw [if_pos (by decide), ix]
            simp only [Option.bind_some]
            rw [n_inc]
            rw [if_pos e0, if_neg (by simpa using e)] at hv
            subst hv
            exact hw
          · rw [if_pos e0]
            refine BX8_finds_105 ?_
            rw [if_neg (by decide), ix]
            simp only [Option.bind_some]
            rw [n_inc]
            rw [if_neg e0, if_pos (by simpa using e)] at hv
            subst hv
            exact hw
    · rw [w3' j hj, up_rd]
      by_cases e : j = c
      · rw [if_pos (by omega), if_pos ⟨rfl, e⟩, if_neg (by omega), e, hv]
      · by_cases e2 : j < c
        · rw [if_pos (by omega), if_neg (fun z => e z.2), if_pos e2]
        · rw [if_neg (by omega), if_neg e2]
theorem rof_m1 : ∀ k, rof (-1) k = false := by
  intro k
  unfold rof
  rw [decide_eq_false_iff_not]
  rintro ⟨z1, z2⟩
  exact neg1 z1 z2
theorem kp_finds {T T' : tb_St} (h : ∀ q i, q ≠ 57 → q ≠ 58 → ¬ (q = 45 ∧ i = 14) → T' q i = T q i) : tb_Kp T T' := by
  refine ⟨fun q hq => ?_, h 32 2 (by omega) (by omega) (by omega), h 32 4 (by omega) (by omega) (by omega), fun f hf => h 45 f (by omega) (by omega) ?_⟩
  · simp only [List.mem_cons, List.not_mem_nil, or_false] at hq
    funext i
    exact h q i (by omega) (by omega) (by omega)
  · simp only [List.mem_cons, List.not_mem_nil, or_false] at hf
    omega
theorem r_finds {d n t u : Nat} {S T : tb_St} {x3 : Int32} {M : Nat → Int32} (hT : jTS n S) (ht : t < n) (hu : u < n) (h19 : S 45 19 = -1) (hk : tb_Kp S T)
    (hD : ∀ j, j < 224 → Dn x3 (sayV S t) (sayV S (if x3 = 2 then u else t)) j = decide (M j = -1))
    (hal : ∀ c x, c < 224 → x < 224 → ¬ M c = -1 → ¬ M x = -1 → ((sayV S t x = sayV S t c ∧ sayV S (if x3 = 2 then u else t) x = sayV S (if x3 = 2 then u else t) c) ↔ M x = M c)) :
    ∃ T', tb_cV (d + 29) mX8_finds [.ref 45, .int (nI t), .int (nI u), .int x3] T = some T' ∧ tb_Kp T T' ∧ PKr (pkM M) (sayV S t) (sayV S (if x3 = 2 then u else t)) T' := by
  have k1 : tb_Kp S (tb_up T 45 17 (-1)) := hk.trans (s_kp45 rfl)
  obtain ⟨U, u1, u2, u3, u4, u5⟩ := r_tells (d := d) hT ht h19 k1 (by rw [up_rd, if_pos ⟨rfl, rfl⟩])
  have hu' : (if x3 = 2 then u else t) < n := by split <;> assumption
  obtain ⟨V, v1, v2, v3, v4, v5⟩ := r_tells2 (d := d) (q := fun _ => false) (w := -1) hT hu' h19 (Mt_no (fun _ => rfl) rof_m1 24 _ 0 0) (k1.trans u2) u3
  have a5 : ∀ j, j < 224 → V 55 j = sayV S t j := fun j hj => by rw [v4 55 (by omega) (by omega)]; exact u5 j hj
  have b5 : ∀ j, j < 224 → V 56 j = sayV S (if x3 = 2 then u else t) j := fun j hj => v5 j hj
  obtain ⟨W, w1, w2, w3⟩ := r_markL (d := d + 28) (x3 := x3) (w1 := .int (nI t)) (w2 := .int (nI u)) (A := V 55) (B := V 56) 224 0 V rfl rfl rfl
  have hDn : ∀ j, j < 224 → Dn x3 (V 55) (V 56) j = decide (M j = -1) := fun j hj => by
    rw [← hD j hj]
    unfold Dn
    rw [a5 j hj, b5 j hj]
  have hMk : rMark (tb_up W 45 14 0) (fun c => decide (M c = -1)) := by
    intro x hx
    rw [up_ne (by omega), w3 x hx, if_neg (by omega), hDn x hx]
    by_cases e : M x = -1 <;> simp [e]
  obtain ⟨X, x1, x2, x3', x4, x5⟩ := r_packsL (d := d + 25) (A := V 55) (B := V 56) 224 0 0 (fun c => decide (M c = -1)) (tb_up W 45 14 0) rfl hMk (by rw [up_rd, if_pos ⟨rfl, rfl⟩]; rfl) (by omega) (by rw [up_ne (by omega), w2 55 (by omega)]) (by rw [up_ne (by omega), w2 56 (by omega)])
  have hL : pkL (alR (V 55) (V 56)) 224 0 (fun c => decide (M c = -1)) = pkM M := by
    refine pkL_cg 224 0 _ _ rfl (fun _ _ => rfl) (fun c x h1 h2 h3 h4 => ?_)
    have h := hal c x h1 h2 (by simpa using h3) (by simpa using h4)
    unfold alR alM
    rw [a5 c h1, a5 x h2, b5 c h1, b5 x h2]
    congr 1
    rw [eq_iff_iff]
    exact h
  rw [hL] at x3' x5
  have hkp : tb_Kp V X := kp_finds (fun q i h1 h2 h3 => by rw [x2 q i h1 h2 h3, up_rd, if_neg h3, w2 q h1])
  refine ⟨X, MX8_finds ?_, (((s_kp45 (j := 17) (v := -1) rfl).trans u2).trans v2).trans hkp, ?_, fun j x hx => ?_⟩
  · rw [u1]
    simp only [Option.bind_some]
    have hp : tb_cV (d + 28) mX8_packs [.ref 45] W = some X := MX8_packs (x1 _ _ _ _ _ _ _ _ _ _)
    by_cases e : x3 = 2
    · rw [if_neg (fun z => z e)]
      rw [if_pos e] at v1
      rw [v1]
      exact w1 X hp
    · rw [if_pos e]
      rw [if_neg e] at v1
      rw [v1]
      exact w1 X hp
  · rw [x3', Nat.zero_add]
  · obtain ⟨y1, y2, y3⟩ := x5 j x hx
    rw [Nat.zero_add] at y1 y2 y3
    have hm := (pkM_mem hx).1
    exact ⟨y1, by rw [y2, a5 _ hm], by rw [y3, b5 _ hm]⟩
/-- what the marks say -/
theorem fee_1 {n t c : Nat} {S : tb_St} (hT : jTS n S) (ht : t < n) : feeM S t c = -1 ↔ sayV S t c = -5 := by
  unfold feeM
  by_cases e : sayV S t c = -5
  · rw [if_pos e]; exact ⟨fun _ => e, fun _ => rfl⟩
  · rw [if_neg e]
    rcases say_val (c := c) hT ht with h | h
    · exact absurd h e
    · have h0 := (feeOK_0 h).1
      constructor
      · intro z; rw [z] at h0; exact absurd h0 (by decide)
      · intro z; exact absurd z e
theorem fee_v {S : tb_St} {t c : Nat} (h : ¬ feeM S t c = -1) : feeM S t c = sayV S t c := by
  unfold feeM at *
  by_cases e : sayV S t c = -5
  · rw [if_pos e] at h; exact absurd rfl h
  · rw [if_neg e]
theorem gap_1 {S : tb_St} {t c : Nat} : gapM S t c = -1 ↔ ¬ sayV S t c = -5 := by
  unfold gapM
  by_cases e : sayV S t c = -5
  · rw [if_pos e]; simp [e]
  · rw [if_neg e]; simp [e]
theorem diff_1 {n t u c : Nat} {S : tb_St} (hT : jTS n S) (ht : t < n) (hu : u < n) : diffM S t u c = -1 ↔ sayV S t c = sayV S u c := by
  unfold diffM
  by_cases e : sayV S t c = sayV S u c
  · rw [if_pos e]; exact ⟨fun _ => e, fun _ => rfl⟩
  · rw [if_neg e]
    exact ⟨fun z => absurd z (pair_ne (say_val hT ht) (say_val hT hu)), fun z => absurd z e⟩
theorem diff_v {n t u c : Nat} {S : tb_St} (hT : jTS n S) (ht : t < n) (hu : u < n) (h : ¬ diffM S t u c = -1) : diffM S t u c = pairV (sayV S t c) (sayV S u c) := by
  rw [diff_1 hT ht hu] at h
  unfold diffM
  rw [if_neg h]
theorem r_fees {d n t : Nat} {S T : tb_St} (hT : jTS n S) (ht : t < n) (h19 : S 45 19 = -1) (hk : tb_Kp S T) :
    ∃ T', tb_cV (d + 29) mX8_finds [.ref 45, .int (nI t), .int (nI t), .int 0] T = some T' ∧ tb_Kp T T' ∧ PKr (pkM (feeM S t)) (sayV S t) (sayV S t) T' := by
  have e2 : (if (0 : Int32) = 2 then t else t) = t := by split <;> rfl
  have h := r_finds (d := d) (x3 := 0) (M := feeM S t) hT ht ht h19 hk (fun j hj => by
    unfold Dn
    rw [if_neg (by decide), if_pos rfl]
    congr 1
    rw [eq_iff_iff]
    exact (fee_1 hT ht).symm) (fun c x hc hx h1 h2 => by
    rw [e2, fee_v h1, fee_v h2]
    exact ⟨fun z => z.1, fun z => ⟨z, z⟩⟩)
  rw [e2] at h
  exact h
theorem r_gaps {d n t : Nat} {S T : tb_St} (hT : jTS n S) (ht : t < n) (h19 : S 45 19 = -1) (hk : tb_Kp S T) :
    ∃ T', tb_cV (d + 29) mX8_finds [.ref 45, .int (nI t), .int (nI t), .int 1] T = some T' ∧ tb_Kp T T' ∧ PKr (pkM (gapM S t)) (sayV S t) (sayV S t) T' := by
  have e2 : (if (1 : Int32) = 2 then t else t) = t := by split <;> rfl
  have h := r_finds (d := d) (x3 := 1) (M := gapM S t) hT ht ht h19 hk (fun j hj => by
    unfold Dn
    rw [if_neg (by decide), if_neg (by decide)]
    by_cases e : sayV S t j = -5
    · have : ¬ gapM S t j = -1 := fun z => gap_1.mp z e
      simp [e, this]
    · have := gap_1.mpr e
      simp [e, this]) (fun c x hc hx h1 h2 => by
    rw [e2]
    have g1 : sayV S t c = -5 := by
      by_cases e : sayV S t c = -5
      · exact e
      · exact absurd (gap_1.mpr e) h1
    have g2 : sayV S t x = -5 := by
      by_cases e : sayV S t x = -5
      · exact e
      · exact absurd (gap_1.mpr e) h2
    unfold gapM
    rw [g1, g2]
    simp)
  rw [e2] at h
  exact h
theorem r_diffs {d n t u : Nat} {S T : tb_St} (hT : jTS n S) (ht : t < n) (hu : u < n) (h19 : S 45 19 = -1) (hk : tb_Kp S T) :
    ∃ T', tb_cV (d + 29) mX8_finds [.ref 45, .int (nI t), .int (nI u), .int 2] T = some T' ∧ tb_Kp T T' ∧ PKr (pkM (diffM S t u)) (sayV S t) (sayV S u) T' := by
  have e2 : (if (2 : Int32) = 2 then u else t) = u := if_pos rfl
  have h := r_finds (d := d) (x3 := 2) (M := diffM S t u) hT ht hu h19 hk (fun j hj => by
    unfold Dn
    rw [if_pos rfl, e2]
    congr 1
    rw [eq_iff_iff]
    exact (diff_1 hT ht hu).symm) (fun c x hc hx h1 h2 => by
    rw [e2, diff_v hT ht hu h1, diff_v hT ht hu h2]
    exact ⟨fun z => by rw [z.1, z.2], fun z => pair_inj (say_val hT ht) (say_val hT hu) (say_val hT ht) (say_val hT hu) z⟩)
  rw [e2] at h
  exact h
