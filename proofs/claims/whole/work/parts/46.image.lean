/-! Part 46: pairs: count, image, undo -/
/-- a loop that adds up -/
def lp (f : Int32 → Nat → Int32) : Nat → Nat → Int32 → Int32
  | 0, _, a => a
  | g + 1, i, a => lp f g (i + 1) (f a i)
theorem lp_congr {f f' : Int32 → Nat → Int32} : ∀ (g i : Nat) (a : Int32), (∀ a t, i ≤ t → t < i + g → f a t = f' a t) → lp f g i a = lp f' g i a := by
  intro g
  induction g with
  | zero => intro i a _; rfl
  | succ g ih =>
    intro i a h
    show lp f g (i + 1) (f a i) = lp f' g (i + 1) (f' a i)
    rw [h a i (by omega) (by omega), ih (i + 1) _ (fun a t h1 h2 => h a t (by omega) (by omega))]
theorem c_countL {d n : Nat} {S : tb_St} {k : Int32} (hn : n ≤ 24) (h : S 2 7 = nI n) : ∀ (g i : Nat) (a : Int32), i + g = n → tb_E d mX5_countOf tb_dI 4 [.ref 2, .int k, .int a, .int (nI i)] [] tb_S S = some (lp (fun a t => if S 3 t = k then a + 1 else a) g i a, S) := by
  intro g
  induction g with
  | zero =>
    intro i a hi
    refine BX5_countOf_4 ?_
    rw [h, if_pos (by rw [n_le (by omega) (by omega)]; omega)]
    rfl
  | succ g ih =>
    intro i a hi
    refine BX5_countOf_4 ?_
    rw [h, if_neg (by rw [n_le (by omega) (by omega)]; omega), n_ix (by omega) (by omega)]
    simp only [Option.bind_some, n_inc]
    by_cases e : S 3 i = k
    · rw [if_neg (fun z => z e), ih (i + 1) _ (by omega)]
      show _ = some (lp _ g (i + 1) (if S 3 i = k then a + 1 else a), S)
      rw [if_pos e]
    · rw [if_pos e, ih (i + 1) _ (by omega)]
      show _ = some (lp _ g (i + 1) (if S 3 i = k then a + 1 else a), S)
      rw [if_neg e]
theorem r_countL {d n : Nat} {S : tb_St} (hn : n ≤ 24) (h : S 45 0 = nI n) : ∀ (g i : Nat) (a : Int32) (w : Value), i + g = n → tb_E d mX8_count tb_dI 62 [.ref 45, w, .int a, .int (nI i)] [] tb_S S = some (lp (fun a t => if S 46 t = 2 then a + 1 else a) g i a, S) := by
  intro g
  induction g with
  | zero =>
    intro i a w hi
    refine BX8_count_62 ?_
    rw [h, if_pos (by rw [n_le (by omega) (by omega)]; omega)]
    rfl
  | succ g ih =>
    intro i a w hi
    refine BX8_count_62 ?_
    rw [h, if_neg (by rw [n_le (by omega) (by omega)]; omega), n_ix (by omega) (by omega)]
    simp only [Option.bind_some, n_inc]
    by_cases e : S 46 i = 2
    · rw [if_neg (fun z => z e), ih (i + 1) _ _ (by omega)]
      show _ = some (lp _ g (i + 1) (if S 46 i = 2 then a + 1 else a), S)
      rw [if_pos e]
    · rw [if_pos e, ih (i + 1) _ _ (by omega)]
      show _ = some (lp _ g (i + 1) (if S 46 i = 2 then a + 1 else a), S)
      rw [if_neg e]
theorem c_greatL {d n : Nat} {S : tb_St} (hn : n ≤ 24) (h : S 2 7 = nI n) : ∀ (g i : Nat) (a : Int32), i + g = n → tb_E d mX5_greatestSize tb_dI 4 [.ref 2, .int a, .int (nI i)] [] tb_S S = some (lp (fun a t => tb_max a (S 8 t)) g i a, S) := by
  intro g
  induction g with
  | zero =>
    intro i a hi
    refine BX5_greatestSize_4 ?_
    rw [h, if_pos (by rw [n_le (by omega) (by omega)]; omega)]
    rfl
  | succ g ih =>
    intro i a hi
    refine BX5_greatestSize_4 ?_
    rw [h, if_neg (by rw [n_le (by omega) (by omega)]; omega), n_ix (by omega) (by omega)]
    simp only [Option.bind_some, n_inc]
    rw [ih (i + 1) _ (by omega)]
    rfl
theorem r_greatL {d n : Nat} {S : tb_St} (hn : n ≤ 24) (h : S 45 0 = nI n) : ∀ (g i : Nat) (a : Int32) (w : Value), i + g = n → tb_E d mX8_count tb_dI 93 [.ref 45, w, .int a, .int (nI i)] [] tb_S S = some (lp (fun a t => tb_max a (S 51 t)) g i a, S) := by
  intro g
  induction g with
  | zero =>
    intro i a w hi
    refine BX8_count_93 ?_
    rw [h, if_pos (by rw [n_le (by omega) (by omega)]; omega)]
    rfl
  | succ g ih =>
    intro i a w hi
    refine BX8_count_93 ?_
    rw [h, if_neg (by rw [n_le (by omega) (by omega)]; omega), n_ix (by omega) (by omega)]
    simp only [Option.bind_some, n_inc]
    rw [ih (i + 1) _ _ (by omega)]
    rfl
theorem p_count : ∀ a : Int32, tb_PI mX7_count mX8_count [.int a] := by
  intro a S hJ
  obtain ⟨n, hT⟩ := hJ.1
  obtain ⟨m, hm, p1, p2, -⟩ := hJ.2.2.1
  obtain ⟨l, hl, l1, l2, -⟩ := hJ.2.2.2.1
  obtain ⟨q, hq, q1, q2, -⟩ := hJ.2.2.2.2.2.1
  have hw : ∀ t, t < n → S 46 t = S 3 t ∧ S 51 t = S 8 t := fun t ht => ⟨(hT.2.2.2 t ht).1.1, (hT.2.2.2 t ht).1.2.2.2.2.2.1⟩
  have g4 : tb_cI 99 mX5_countOf [.ref 2, .int 2] S = some (lp (fun a t => if S 3 t = 2 then a + 1 else a) n 0 0, S) := MX5_countOf (d := 98) (c_countL hT.1 hT.2.1 n 0 0 (by omega))
  have g5 : tb_cI 99 mX5_greatestSize [.ref 2] S = some (lp (fun a t => tb_max a (S 8 t)) n 0 0, S) := MX5_greatestSize (d := 98) (c_greatL hT.1 hT.2.1 n 0 0 (by omega))
  have r4 := r_countL (d := 99) hT.1 hT.2.2.1 n 0 0 (.int a) (by omega)
  have r5 := r_greatL (d := 99) hT.1 hT.2.2.1 n 0 0 (.int a) (by omega)
  rw [show nI 0 = (0 : Int32) from rfl, lp_congr (f' := fun a t => if S 3 t = 2 then a + 1 else a) n 0 0 (fun a t _ h2 => by rw [(hw t (by omega)).1])] at r4
  rw [show nI 0 = (0 : Int32) from rfl, lp_congr (f' := fun a t => tb_max a (S 8 t)) n 0 0 (fun a t _ h2 => by rw [(hw t (by omega)).2])] at r5
  refine ⟨if a = 0 then nI n else if a = 1 then nI m else if a = 2 then nI l else if a = 3 then nI q else if a = 4 then lp (fun a t => if S 3 t = 2 then a + 1 else a) n 0 0 else if a = 5 then lp (fun a t => tb_max a (S 8 t)) n 0 0 else -2, S, S, MX7_count ?_, rfl, MX8_count ?_, rfl, hJ⟩
  · simp only [hT.2.1, p1, l1, q1, g4, g5, Option.bind_some]
    repeat' split
    all_goals rfl
  · simp only [hT.2.2.1, p2, l2, q2, r4, r5]
    repeat' split
    all_goals rfl

theorem c_copyTi {d n : Nat} (hn : n ≤ 24) : ∀ (g i : Nat) (S : tb_St), i + g = n → S 13 7 = nI n → ∃ S', tb_E d mX5_copyFrom tb_dV 10 [.ref 13, .ref 2, .int (nI i)] [] tb_S S = some S' ∧ (∀ q, q < 14 ∨ 20 < q → S' q = S q) ∧ (∀ m, m < 7 → ∀ t, i ≤ t → t < n → S' (14 + m) t = S (3 + m) t) ∧ ∀ m, m < 7 → ∀ t, t < i → S' (14 + m) t = S (14 + m) t := by
  intro g
  induction g with
  | zero =>
    intro i S hi h
    refine ⟨S, BX5_copyFrom_10 ?_, fun _ _ => rfl, fun m hm t h1 h2 => by omega, fun _ _ _ _ => rfl⟩
    rw [h, if_pos (by rw [n_le (by omega) (by omega)]; omega)]
  | succ g ih =>
    intro i S hi h
    have hx : tb_ix (nI i) 24 = some i := n_ix (by omega) (by omega)
    obtain ⟨S', h1, h2, h3, h4⟩ := ih (i + 1) (tb_up (tb_up (tb_up (tb_up (tb_up (tb_up (tb_up S 14 i (S 3 i)) 15 i (S 4 i)) 16 i (S 5 i)) 17 i (S 6 i)) 18 i (S 7 i)) 19 i (S 8 i)) 20 i (S 9 i)) (by omega) (by simp [up_rd, h])
    refine ⟨S', BX5_copyFrom_10 ?_, fun q hq => ?_, fun m hm t g1 g2 => ?_, fun m hm t g1 => ?_⟩
    · rw [h, if_neg (by rw [n_le (by omega) (by omega)]; omega)]
      simp only [hx, Option.bind_some, n_inc]
      exact h1
    · rw [h2 q hq]
      simp (disch := omega) only [up_ne]
    · by_cases e : t = i
      · subst e
        rw [h4 m hm t (by omega)]
        obtain rfl | rfl | rfl | rfl | rfl | rfl | rfl : m = 0 ∨ m = 1 ∨ m = 2 ∨ m = 3 ∨ m = 4 ∨ m = 5 ∨ m = 6 := by omega
        all_goals simp [up_rd]
      · rw [h3 m hm t (by omega) g2]
        obtain rfl | rfl | rfl | rfl | rfl | rfl | rfl : m = 0 ∨ m = 1 ∨ m = 2 ∨ m = 3 ∨ m = 4 ∨ m = 5 ∨ m = 6 := by omega
        all_goals simp [up_ne]
    · rw [h4 m hm t (by omega)]
      have hne : ¬ t = i := by omega
      simp [up_rd, hne]
theorem c_copyTu {d n : Nat} (hn : n ≤ 24) : ∀ (g i : Nat) (S : tb_St), i + g = n → S 2 7 = nI n → ∃ S', tb_E d mX5_copyFrom tb_dV 10 [.ref 2, .ref 13, .int (nI i)] [] tb_S S = some S' ∧ (∀ q, q < 3 ∨ 9 < q → S' q = S q) ∧ (∀ m, m < 7 → ∀ t, i ≤ t → t < n → S' (3 + m) t = S (14 + m) t) ∧ ∀ m, m < 7 → ∀ t, t < i → S' (3 + m) t = S (3 + m) t := by
  intro g
  induction g with
  | zero =>
    intro i S hi h
    refine ⟨S, BX5_copyFrom_2_10 ?_, fun _ _ => rfl, fun m hm t h1 h2 => by omega, fun _ _ _ _ => rfl⟩
    rw [h, if_pos (by rw [n_le (by omega) (by omega)]; omega)]
  | succ g ih =>
    intro i S hi h
    have hx : tb_ix (nI i) 24 = some i := n_ix (by omega) (by omega)
    obtain ⟨S', h1, h2, h3, h4⟩ := ih (i + 1) (tb_up (tb_up (tb_up (tb_up (tb_up (tb_up (tb_up S 3 i (S 14 i)) 4 i (S 15 i)) 5 i (S 16 i)) 6 i (S 17 i)) 7 i (S 18 i)) 8 i (S 19 i)) 9 i (S 20 i)) (by omega) (by simp [up_rd, h])
    refine ⟨S', BX5_copyFrom_2_10 ?_, fun q hq => ?_, fun m hm t g1 g2 => ?_, fun m hm t g1 => ?_⟩
    · rw [h, if_neg (by rw [n_le (by omega) (by omega)]; omega)]
      simp only [hx, Option.bind_some, n_inc]
      exact h1
    · rw [h2 q hq]
      simp (disch := omega) only [up_ne]
    · by_cases e : t = i
      · subst e
        rw [h4 m hm t (by omega)]
        obtain rfl | rfl | rfl | rfl | rfl | rfl | rfl : m = 0 ∨ m = 1 ∨ m = 2 ∨ m = 3 ∨ m = 4 ∨ m = 5 ∨ m = 6 := by omega
        all_goals simp [up_rd]
      · rw [h3 m hm t (by omega) g2]
        obtain rfl | rfl | rfl | rfl | rfl | rfl | rfl : m = 0 ∨ m = 1 ∨ m = 2 ∨ m = 3 ∨ m = 4 ∨ m = 5 ∨ m = 6 := by omega
        all_goals simp [up_ne]
    · rw [h4 m hm t (by omega)]
      have hne : ¬ t = i := by omega
      simp [up_rd, hne]
theorem c_copyPi {d n : Nat} (hn : n ≤ 8) : ∀ (g i : Nat) (S : tb_St), i + g = n → S 21 2 = nI n → ∃ S', tb_E d mX1_copyFrom tb_dV 10 [.ref 21, .ref 10, .int (nI i)] [] tb_S S = some S' ∧ (∀ q, q < 22 ∨ 23 < q → S' q = S q) ∧ (∀ m, m < 2 → ∀ t, i ≤ t → t < n → S' (22 + m) t = S (11 + m) t) ∧ ∀ m, m < 2 → ∀ t, t < i → S' (22 + m) t = S (22 + m) t := by
  intro g
  induction g with
  | zero =>
    intro i S hi h
    refine ⟨S, BX1_copyFrom_10 ?_, fun _ _ => rfl, fun m hm t h1 h2 => by omega, fun _ _ _ _ => rfl⟩
    rw [h, if_pos (by rw [n_le (by omega) (by omega)]; omega)]
  | succ g ih =>
    intro i S hi h
    have hx : tb_ix (nI i) 8 = some i := n_ix (by omega) (by omega)
    obtain ⟨S', h1, h2, h3, h4⟩ := ih (i + 1) (tb_up (tb_up S 22 i (S 11 i)) 23 i (S 12 i)) (by omega) (by simp [up_rd, h])
    refine ⟨S', BX1_copyFrom_10 ?_, fun q hq => ?_, fun m hm t g1 g2 => ?_, fun m hm t g1 => ?_⟩
    · rw [h, if_neg (by rw [n_le (by omega) (by omega)]; omega)]
      simp only [hx, Option.bind_some, n_inc]
      exact h1
    · rw [h2 q hq]
      simp (disch := omega) only [up_ne]
    · by_cases e : t = i
      · subst e
        rw [h4 m hm t (by omega)]
        obtain rfl | rfl : m = 0 ∨ m = 1 := by omega
        all_goals simp [up_rd]
      · rw [h3 m hm t (by omega) g2]
        obtain rfl | rfl : m = 0 ∨ m = 1 := by omega
        all_goals simp [up_ne]
    · rw [h4 m hm t (by omega)]
      have hne : ¬ t = i := by omega
      simp [up_rd, hne]
theorem c_copyPu {d n : Nat} (hn : n ≤ 8) : ∀ (g i : Nat) (S : tb_St), i + g = n → S 10 2 = nI n → ∃ S', tb_E d mX1_copyFrom tb_dV 10 [.ref 10, .ref 21, .int (nI i)] [] tb_S S = some S' ∧ (∀ q, q < 11 ∨ 12 < q → S' q = S q) ∧ (∀ m, m < 2 → ∀ t, i ≤ t → t < n → S' (11 + m) t = S (22 + m) t) ∧ ∀ m, m < 2 → ∀ t, t < i → S' (11 + m) t = S (11 + m) t := by
  intro g
  induction g with
  | zero =>
    intro i S hi h
    refine ⟨S, BX1_copyFrom_2_10 ?_, fun _ _ => rfl, fun m hm t h1 h2 => by omega, fun _ _ _ _ => rfl⟩
    rw [h, if_pos (by rw [n_le (by omega) (by omega)]; omega)]
  | succ g ih =>
    intro i S hi h
    have hx : tb_ix (nI i) 8 = some i := n_ix (by omega) (by omega)
    obtain ⟨S', h1, h2, h3, h4⟩ := ih (i + 1) (tb_up (tb_up S 11 i (S 22 i)) 12 i (S 23 i)) (by omega) (by simp [up_rd, h])
    refine ⟨S', BX1_copyFrom_2_10 ?_, fun q hq => ?_, fun m hm t g1 g2 => ?_, fun m hm t g1 => ?_⟩
    · rw [h, if_neg (by rw [n_le (by omega) (by omega)]; omega)]
      simp only [hx, Option.bind_some, n_inc]
      exact h1
    · rw [h2 q hq]
      simp (disch := omega) only [up_ne]
    · by_cases e : t = i
      · subst e
        rw [h4 m hm t (by omega)]
        obtain rfl | rfl : m = 0 ∨ m = 1 := by omega
        all_goals simp [up_rd]
      · rw [h3 m hm t (by omega) g2]
        obtain rfl | rfl : m = 0 ∨ m = 1 := by omega
        all_goals simp [up_ne]
    · rw [h4 m hm t (by omega)]
      have hne : ¬ t = i := by omega
      simp [up_rd, hne]
theorem r_im1 {d : Nat} : ∀ (g i : Nat) (S : tb_St), i + g = 24 → ∃ S', (∀ r, tb_E d mX8_image tb_dI 140 [.ref 45, .int (nI 0)] [] tb_S S' = some r → tb_E d mX8_image tb_dI 23 [.ref 45, .int (nI i)] [] tb_S S = some r) ∧ (∀ q, q ≠ 63 → S' q = S q) ∧ (∀ m, m < 7 → ∀ t, i ≤ t → t < 24 → S' 63 (24 * m + t) = S (46 + m) t) ∧ ∀ x, x ≥ 168 ∨ x % 24 < i → S' 63 x = S 63 x := by
  intro g
  induction g with
  | zero =>
    intro i S hi
    refine ⟨S, fun r hr => BX8_image_23 ?_, fun _ _ => rfl, fun m hm t h1 h2 => by omega, fun _ _ => rfl⟩
    rw [if_pos (by rw [show (24 : Int32) = nI 24 from rfl, n_le (by omega) (by omega)]; omega)]
    exact hr
  | succ g ih =>
    intro i S hi
    have hx : tb_ix (nI i) 96 = some i := n_ix (by omega) (by omega)
    have hy : tb_ix (nI i) 184 = some i := n_ix (by omega) (by omega)
    have hz : ∀ (c : Nat) (w : Int32), w = nI c → c ≤ 144 → tb_ix (w + nI i) 184 = some (c + i) := fun c w e hc => by rw [e, n_add (by omega)]; exact n_ix (by omega) (by omega)
    obtain ⟨S', h1, h2, h3, h4⟩ := ih (i + 1) (tb_up (tb_up (tb_up (tb_up (tb_up (tb_up (tb_up S 63 i (S 46 i)) 63 (24 + i) (S 47 i)) 63 (48 + i) (S 48 i)) 63 (72 + i) (S 49 i)) 63 (96 + i) (S 50 i)) 63 (120 + i) (S 51 i)) 63 (144 + i) (S 52 i)) (by omega)
    refine ⟨S', fun r hr => BX8_image_23 ?_, fun q hq => ?_, fun m hm t g1 g2 => ?_, fun x hx => ?_⟩
    · rw [if_neg (by rw [show (24 : Int32) = nI 24 from rfl, n_le (by omega) (by omega)]; omega)]
      simp only [hx, hy, hz 24 24 rfl (by omega), hz 48 48 rfl (by omega), hz 72 72 rfl (by omega), hz 96 96 rfl (by omega), hz 120 120 rfl (by omega), hz 144 144 rfl (by omega), Option.bind_some, n_inc]
      exact h1 r hr
    · rw [h2 q hq]
      simp (disch := omega) only [up_ne]
    · by_cases e : t = i
      · subst e
        rw [h4 (24 * m + t) (Or.inr (by omega))]
        obtain rfl | rfl | rfl | rfl | rfl | rfl | rfl : m = 0 ∨ m = 1 ∨ m = 2 ∨ m = 3 ∨ m = 4 ∨ m = 5 ∨ m = 6 := by omega
        all_goals (simp only [up_rd]; simp)
        all_goals (repeat (rw [if_neg (by omega)]))
      · rw [h3 m hm t (by omega) g2]
        simp (disch := omega) only [up_ne]
    · rw [h4 x (by omega)]
      simp only [up_rd, true_and]
      rw [if_neg (by omega), if_neg (by omega), if_neg (by omega), if_neg (by omega), if_neg (by omega), if_neg (by omega), if_neg (by omega)]
theorem r_im2 {d : Nat} : ∀ (g i : Nat) (S : tb_St), i + g = 8 → ∃ S', tb_E d mX8_image tb_dI 140 [.ref 45, .int (nI i)] [] tb_S S = some (S 45 0, S') ∧ (∀ q, q ≠ 63 → S' q = S q) ∧ (∀ t, i ≤ t → t < 8 → S' 63 (168 + t) = S 53 t ∧ S' 63 (176 + t) = S 54 t) ∧ ∀ x, x < 168 + i ∨ (176 ≤ x ∧ x < 176 + i) → S' 63 x = S 63 x := by
  intro g
  induction g with
  | zero =>
    intro i S hi
    refine ⟨S, BX8_image_140 ?_, fun _ _ => rfl, fun t h1 h2 => by omega, fun _ _ => rfl⟩
    rw [if_pos (by rw [show (8 : Int32) = nI 8 from rfl, n_le (by omega) (by omega)]; omega)]
  | succ g ih =>
    intro i S hi
    have hx : tb_ix (nI i) 8 = some i := n_ix (by omega) (by omega)
    have hz : ∀ (c : Nat) (w : Int32), w = nI c → c ≤ 176 → tb_ix (w + nI i) 184 = some (c + i) := fun c w e hc => by rw [e, n_add (by omega)]; exact n_ix (by omega) (by omega)
    obtain ⟨S', h1, h2, h3, h4⟩ := ih (i + 1) (tb_up (tb_up S 63 (168 + i) (S 53 i)) 63 (176 + i) (S 54 i)) (by omega)
    refine ⟨S', BX8_image_140 ?_, fun q hq => ?_, fun t g1 g2 => ?_, fun x hx => ?_⟩
    · rw [if_neg (by rw [show (8 : Int32) = nI 8 from rfl, n_le (by omega) (by omega)]; omega)]
      simp only [hx, hz 168 168 rfl (by omega), hz 176 176 rfl (by omega), Option.bind_some, n_inc]
      rw [h1]
      simp [up_rd]
    · rw [h2 q hq]
      simp (disch := omega) only [up_ne]
    · by_cases e : t = i
      · subst e
        rw [h4 (168 + t) (Or.inl (by omega)), h4 (176 + t) (Or.inr (by omega))]
        simp only [up_rd, true_and]
        refine ⟨?_, ?_⟩
        · rw [if_neg (by omega), if_pos trivial]
        · rw [if_pos trivial]
      · obtain ⟨k1, k2⟩ := h3 t (by omega) g2
        rw [k1, k2]
        simp [up_ne]
    · rw [h4 x (by omega)]
      simp only [up_rd, true_and]
      rw [if_neg (by omega), if_neg (by omega)]
theorem r_un1 {d : Nat} : ∀ (g i : Nat) (S : tb_St), i + g = 24 → ∃ S', (∀ r, tb_E d mX8_undo tb_dI 145 [.ref 45, .int (nI 0)] [] tb_S S' = some r → tb_E d mX8_undo tb_dI 28 [.ref 45, .int (nI i)] [] tb_S S = some r) ∧ (∀ q, q < 46 ∨ 52 < q → S' q = S q) ∧ (∀ m, m < 7 → ∀ t, i ≤ t → t < 24 → S' (46 + m) t = S 63 (24 * m + t)) ∧ ∀ m, m < 7 → ∀ t, t < i → S' (46 + m) t = S (46 + m) t := by
  intro g
  induction g with
  | zero =>
    intro i S hi
    refine ⟨S, fun r hr => BX8_undo_28 ?_, fun _ _ => rfl, fun m hm t h1 h2 => by omega, fun _ _ _ _ => rfl⟩
    rw [if_pos (by rw [show (24 : Int32) = nI 24 from rfl, n_le (by omega) (by omega)]; omega)]
    exact hr
  | succ g ih =>
    intro i S hi
    have hx : tb_ix (nI i) 96 = some i := n_ix (by omega) (by omega)
    have hy : tb_ix (nI i) 184 = some i := n_ix (by omega) (by omega)
    have hz : ∀ (c : Nat) (w : Int32), w = nI c → c ≤ 144 → tb_ix (w + nI i) 184 = some (c + i) := fun c w e hc => by rw [e, n_add (by omega)]; exact n_ix (by omega) (by omega)
    obtain ⟨S', h1, h2, h3, h4⟩ := ih (i + 1) (tb_up (tb_up (tb_up (tb_up (tb_up (tb_up (tb_up S 46 i (S 63 i)) 47 i (S 63 (24 + i))) 48 i (S 63 (48 + i))) 49 i (S 63 (72 + i))) 50 i (S 63 (96 + i))) 51 i (S 63 (120 + i))) 52 i (S 63 (144 + i))) (by omega)
    refine ⟨S', fun r hr => BX8_undo_28 ?_, fun q hq => ?_, fun m hm t g1 g2 => ?_, fun m hm t g1 => ?_⟩
    · rw [if_neg (by rw [show (24 : Int32) = nI 24 from rfl, n_le (by omega) (by omega)]; omega)]
      simp only [hx, hy, hz 24 24 rfl (by omega), hz 48 48 rfl (by omega), hz 72 72 rfl (by omega), hz 96 96 rfl (by omega), hz 120 120 rfl (by omega), hz 144 144 rfl (by omega), Option.bind_some, n_inc]
      exact h1 r hr
    · rw [h2 q hq]
      simp (disch := omega) only [up_ne]
    · by_cases e : t = i
      · subst e
        rw [h4 m hm t (by omega)]
        obtain rfl | rfl | rfl | rfl | rfl | rfl | rfl : m = 0 ∨ m = 1 ∨ m = 2 ∨ m = 3 ∨ m = 4 ∨ m = 5 ∨ m = 6 := by omega
        all_goals simp [up_rd]
      · rw [h3 m hm t (by omega) g2]
        simp [up_ne]
    · rw [h4 m hm t (by omega)]
      have hne : ¬ t = i := by omega
      simp [up_rd, hne]
theorem r_un2 {d : Nat} : ∀ (g i : Nat) (S : tb_St), i + g = 8 → ∃ S', tb_E d mX8_undo tb_dI 145 [.ref 45, .int (nI i)] [] tb_S S = some (S 45 0, S') ∧ (∀ q, q < 53 ∨ 54 < q → S' q = S q) ∧ (∀ t, i ≤ t → t < 8 → S' 53 t = S 63 (168 + t) ∧ S' 54 t = S 63 (176 + t)) ∧ ∀ t, t < i → S' 53 t = S 53 t ∧ S' 54 t = S 54 t := by
  intro g
  induction g with
  | zero =>
    intro i S hi
    refine ⟨S, BX8_undo_145 ?_, fun _ _ => rfl, fun t h1 h2 => by omega, fun _ _ => ⟨rfl, rfl⟩⟩
    rw [if_pos (by rw [show (8 : Int32) = nI 8 from rfl, n_le (by omega) (by omega)]; omega)]
  | succ g ih =>
    intro i S hi
    have hx : tb_ix (nI i) 8 = some i := n_ix (by omega) (by omega)
    have hz : ∀ (c : Nat) (w : Int32), w = nI c → c ≤ 176 → tb_ix (w + nI i) 184 = some (c + i) := fun c w e hc => by rw [e, n_add (by omega)]; exact n_ix (by omega) (by omega)
    obtain ⟨S', h1, h2, h3, h4⟩ := ih (i + 1) (tb_up (tb_up S 53 i (S 63 (168 + i))) 54 i (S 63 (176 + i))) (by omega)
    refine ⟨S', BX8_undo_145 ?_, fun q hq => ?_, fun t g1 g2 => ?_, fun t g1 => ?_⟩
    · rw [if_neg (by rw [show (8 : Int32) = nI 8 from rfl, n_le (by omega) (by omega)]; omega)]
      simp only [hx, hz 168 168 rfl (by omega), hz 176 176 rfl (by omega), Option.bind_some, n_inc]
      rw [h1]
      simp [up_rd]
    · rw [h2 q hq]
      simp (disch := omega) only [up_ne]
    · by_cases e : t = i
      · subst e
        rw [(h4 t (by omega)).1, (h4 t (by omega)).2]
        simp [up_rd]
      · obtain ⟨k1, k2⟩ := h3 t (by omega) g2
        rw [k1, k2]
        simp [up_ne]
    · have hne : ¬ t = i := by omega
      rw [(h4 t (by omega)).1, (h4 t (by omega)).2]
      simp [up_rd, hne]
