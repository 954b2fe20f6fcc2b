/-! Part 74: packing: the boxes as a list -/
def boxOf (G : Nat → Bool) (c : Nat) : Nat := bx (c / 28) (bxA G (c / 28) (c / 4 % 7) (c % 4)) (c / 4 % 7) (bxD G (c / 28) (c / 4 % 7) (c % 4)) (c % 4) (bxH G (c / 28) (c / 4 % 7) (c % 4))
theorem rngB_cg {P Q : Nat → Bool} {n lo : Nat} (h : ∀ i, lo ≤ i → i < lo + n → P i = Q i) : rngB P n lo = rngB Q n lo := by
  induction n generalizing lo with
  | zero => rfl
  | succ n ih =>
    unfold rngB
    rw [h lo (by omega) (by omega), ih (fun i h1 h2 => h i (by omega) (by omega))]
theorem ext_cg {P Q : Nat → Bool} : ∀ f x, (∀ y, x < y → y ≤ x + f → P y = Q y) → ext P f x = ext Q f x := by
  intro f
  induction f with
  | zero => intro x _; rfl
  | succ f ih =>
    intro x h
    unfold ext
    rw [h (x + 1) (by omega) (by omega), ih (x + 1) (fun y h1 h2 => h y (by omega) (by omega))]
theorem hrs_cg {G H : Nat → Bool} {n h a e : Nat} (hG : ∀ c, c < 224 → G c = H c) (ha : a ≤ 7) (he : e ≤ 6) (hn : h + n ≤ 4) : hrsB G n h a e = hrsB H n h a e :=
  rngB_cg (fun i h1 h2 => hG _ (by omega))
theorem dys_cg {G H : Nat → Bool} {m e n h a : Nat} (hG : ∀ c, c < 224 → G c = H c) (ha : a ≤ 7) (hm : e + m ≤ 7) (hn : h + n ≤ 4) : dysB G m e n h a = dysB H m e n h a :=
  rngB_cg (fun i h1 h2 => hrs_cg hG ha (by omega) hn)
theorem bxH_le {G : Nat → Bool} {a e h : Nat} (hh : h ≤ 3) : h ≤ bxH G a e h ∧ bxH G a e h ≤ 3 := by
  have := ext_ok (P := fun y => hrsB G 1 y a e) (3 - h) h
  unfold bxH
  omega
theorem bxD_le {G : Nat → Bool} {a e h : Nat} (he : e ≤ 6) : e ≤ bxD G a e h ∧ bxD G a e h ≤ 6 := by
  have := ext_ok (P := fun y => hrsB G (bxH G a e h + 1 - h) h a y) (6 - e) e
  unfold bxD
  omega
theorem bxA_le {G : Nat → Bool} {a e h : Nat} (ha : a ≤ 7) : a ≤ bxA G a e h ∧ bxA G a e h ≤ 7 := by
  have := ext_ok (P := fun y => dysB G (bxD G a e h + 1 - e) e (bxH G a e h + 1 - h) h y) (7 - a) a
  unfold bxA
  omega
theorem bxH_cg {G H : Nat → Bool} {a e h : Nat} (hG : ∀ c, c < 224 → G c = H c) (ha : a ≤ 7) (he : e ≤ 6) : bxH G a e h = bxH H a e h := by
  by_cases hh : h ≤ 3
  · exact ext_cg _ _ (fun y h1 h2 => hrs_cg hG ha he (by omega))
  · unfold bxH
    rw [show 3 - h = 0 by omega]
    rfl
theorem bxD_cg {G H : Nat → Bool} {a e h : Nat} (hG : ∀ c, c < 224 → G c = H c) (ha : a ≤ 7) (he : e ≤ 6) (hh : h ≤ 3) : bxD G a e h = bxD H a e h := by
  have hb := bxH_le (G := G) (a := a) (e := e) hh
  unfold bxD
  rw [← bxH_cg hG ha he]
  exact ext_cg _ _ (fun y h1 h2 => hrs_cg hG ha (by omega) (by omega))
theorem bxA_cg {G H : Nat → Bool} {a e h : Nat} (hG : ∀ c, c < 224 → G c = H c) (ha : a ≤ 7) (he : e ≤ 6) (hh : h ≤ 3) : bxA G a e h = bxA H a e h := by
  have hb := bxH_le (G := G) (a := a) (e := e) hh
  have hd := bxD_le (G := G) (a := a) (h := h) he
  unfold bxA
  rw [← bxH_cg hG ha he, ← bxD_cg hG ha he hh]
  exact ext_cg _ _ (fun y h1 h2 => dys_cg hG (by omega) (by omega) (by omega))
theorem boxOf_cg {G H : Nat → Bool} {c : Nat} (hG : ∀ c, c < 224 → G c = H c) (hc : c < 224) : boxOf G c = boxOf H c := by
  unfold boxOf
  rw [bxH_cg hG (show c / 28 ≤ 7 by omega) (show c / 4 % 7 ≤ 6 by omega), bxD_cg hG (show c / 28 ≤ 7 by omega) (show c / 4 % 7 ≤ 6 by omega) (show c % 4 ≤ 3 by omega), bxA_cg hG (show c / 28 ≤ 7 by omega) (show c / 4 % 7 ≤ 6 by omega) (show c % 4 ≤ 3 by omega)]
theorem boxOf_fig {G : Nat → Bool} {c : Nat} (hc : c < 224) : boxOf G c ≤ 999999 ∧ figM (boxOf G c) 0 = c / 28 ∧ figM (boxOf G c) 1 = bxA G (c / 28) (c / 4 % 7) (c % 4) ∧ figM (boxOf G c) 2 = c / 4 % 7 ∧ figM (boxOf G c) 3 = bxD G (c / 28) (c / 4 % 7) (c % 4) ∧ figM (boxOf G c) 4 = c % 4 ∧ figM (boxOf G c) 5 = bxH G (c / 28) (c / 4 % 7) (c % 4) := by
  have h1 := bxH_le (G := G) (a := c / 28) (e := c / 4 % 7) (show c % 4 ≤ 3 by omega)
  have h2 := bxD_le (G := G) (a := c / 28) (h := c % 4) (show c / 4 % 7 ≤ 6 by omega)
  have h3 := bxA_le (G := G) (e := c / 4 % 7) (h := c % 4) (show c / 28 ≤ 7 by omega)
  refine ⟨?_, fig_bx (by omega) (by omega) (by omega) (by omega) (by omega) (by omega)⟩
  unfold boxOf bx
  omega
/-- every case of the box goes with the corner -/
theorem boxOf_all {G : Nat → Bool} {c j : Nat} (hc : c < 224) (hG : G c = true) (hj : inB j (boxOf G c)) : G j = true := by
  obtain ⟨-, f0, f1, f2, f3, f4, f5⟩ := boxOf_fig (G := G) hc
  unfold inB at hj
  rw [f0, f1, f2, f3, f4, f5] at hj
  obtain ⟨j1, j2, j3, j4, j5, j6⟩ := hj
  have hh : ∀ y, c % 4 ≤ y → y ≤ bxH G (c / 28) (c / 4 % 7) (c % 4) → G (28 * (c / 28) + 4 * (c / 4 % 7) + y) = true := by
    intro y h1 h2
    by_cases e : y = c % 4
    · rw [e, show 28 * (c / 28) + 4 * (c / 4 % 7) + c % 4 = c by omega]; exact hG
    · have h := (ext_ok (P := fun y => hrsB G 1 y (c / 28) (c / 4 % 7)) (3 - c % 4) (c % 4)).2.2 y (by omega) h2
      exact (rngB_all 1 y).mp h y (by omega) (by omega)
  have hd : ∀ x y, c / 4 % 7 ≤ x → x ≤ bxD G (c / 28) (c / 4 % 7) (c % 4) → c % 4 ≤ y → y ≤ bxH G (c / 28) (c / 4 % 7) (c % 4) → G (28 * (c / 28) + 4 * x + y) = true := by
    intro x y h1 h2 h3 h4
    by_cases e : x = c / 4 % 7
    · rw [e]; exact hh y h3 h4
    · have h := (ext_ok (P := fun y => hrsB G (bxH G (c / 28) (c / 4 % 7) (c % 4) + 1 - c % 4) (c % 4) (c / 28) y) (6 - c / 4 % 7) (c / 4 % 7)).2.2 x (by omega) h2
      exact (rngB_all _ _).mp h y h3 (by omega)
  have ha : ∀ z x y, c / 28 ≤ z → z ≤ bxA G (c / 28) (c / 4 % 7) (c % 4) → c / 4 % 7 ≤ x → x ≤ bxD G (c / 28) (c / 4 % 7) (c % 4) → c % 4 ≤ y → y ≤ bxH G (c / 28) (c / 4 % 7) (c % 4) → G (28 * z + 4 * x + y) = true := by
    intro z x y h1 h2 h3 h4 h5 h6
    by_cases e : z = c / 28
    · rw [e]; exact hd x y h3 h4 h5 h6
    · have h := (ext_ok (P := fun y => dysB G (bxD G (c / 28) (c / 4 % 7) (c % 4) + 1 - c / 4 % 7) (c / 4 % 7) (bxH G (c / 28) (c / 4 % 7) (c % 4) + 1 - c % 4) (c % 4) y) (7 - c / 28) (c / 28)).2.2 z (by omega) h2
      exact (rngB_all _ _).mp ((rngB_all _ _).mp h x h3 (by omega)) y h5 (by omega)
  have h := ha (j / 28) (j / 4 % 7) (j % 4) j1 j2 j3 j4 j5 j6
  rw [show 28 * (j / 28) + 4 * (j / 4 % 7) + j % 4 = j by omega] at h
  exact h
