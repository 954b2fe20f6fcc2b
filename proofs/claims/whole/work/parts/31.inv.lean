/-! Part 31: what both objects hold, and that it is the same -/
/-- the number of a box by its six figures -/
def bx (a0 a1 e0 e1 h0 h1 : Nat) : Nat := 100000 * a0 + 10000 * a1 + 1000 * e0 + 100 * e1 + 10 * h0 + h1
def boxOK (b : Int32) : Prop := ∃ a0 a1 e0 e1 h0 h1 : Nat, a0 ≤ a1 ∧ a1 ≤ 7 ∧ e0 ≤ e1 ∧ e1 ≤ 6 ∧ h0 ≤ h1 ∧ h1 ≤ 3 ∧ b = nI (bx a0 a1 e0 e1 h0 h1)
def feeOK (f : Int32) : Prop := ∃ v : Nat, v ≤ 99 ∧ f = nI v
/-- a term of the tables: kind, fee, box, one, other, size -/
def wfT (K F B O T Z : Nat → Int32) (t : Nat) : Prop :=
  (K t = 0 ∧ feeOK (F t) ∧ B t = -5 ∧ O t = -5 ∧ T t = -5 ∧ Z t = 1) ∨
  (K t = 1 ∧ F t = -5 ∧ B t = -5 ∧ O t = -5 ∧ T t = -5 ∧ Z t = 1) ∨
  (K t = 2 ∧ F t = -5 ∧ boxOK (B t) ∧ T t = -5 ∧ ∃ a z, a < t ∧ O t = nI a ∧ Z a = nI z ∧ 1 ≤ z ∧ z < 40 ∧ Z t = nI (z + 1)) ∨
  (K t = 6 ∧ feeOK (F t) ∧ boxOK (B t) ∧ T t = -5 ∧ ∃ a z, a < t ∧ O t = nI a ∧ Z a = nI z ∧ 1 ≤ z ∧ z < 40 ∧ Z t = nI (z + 1)) ∨
  ((K t = 3 ∨ K t = 4 ∨ K t = 5 ∨ K t = 7) ∧ F t = -5 ∧ B t = -5 ∧ ∃ a b z w, a < t ∧ b < t ∧ O t = nI a ∧ T t = nI b ∧ Z a = nI z ∧ Z b = nI w ∧ 1 ≤ z ∧ 1 ≤ w ∧ z + w + 1 ≤ 40 ∧ Z t = nI (z + w + 1))
/-- the terms: C's tables and the reference's agree below the count -/
def jT (n : Nat) (c1 c2 : Int32) (K F B O T Z D K' F' O' T' B' Z' D' : Nat → Int32) : Prop := n ≤ 24 ∧ c1 = nI n ∧ c2 = nI n ∧ ∀ t, t < n → (K' t = K t ∧ F' t = F t ∧ O' t = O t ∧ T' t = T t ∧ B' t = B t ∧ Z' t = Z t ∧ D' t = D t) ∧ wfT K F B O T Z t
/-- what was paid -/
def jP (c1 c2 : Int32) (A F A' F' : Nat → Int32) : Prop := ∃ m, m ≤ 8 ∧ c1 = nI m ∧ c2 = nI m ∧ ∀ k, k < m → A' k = A k ∧ (∃ c, c < 224 ∧ A k = nI c) ∧ ((F k = -5 ∧ F' k = -1) ∨ (feeOK (F k) ∧ F' k = F k))
def jText (m : Nat) (c1 c2 : Int32) (A A' : Nat → Int32) : Prop := ∃ n, n ≤ m ∧ c1 = nI n ∧ c2 = nI n ∧ ∀ k, k < n → A' k = A k
def jRack (l l' : Int32) (A : Nat → Int32) (A' : Nat → Int32) : Prop := (l = -1 ∧ l' = 0) ∨ ∃ n, n ≤ 70 ∧ l = nI n ∧ l' = nI (n + 1) ∧ ∀ k, k < n → A' k = A k
def tb_J (S : tb_St) : Prop :=
  (∃ n, jT n (S 2 7) (S 45 0) (S 3) (S 4) (S 5) (S 6) (S 7) (S 8) (S 9) (S 46) (S 47) (S 48) (S 49) (S 50) (S 51) (S 52)) ∧
  ((S 1 4 = 0 ∧ S 45 32 = 0) ∨ (S 1 4 = 1 ∧ S 45 32 = 1 ∧ (∃ n, jT n (S 13 7) (S 45 33) (S 14) (S 15) (S 16) (S 17) (S 18) (S 19) (S 20) (fun t => S 63 t) (fun t => S 63 (24 + t)) (fun t => S 63 (48 + t)) (fun t => S 63 (72 + t)) (fun t => S 63 (96 + t)) (fun t => S 63 (120 + t)) (fun t => S 63 (144 + t))) ∧
    jP (S 21 2) (S 45 34) (S 22) (S 23) (fun k => S 63 (168 + k)) (fun k => S 63 (176 + k)))) ∧
  jP (S 10 2) (S 45 8) (S 11) (S 12) (S 53) (S 54) ∧
  jText 60 (S 32 2) (S 45 21) (S 33) (S 59) ∧
  jText 7 (S 32 4) (S 45 26) (S 34) (S 61) ∧
  jText 470 (S 36 2) (S 45 30) (S 37) (S 62) ∧
  (∀ q, q < 4 → jRack (S 44 q) (S 64 q) (S (40 + q)) (fun k => S 65 (70 * q + k))) ∧
  S 45 19 = -1
/-- what a question leaves as it is -/
def tb_Kp (S S' : tb_St) : Prop := (∀ q, q ∈ [0, 1, 2, 3, 4, 5, 6, 7, 8, 9, 10, 11, 12, 13, 14, 15, 16, 17, 18, 19, 20, 21, 22, 23, 33, 34, 36, 37, 40, 41, 42, 43, 44, 46, 47, 48, 49, 50, 51, 52, 53, 54, 59, 61, 62, 63, 64, 65] → S' q = S q) ∧ S' 32 2 = S 32 2 ∧ S' 32 4 = S 32 4 ∧ ∀ f, f ∈ [0, 8, 19, 21, 26, 30, 32, 33, 34] → S' 45 f = S 45 f
theorem tb_Kp.refl {S : tb_St} : tb_Kp S S := ⟨fun _ _ => rfl, rfl, rfl, fun _ _ => rfl⟩
theorem tb_Kp.trans {S T U : tb_St} (h : tb_Kp S T) (k : tb_Kp T U) : tb_Kp S U := ⟨fun q hq => (k.1 q hq).trans (h.1 q hq), k.2.1.trans h.2.1, k.2.2.1.trans h.2.2.1, fun f hf => (k.2.2.2 f hf).trans (h.2.2.2 f hf)⟩
theorem tb_Kp.p {S S' : tb_St} (h : tb_Kp S S') (q : Nat) (hq : ([0, 1, 2, 3, 4, 5, 6, 7, 8, 9, 10, 11, 12, 13, 14, 15, 16, 17, 18, 19, 20, 21, 22, 23, 33, 34, 36, 37, 40, 41, 42, 43, 44, 46, 47, 48, 49, 50, 51, 52, 53, 54, 59, 61, 62, 63, 64, 65].contains q) = true) : S' q = S q := h.1 q (List.contains_iff_mem.mp hq)
theorem tb_Kp.f {S S' : tb_St} (h : tb_Kp S S') (f : Nat) (hf : ([0, 8, 19, 21, 26, 30, 32, 33, 34].contains f) = true) : S' 45 f = S 45 f := h.2.2.2 f (List.contains_iff_mem.mp hf)
theorem tb_J.kp {S S' : tb_St} (hJ : tb_J S) (h : tb_Kp S S') : tb_J S' := by
  unfold tb_J at hJ ⊢
  rw [h.p 1 rfl, h.p 2 rfl, h.p 3 rfl, h.p 4 rfl, h.p 5 rfl, h.p 6 rfl, h.p 7 rfl, h.p 8 rfl, h.p 9 rfl, h.p 10 rfl, h.p 11 rfl, h.p 12 rfl, h.p 13 rfl, h.p 14 rfl, h.p 15 rfl, h.p 16 rfl, h.p 17 rfl, h.p 18 rfl, h.p 19 rfl, h.p 20 rfl, h.p 21 rfl, h.p 22 rfl, h.p 23 rfl, h.p 33 rfl, h.p 34 rfl, h.p 36 rfl, h.p 37 rfl, h.p 44 rfl, h.p 46 rfl, h.p 47 rfl, h.p 48 rfl, h.p 49 rfl, h.p 50 rfl, h.p 51 rfl, h.p 52 rfl, h.p 53 rfl, h.p 54 rfl, h.p 59 rfl, h.p 61 rfl, h.p 62 rfl, h.p 63 rfl, h.p 64 rfl, h.p 65 rfl, h.2.1, h.2.2.1, h.f 0 rfl, h.f 8 rfl, h.f 19 rfl, h.f 21 rfl, h.f 26 rfl, h.f 30 rfl, h.f 32 rfl, h.f 33 rfl, h.f 34 rfl]
  refine ⟨hJ.1, hJ.2.1, hJ.2.2.1, hJ.2.2.2.1, hJ.2.2.2.2.1, hJ.2.2.2.2.2.1, fun q hq => ?_, hJ.2.2.2.2.2.2.2⟩
  have h1 := hJ.2.2.2.2.2.2.1 q hq
  obtain rfl | rfl | rfl | rfl : q = 0 ∨ q = 1 ∨ q = 2 ∨ q = 3 := by omega
  · rw [h.p 40 rfl]; exact h1
  · rw [h.p 41 rfl]; exact h1
  · rw [h.p 42 rfl]; exact h1
  · rw [h.p 43 rfl]; exact h1
/-- both calls answer alike, and what was alike stays alike -/
def tb_PI (y z : tb_MD) (a : List Value) : Prop := ∀ S, tb_J S → ∃ v S1 S2, tb_cI 100 y (.ref 1 :: a) S = some (v, S1) ∧ S1 0 = S 0 ∧ tb_cI 100 z (.ref 45 :: a) S1 = some (v, S2) ∧ S2 0 = S 0 ∧ tb_J S2
def tb_PL (y z : tb_MD) (a : List Value) : Prop := ∀ S, tb_J S → ∃ v S1 S2, tb_cL 100 y (.ref 1 :: a) S = some (v, S1) ∧ S1 0 = S 0 ∧ tb_cL 100 z (.ref 45 :: a) S1 = some (v, S2) ∧ S2 0 = S 0 ∧ tb_J S2
/-- of a question: what each of both answers, from any state that holds what is alike -/
theorem tb_PI_ask {y z : tb_MD} {a : List Value} (h : ∀ S, tb_J S → ∃ v, (∃ S1, tb_cI 100 y (.ref 1 :: a) S = some (v, S1) ∧ tb_Kp S S1) ∧ ∀ T, tb_J T → tb_Kp S T → ∃ T1, tb_cI 100 z (.ref 45 :: a) T = some (v, T1) ∧ tb_Kp T T1) : tb_PI y z a := by
  intro S hJ
  obtain ⟨v, ⟨S1, h1, h2⟩, h3⟩ := h S hJ
  obtain ⟨T1, h4, h5⟩ := h3 S1 (hJ.kp h2) h2
  exact ⟨v, S1, T1, h1, h2.p 0 rfl, h4, (h2.trans h5).p 0 rfl, hJ.kp (h2.trans h5)⟩
theorem s_kp {S : tb_St} {q j : Nat} {v : Int32} (hq : ([0, 1, 2, 3, 4, 5, 6, 7, 8, 9, 10, 11, 12, 13, 14, 15, 16, 17, 18, 19, 20, 21, 22, 23, 32, 33, 34, 36, 37, 40, 41, 42, 43, 44, 45, 46, 47, 48, 49, 50, 51, 52, 53, 54, 59, 61, 62, 63, 64, 65].contains q) = false) : tb_Kp S (tb_up S q j v) := by
  have hn : ∀ k, k ∈ [0, 1, 2, 3, 4, 5, 6, 7, 8, 9, 10, 11, 12, 13, 14, 15, 16, 17, 18, 19, 20, 21, 22, 23, 32, 33, 34, 36, 37, 40, 41, 42, 43, 44, 45, 46, 47, 48, 49, 50, 51, 52, 53, 54, 59, 61, 62, 63, 64, 65] → k ≠ q := fun k hk e => by
    subst e
    rw [List.contains_iff_mem.mpr hk] at hq
    cases hq
  refine ⟨fun k hk => up_ne (hn k ?_), by rw [up_ne (hn 32 (by simp))], by rw [up_ne (hn 32 (by simp))], fun f _ => by rw [up_ne (hn 45 (by simp))]⟩
  simp only [List.mem_cons, List.not_mem_nil, or_false] at hk ⊢
  omega
theorem s_kp45 {S : tb_St} {j : Nat} {v : Int32} (hj : ([0, 8, 19, 21, 26, 30, 32, 33, 34].contains j) = false) : tb_Kp S (tb_up S 45 j v) := by
  refine ⟨fun k hk => up_ne (fun e => ?_), by rw [up_ne (by decide)], by rw [up_ne (by decide)], fun f hf => ?_⟩
  · subst e
    revert hk
    decide
  · rw [up_rd, if_neg]
    rintro ⟨-, rfl⟩
    rw [List.contains_iff_mem.mpr hf] at hj
    cases hj
