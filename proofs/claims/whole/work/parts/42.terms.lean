/-! Part 42: terms come: flat, empty, when, cap, two; drop -/
def oN : Option Nat → Int32
  | none => -5
  | some a => nI a
def szo (Z : Nat → Int32) : Option Nat → Int32
  | none => 0
  | some a => Z a
def dpo (D : Nat → Int32) : Option Nat → Int32
  | none => -1
  | some a => D a
theorem tb_J.terms {S S' : tb_St} (hJ : tb_J S) (h0 : ∀ q, q ∈ [1, 10, 11, 12, 13, 14, 15, 16, 17, 18, 19, 20, 21, 22, 23, 33, 34, 36, 37, 40, 41, 42, 43, 44, 53, 54, 59, 61, 62, 63, 64, 65] → S' q = S q) (h32 : S' 32 2 = S 32 2 ∧ S' 32 4 = S 32 4) (h45 : ∀ f, f ∈ [8, 19, 21, 26, 30, 32, 33, 34] → S' 45 f = S 45 f) (hT : ∃ n, jT n (S' 2 7) (S' 45 0) (S' 3) (S' 4) (S' 5) (S' 6) (S' 7) (S' 8) (S' 9) (S' 46) (S' 47) (S' 48) (S' 49) (S' 50) (S' 51) (S' 52)) : tb_J S' := by
  have p : ∀ q, ([1, 10, 11, 12, 13, 14, 15, 16, 17, 18, 19, 20, 21, 22, 23, 33, 34, 36, 37, 40, 41, 42, 43, 44, 53, 54, 59, 61, 62, 63, 64, 65].contains q) = true → S' q = S q := fun q hq => h0 q (List.contains_iff_mem.mp hq)
  have f : ∀ q, ([8, 19, 21, 26, 30, 32, 33, 34].contains q) = true → S' 45 q = S 45 q := fun q hq => h45 q (List.contains_iff_mem.mp hq)
  refine ⟨hT, ?_⟩
  rw [p 1 rfl, p 10 rfl, p 11 rfl, p 12 rfl, p 13 rfl, p 14 rfl, p 15 rfl, p 16 rfl, p 17 rfl, p 18 rfl, p 19 rfl, p 20 rfl, p 21 rfl, p 22 rfl, p 23 rfl, p 33 rfl, p 34 rfl, p 36 rfl, p 37 rfl, p 44 rfl, p 53 rfl, p 54 rfl, p 59 rfl, p 61 rfl, p 62 rfl, p 63 rfl, p 64 rfl, p 65 rfl, h32.1, h32.2, f 8 rfl, f 19 rfl, f 21 rfl, f 26 rfl, f 30 rfl, f 32 rfl, f 33 rfl, f 34 rfl]
  have hJ := hJ.2
  refine ⟨hJ.1, hJ.2.1, hJ.2.2.1, hJ.2.2.2.1, hJ.2.2.2.2.1, fun q hq => ?_, hJ.2.2.2.2.2.2⟩
  have h1 := hJ.2.2.2.2.2.1 q hq
  obtain rfl | rfl | rfl | rfl : q = 0 ∨ q = 1 ∨ q = 2 ∨ q = 3 := by omega
  · rw [p 40 rfl]; exact h1
  · rw [p 41 rfl]; exact h1
  · rw [p 42 rfl]; exact h1
  · rw [p 43 rfl]; exact h1
theorem n5n (k : Nat) (h : k < 2 ^ 31) : ¬ nI k = -5 := n_ne_neg h (by decide)
theorem c_size {d n : Nat} {S : tb_St} {o : Option Nat} (hn : n ≤ 24) (h : S 2 7 = nI n) (ho : ∀ a, o = some a → a < n) : tb_cI (d + 2) mX5_sizeOf [.ref 2, .int (oN o)] S = some (szo (S 8) o, S) := by
  refine MX5_sizeOf ?_
  rw [s_has]
  simp only [Option.bind_some, b2_0, h]
  cases o with
  | none => rw [if_pos (by rintro ⟨q, -⟩; exact absurd q (by decide))]; rfl
  | some a =>
    have ha := ho a rfl
    rw [if_neg (fun z => z ⟨n_nn (by omega), (n_lt (by omega) (by omega)).mpr ha⟩)]
    show (tb_ix (nI a) 24).bind _ = _
    rw [n_ix (by omega) (by omega)]
    rfl
theorem c_depth {d n : Nat} {S : tb_St} {o : Option Nat} (hn : n ≤ 24) (h : S 2 7 = nI n) (ho : ∀ a, o = some a → a < n) : tb_cI (d + 2) mX5_depthOf [.ref 2, .int (oN o)] S = some (dpo (S 9) o, S) := by
  refine MX5_depthOf ?_
  rw [s_has]
  simp only [Option.bind_some, b2_0, h]
  cases o with
  | none => rw [if_pos (by rintro ⟨q, -⟩; exact absurd q (by decide))]; rfl
  | some a =>
    have ha := ho a rfl
    rw [if_neg (fun z => z ⟨n_nn (by omega), (n_lt (by omega) (by omega)).mpr ha⟩)]
    show (tb_ix (nI a) 24).bind _ = _
    rw [n_ix (by omega) (by omega)]
    rfl
def addC (S : tb_St) (n : Nat) (k f b : Int32) (o t : Option Nat) : tb_St := tb_up (tb_up (tb_up (tb_up (tb_up (tb_up (tb_up (tb_up S 3 n k) 4 n f) 5 n b) 6 n (oN o)) 7 n (oN t)) 8 n (1 + szo (S 8) o + szo (S 8) t)) 9 n (1 + tb_max (dpo (S 9) o) (dpo (S 9) t))) 2 7 (nI (n + 1))
def layR (S : tb_St) (n : Nat) (k f b : Int32) (o t : Option Nat) : tb_St := tb_up (tb_up (tb_up (tb_up (tb_up (tb_up (tb_up S 46 n k) 47 n f) 48 n (oN o)) 49 n (oN t)) 50 n b) 51 n (1 + szo (S 51) o + szo (S 51) t)) 52 n (tb_max (dpo (S 52) o) (dpo (S 52) t) + 1)
theorem c_add {d n : Nat} {S : tb_St} {k f b : Int32} {o t : Option Nat} (hn : n ≤ 24) (h : S 2 7 = nI n) (ho : ∀ a, o = some a → a < n) (ht : ∀ a, t = some a → a < n) :
    tb_cI (d + 3) mX5_add [.ref 2, .int k, .int f, .int b, .int (oN o), .int (oN t)] S = some (if n < 24 ∧ 1 + szo (S 8) o + szo (S 8) t ≤ 40 then (nI n, addC S n k f b o t) else (-4, S)) := by
  refine MX5_add ?_
  rw [c_size hn h ho]
  simp only [Option.bind_some]
  rw [c_size hn h ht]
  simp only [Option.bind_some, h]
  by_cases h24 : n < 24
  · rw [if_neg (show ¬ (24 : Int32) ≤ nI n by rw [show (24 : Int32) = nI 24 from rfl, n_le (by omega) (by omega)]; omega)]
    by_cases hs : 1 + szo (S 8) o + szo (S 8) t ≤ 40
    · rw [if_pos hs, if_pos ⟨h24, hs⟩]
      simp only [n_ix h24 (show 24 ≤ 2 ^ 31 by omega), Option.bind_some]
      generalize hT : tb_up (tb_up (tb_up (tb_up (tb_up (tb_up S 3 n k) 4 n f) 5 n b) 6 n (oN o)) 7 n (oN t)) 8 n (1 + szo (S 8) o + szo (S 8) t) = T
      have e2 : T 2 7 = nI n := by subst hT; simp [up_rd, h]
      have e9 : T 9 = S 9 := by subst hT; simp [up_ne]
      rw [c_depth hn e2 ho]
      simp only [Option.bind_some]
      rw [c_depth hn e2 ht]
      simp only [Option.bind_some, e2, n_inc, e9]
      have hsub : nI (n + 1) - (1 : Int32) = nI n := nI_pred n
      rw [hsub]
      subst hT
      rfl
    · rw [if_neg hs, if_neg (fun z => hs z.2)]
  · rw [if_pos (show (24 : Int32) ≤ nI n by rw [show (24 : Int32) = nI 24 from rfl, n_le (by omega) (by omega)]; omega), if_neg (fun z => h24 z.1)]
theorem r_lays {d n : Nat} {S : tb_St} {k f b : Int32} {o t : Option Nat} (hn : n < 96) (ho : ∀ a, o = some a → a < n) (ht : ∀ a, t = some a → a < n) :
    tb_cV (d + 1) mX8_lays [.ref 45, .int (nI n), .int k, .int f, .int (oN o), .int (oN t), .int b] S = some (layR S n k f b o t) := by
  refine MX8_lays ?_
  have hx : tb_ix (nI n) 96 = some n := n_ix hn (by omega)
  simp only [hx, Option.bind_some]
  generalize hT : tb_up (tb_up (tb_up (tb_up (tb_up S 46 n k) 47 n f) 48 n (oN o)) 49 n (oN t)) 50 n b = T
  have e51 : T 51 = S 51 := by subst hT; simp [up_ne]
  have e52 : T 52 = S 52 := by subst hT; simp [up_ne]
  have hneg : oN none < 0 := by show (-5 : Int32) < 0; decide
  have h95 : ∀ (s : Int32) (w2 w3 w4 w6 w7 : Value) (U : tb_St), U 52 = S 52 → tb_E d mX8_lays tb_dV 95 [.ref 45, .int (nI n), w2, w3, w4, .int (oN t), w6, w7] [.int s] tb_S U = some (tb_up U 52 n (tb_max s (dpo (S 52) t) + 1)) := by
    intro s w2 w3 w4 w6 w7 U hU
    refine BX8_lays_95 ?_
    cases t with
    | none =>
      rw [if_pos hneg, hx]
      rfl
    | some a =>
      have ha := ht a rfl
      rw [if_neg (show ¬ oN (some a) < 0 from n_nlt (by omega))]
      show (tb_ix (nI a) 96).bind _ = _
      rw [n_ix (by omega) (by omega)]
      simp only [Option.bind_some, hx, hU]
      rfl
  have h77 : ∀ (s0 s1 : Int32) (w2 w3 w6 w7 : Value) (U : tb_St), U 52 = S 52 → tb_E d mX8_lays tb_dV 77 [.ref 45, .int (nI n), w2, w3, .int (oN o), .int (oN t), w6, w7] [.int s0, .int s1, .int (nI n), .ref 51] tb_S U = some (tb_up (tb_up U 51 n (s1 + s0)) 52 n (tb_max (dpo (S 52) o) (dpo (S 52) t) + 1)) := by
    intro s0 s1 w2 w3 w6 w7 U hU
    refine BX8_lays_77 ?_
    rw [hx]
    simp only [Option.bind_some]
    have hU2 : (tb_up U 51 n (s1 + s0)) 52 = S 52 := by rw [up_ne (by decide)]; exact hU
    cases o with
    | none =>
      rw [if_pos hneg, h95 _ _ _ _ _ _ _ hU2]
      rfl
    | some a =>
      have ha := ho a rfl
      rw [if_neg (show ¬ oN (some a) < 0 from n_nlt (by omega))]
      show (tb_ix (nI a) 96).bind _ = _
      rw [n_ix (by omega) (by omega)]
      simp only [Option.bind_some, hU]
      rw [h95 _ _ _ _ _ _ _ hU2]
      rfl
  have h60 : ∀ (s0 s1 : Int32) (w2 w3 w6 w7 : Value), tb_E d mX8_lays tb_dV 60 [.ref 45, .int (nI n), w2, w3, .int (oN o), .int (oN t), w6, w7] [.int s0, .int s1, .int (nI n), .ref 51] tb_S T = some (tb_up (tb_up T 51 n ((s1 + s0) + szo (S 51) t)) 52 n (tb_max (dpo (S 52) o) (dpo (S 52) t) + 1)) := by
    intro s0 s1 w2 w3 w6 w7
    refine BX8_lays_60 ?_
    cases t with
    | none => rw [if_pos hneg, h77 _ _ _ _ _ _ _ e52]; rfl
    | some a =>
      have ha := ht a rfl
      rw [if_neg (show ¬ oN (some a) < 0 from n_nlt (by omega))]
      show (tb_ix (nI a) 96).bind _ = _
      rw [n_ix (by omega) (by omega)]
      simp only [Option.bind_some]
      rw [h77 _ _ _ _ _ _ _ e52, e51]
      rfl
  cases o with
  | none => rw [if_pos hneg, h60]; subst hT; rfl
  | some a =>
    have ha := ho a rfl
    rw [if_neg (show ¬ oN (some a) < 0 from n_nlt (by omega))]
    show (tb_ix (nI a) 96).bind _ = _
    rw [n_ix (by omega) (by omega)]
    simp only [Option.bind_some]
    rw [h60]
    subst hT
    rfl
theorem r_adds {d n : Nat} {S : tb_St} {k f b : Int32} {o t : Option Nat} (hn : n ≤ 24) (h : S 45 0 = nI n) (ho : ∀ a, o = some a → a < n) (ht : ∀ a, t = some a → a < n) :
    tb_cI (d + 2) mX8_adds [.ref 45, .int k, .int f, .int (oN o), .int (oN t), .int b] S = some (if n < 24 then (if 1 + szo (S 51) o + szo (S 51) t ≤ 40 then (nI n, tb_up (layR S n k f b o t) 45 0 (nI (n + 1))) else (-4, layR S n k f b o t)) else (-4, S)) := by
  refine MX8_adds ?_
  rw [h]
  by_cases h24 : n < 24
  · rw [if_pos (show ¬ nI n = 24 by rw [show (24 : Int32) = nI 24 from rfl, n_eq (by omega) (by omega)]; omega), r_lays (by omega) ho ht, if_pos h24]
    simp only [Option.bind_some]
    have e0 : layR S n k f b o t 45 0 = nI n := by unfold layR; simp [up_rd, h]
    have e51 : layR S n k f b o t 51 n = 1 + szo (S 51) o + szo (S 51) t := by unfold layR; simp [up_rd]
    rw [e0, n_ix (by omega) (by omega)]
    simp only [Option.bind_some, e51, n_inc]
    split <;> rfl
  · rw [if_neg (show ¬ ¬ nI n = 24 by rw [show (24 : Int32) = nI 24 from rfl, n_eq (by omega) (by omega)]; omega), if_neg h24]
theorem wfT_congr {K F B O T Z K' F' B' O' T' Z' : Nat → Int32} {t : Nat} (h : ∀ a, a ≤ t → K' a = K a ∧ F' a = F a ∧ B' a = B a ∧ O' a = O a ∧ T' a = T a ∧ Z' a = Z a) (w : wfT K F B O T Z t) : wfT K' F' B' O' T' Z' t := by
  obtain ⟨e1, e2, e3, e4, e5, e6⟩ := h t (Nat.le_refl t)
  unfold wfT at w ⊢
  rw [e1, e2, e3, e4, e5, e6]
  rcases w with w | w | ⟨w1, w2, w3, w4, a, z, w5, w6, w7, w8⟩ | ⟨w1, w2, w3, w4, a, z, w5, w6, w7, w8⟩ | ⟨w1, w2, w3, a, b, z, w, w5, w6, w7, w8, w9, w10, w11⟩
  · exact Or.inl w
  · exact Or.inr (Or.inl w)
  · exact Or.inr (Or.inr (Or.inl ⟨w1, w2, w3, w4, a, z, w5, w6, by rw [(h a (by omega)).2.2.2.2.2]; exact w7, w8⟩))
  · exact Or.inr (Or.inr (Or.inr (Or.inl ⟨w1, w2, w3, w4, a, z, w5, w6, by rw [(h a (by omega)).2.2.2.2.2]; exact w7, w8⟩)))
  · exact Or.inr (Or.inr (Or.inr (Or.inr ⟨w1, w2, w3, a, b, z, w, w5, w6, w7, w8, by rw [(h a (by omega)).2.2.2.2.2]; exact w9, by rw [(h b (by omega)).2.2.2.2.2]; exact w10, w11⟩)))
/-- the size of a term of the tables -/
theorem wfT_size {K F B O T Z : Nat → Int32} {t : Nat} (w : wfT K F B O T Z t) : ∃ z, Z t = nI z ∧ 1 ≤ z ∧ z ≤ 40 := by
  rcases w with w | w | ⟨w1, w2, w3, w4, a, z, w5, w6, w7, w8, w9, w10⟩ | ⟨w1, w2, w3, w4, a, z, w5, w6, w7, w8, w9, w10⟩ | ⟨w1, w2, w3, a, b, z, w, w5, w6, w7, w8, w9, w10, w11, w12, w13, w14⟩
  · exact ⟨1, w.2.2.2.2.2, by omega, by omega⟩
  · exact ⟨1, w.2.2.2.2.2, by omega, by omega⟩
  · exact ⟨z + 1, w10, by omega, by omega⟩
  · exact ⟨z + 1, w10, by omega, by omega⟩
  · exact ⟨z + w + 1, w14, by omega, by omega⟩
/-- a new record that keeps the tables well formed -/
def recOK (Z : Nat → Int32) (n : Nat) (k f b : Int32) (o t : Option Nat) : Prop :=
  (k = 0 ∧ feeOK f ∧ b = -5 ∧ o = none ∧ t = none) ∨ (k = 1 ∧ f = -5 ∧ b = -5 ∧ o = none ∧ t = none) ∨
  (k = 2 ∧ f = -5 ∧ boxOK b ∧ t = none ∧ ∃ a, o = some a ∧ a < n) ∨ (k = 6 ∧ feeOK f ∧ boxOK b ∧ t = none ∧ ∃ a, o = some a ∧ a < n) ∨
  ((k = 3 ∨ k = 4 ∨ k = 5 ∨ k = 7) ∧ f = -5 ∧ b = -5 ∧ ∃ a c, o = some a ∧ t = some c ∧ a < n ∧ c < n)
theorem recOK_wf {K F B O T Z : Nat → Int32} {n : Nat} {k f b : Int32} {o t : Option Nat} (hw : ∀ a, a < n → wfT K F B O T Z a) (hr : recOK Z n k f b o t) (hs : 1 + szo Z o + szo Z t ≤ 40) : wfT (upd K n k) (upd F n f) (upd B n b) (upd O n (oN o)) (upd T n (oN t)) (upd Z n (1 + szo Z o + szo Z t)) n := by
  unfold wfT
  have hu : ∀ (f : Nat → Int32) (v : Int32), upd f n v n = v := fun f v => by unfold upd; rw [if_pos rfl]
  have hz : ∀ (f : Nat → Int32) (v : Int32) (a : Nat), a < n → upd f n v a = f a := fun f v a h => by unfold upd; rw [if_neg (by omega)]
  rw [hu, hu, hu, hu, hu, hu]
  rcases hr with ⟨rfl, h2, rfl, rfl, rfl⟩ | ⟨rfl, rfl, rfl, rfl, rfl⟩ | ⟨rfl, rfl, h3, rfl, a, rfl, ha⟩ | ⟨rfl, h2, h3, rfl, a, rfl, ha⟩ | ⟨h1, rfl, rfl, a, c, rfl, rfl, ha, hc⟩
  · exact Or.inl ⟨rfl, h2, rfl, rfl, rfl, rfl⟩
  · exact Or.inr (Or.inl ⟨rfl, rfl, rfl, rfl, rfl, rfl⟩)
  · obtain ⟨z, q1, q2, q3⟩ := wfT_size (hw a ha)
    have e : 1 + szo Z (some a) + szo Z none = nI (z + 1) := by
      show 1 + Z a + 0 = _
      rw [q1, Int32.add_zero, show (1 : Int32) = nI 1 from rfl, n_add (by omega), Nat.add_comm]
    rw [e] at hs ⊢
    have hz40 : z + 1 ≤ 40 := (n_le (by omega) (by omega)).mp (show nI (z + 1) ≤ nI 40 from hs)
    exact Or.inr (Or.inr (Or.inl ⟨rfl, rfl, h3, rfl, a, z, ha, rfl, (hz Z _ a ha).trans q1, q2, by omega, rfl⟩))
  · obtain ⟨z, q1, q2, q3⟩ := wfT_size (hw a ha)
    have e : 1 + szo Z (some a) + szo Z none = nI (z + 1) := by
      show 1 + Z a + 0 = _
      rw [q1, Int32.add_zero, show (1 : Int32) = nI 1 from rfl, n_add (by omega), Nat.add_comm]
    rw [e] at hs ⊢
    have hz40 : z + 1 ≤ 40 := (n_le (by omega) (by omega)).mp (show nI (z + 1) ≤ nI 40 from hs)
    exact Or.inr (Or.inr (Or.inr (Or.inl ⟨rfl, h2, h3, rfl, a, z, ha, rfl, (hz Z _ a ha).trans q1, q2, by omega, rfl⟩)))
  · obtain ⟨z, q1, q2, q3⟩ := wfT_size (hw a ha)
    obtain ⟨w, p1, p2, p3⟩ := wfT_size (hw c hc)
    have e : 1 + szo Z (some a) + szo Z (some c) = nI (z + w + 1) := by
      show 1 + Z a + Z c = _
      rw [q1, p1, show (1 : Int32) = nI 1 from rfl, n_add (by omega), n_add (by omega)]
      congr 1
      omega
    rw [e] at hs ⊢
    have hz40 : z + w + 1 ≤ 40 := (n_le (by omega) (by omega)).mp (show nI (z + w + 1) ≤ nI 40 from hs)
    exact Or.inr (Or.inr (Or.inr (Or.inr ⟨h1, rfl, rfl, a, c, z, w, ha, hc, rfl, rfl, (hz Z _ a ha).trans q1, (hz Z _ c hc).trans p1, q2, p2, hz40, rfl⟩)))
