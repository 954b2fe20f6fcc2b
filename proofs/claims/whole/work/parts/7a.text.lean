/-! Part 7a: a term as a text: both write it -/
theorem b8_n : ∀ x : Nat, x < 128 → tb_b8 (nI x) = nI x := by decide +kernel
def apC : List Nat → Nat → tb_St → tb_St
  | [], _, S => S
  | x :: l, p, S => apC l (p + 1) (tb_up (tb_up S 37 p (nI x)) 36 2 (nI (p + 1)))
def apR : List Nat → Nat → tb_St → tb_St
  | [], _, S => S
  | x :: l, p, S => apR l (p + 1) (tb_up (tb_up S 45 30 (nI (p + 1))) 62 p (nI x))
theorem apC_app : ∀ (a b : List Nat) (p : Nat) (S : tb_St), apC (a ++ b) p S = apC b (p + a.length) (apC a p S) := by
  intro a
  induction a with
  | nil => intro b p S; rfl
  | cons x a ih =>
    intro b p S
    show apC (a ++ b) (p + 1) _ = _
    rw [ih, List.length_cons, show p + 1 + a.length = p + (a.length + 1) by omega]
    rfl
theorem apR_app : ∀ (a b : List Nat) (p : Nat) (S : tb_St), apR (a ++ b) p S = apR b (p + a.length) (apR a p S) := by
  intro a
  induction a with
  | nil => intro b p S; rfl
  | cons x a ih =>
    intro b p S
    show apR (a ++ b) (p + 1) _ = _
    rw [ih, List.length_cons, show p + 1 + a.length = p + (a.length + 1) by omega]
    rfl
theorem apC_ne : ∀ (a : List Nat) (p : Nat) (S : tb_St) (q : Nat), q ≠ 36 → q ≠ 37 → apC a p S q = S q := by
  intro a
  induction a with
  | nil => intro p S q _ _; rfl
  | cons x a ih =>
    intro p S q h1 h2
    show apC a (p + 1) _ q = _
    rw [ih _ _ q h1 h2, up_ne h1, up_ne h2]
theorem apR_ne : ∀ (a : List Nat) (p : Nat) (S : tb_St) (q i : Nat), ¬ (q = 45 ∧ i = 30) → q ≠ 62 → apR a p S q i = S q i := by
  intro a
  induction a with
  | nil => intro p S q i _ _; rfl
  | cons x a ih =>
    intro p S q i h1 h2
    show apR a (p + 1) _ q i = _
    rw [ih _ _ q i h1 h2, up_ne h2, up_rd, if_neg h1]
theorem apC_n : ∀ (a : List Nat) (p : Nat) (S : tb_St), S 36 2 = nI p → apC a p S 36 2 = nI (p + a.length) := by
  intro a
  induction a with
  | nil => intro p S h; exact h
  | cons x a ih =>
    intro p S h
    show apC a (p + 1) _ 36 2 = _
    rw [ih _ _ (by rw [up_rd, if_pos ⟨rfl, rfl⟩]), List.length_cons]
    congr 1
    omega
theorem apR_n : ∀ (a : List Nat) (p : Nat) (S : tb_St), S 45 30 = nI p → apR a p S 45 30 = nI (p + a.length) := by
  intro a
  induction a with
  | nil => intro p S h; exact h
  | cons x a ih =>
    intro p S h
    show apR a (p + 1) _ 45 30 = _
    rw [ih _ _ (by rw [up_ne (by omega), up_rd, if_pos ⟨rfl, rfl⟩]), List.length_cons]
    congr 1
    omega
theorem apC_rd : ∀ (a : List Nat) (p : Nat) (S : tb_St) (j : Nat), apC a p S 37 j = if p ≤ j ∧ j < p + a.length then nI (a.getD (j - p) 0) else S 37 j := by
  intro a
  induction a with
  | nil => intro p S j; rw [if_neg (by show ¬ (p ≤ j ∧ j < p + 0); omega)]; rfl
  | cons x a ih =>
    intro p S j
    show apC a (p + 1) _ 37 j = _
    rw [ih, List.length_cons, up_ne (by omega), up_rd]
    by_cases e : j = p
    · rw [if_neg (by omega), if_pos ⟨rfl, e⟩, if_pos (by omega), e, Nat.sub_self]
      rfl
    · by_cases e2 : p ≤ j ∧ j < p + (a.length + 1)
      · rw [if_pos (by omega), if_pos e2, show j - p = (j - (p + 1)) + 1 by omega, List.getD_cons_succ]
      · rw [if_neg (by omega), if_neg (fun z => e z.2), if_neg e2]
theorem apR_rd : ∀ (a : List Nat) (p : Nat) (S : tb_St) (j : Nat), apR a p S 62 j = if p ≤ j ∧ j < p + a.length then nI (a.getD (j - p) 0) else S 62 j := by
  intro a
  induction a with
  | nil => intro p S j; rw [if_neg (by show ¬ (p ≤ j ∧ j < p + 0); omega)]; rfl
  | cons x a ih =>
    intro p S j
    show apR a (p + 1) _ 62 j = _
    rw [ih, List.length_cons, up_rd, up_ne (by omega)]
    by_cases e : j = p
    · rw [if_neg (by omega), if_pos ⟨rfl, e⟩, if_pos (by omega), e, Nat.sub_self]
      rfl
    · by_cases e2 : p ≤ j ∧ j < p + (a.length + 1)
      · rw [if_pos (by omega), if_pos e2, show j - p = (j - (p + 1)) + 1 by omega, List.getD_cons_succ]
      · rw [if_neg (by omega), if_neg (fun z => e z.2), if_neg e2]
/-- the text -/
def feeT (v : Nat) : List Nat := if v < 10 then [48 + v] else [48 + v / 10, 48 + v % 10]
def boxT (m : Nat) : List Nat := [48 + figM m 0, 48 + figM m 1, 48 + figM m 2, 48 + figM m 3, 48 + figM m 4, 48 + figM m 5]
def letN (k : Int32) : Nat := if k = 2 then 63 else if k = 3 then 47 else if k = 4 then 43 else if k = 5 then 60 else if k = 6 then 94 else 33
def txt (K F B O T : Nat → Int32) : Nat → Nat → List Nat
  | 0, _ => []
  | f + 1, t => if K t = 0 then feeT (F t).toNatClampNeg else if K t = 1 then [45] else if K t = 2 then letN (K t) :: (boxT (B t).toNatClampNeg ++ (40 :: (txt K F B O T f (O t).toNatClampNeg ++ [41]))) else if K t = 6 then letN (K t) :: (boxT (B t).toNatClampNeg ++ (58 :: (feeT (F t).toNatClampNeg ++ (40 :: (txt K F B O T f (O t).toNatClampNeg ++ [41]))))) else letN (K t) :: 40 :: (txt K F B O T f (O t).toNatClampNeg ++ (44 :: (txt K F B O T f (T t).toNatClampNeg ++ [41])))
theorem txt_succ {K F B O T : Nat → Int32} (f t : Nat) : txt K F B O T (f + 1) t = (if K t = 0 then feeT (F t).toNatClampNeg else if K t = 1 then [45] else if K t = 2 then letN (K t) :: (boxT (B t).toNatClampNeg ++ (40 :: (txt K F B O T f (O t).toNatClampNeg ++ [41]))) else if K t = 6 then letN (K t) :: (boxT (B t).toNatClampNeg ++ (58 :: (feeT (F t).toNatClampNeg ++ (40 :: (txt K F B O T f (O t).toNatClampNeg ++ [41]))))) else letN (K t) :: 40 :: (txt K F B O T f (O t).toNatClampNeg ++ (44 :: (txt K F B O T f (T t).toNatClampNeg ++ [41])))) := rfl
theorem feeT_len (v : Nat) : (feeT v).length ≤ 2 ∧ 1 ≤ (feeT v).length := by
  unfold feeT
  split <;> simp
theorem txt_len {K F B O T Z : Nat → Int32} {n : Nat} (hw : ∀ t, t < n → wfT K F B O T Z t) (hn : n ≤ 24) : ∀ f t, t < n → (txt K F B O T f t).length + 10 ≤ 12 * szN Z t := by
  intro f
  induction f with
  | zero =>
    intro t ht
    obtain ⟨z, h1, h2, h3⟩ := wfT_size (hw t ht)
    unfold szN
    rw [h1, nI_clamp (by omega)]
    show 0 + 10 ≤ _
    omega
  | succ f ih =>
    intro t ht
    have fl := (feeT_len (F t).toNatClampNeg).1
    have bl : (boxT (B t).toNatClampNeg).length = 6 := rfl
    have hsz : ∀ a z, Z a = nI z → z ≤ 40 → szN Z a = z := fun a z h h2 => by unfold szN; rw [h, nI_clamp (by omega)]
    rcases hw t ht with ⟨k, -, -, -, -, z⟩ | ⟨k, -, -, -, -, z⟩ | ⟨k, -, -, -, a, z, ha, o, za, z1, z2, zt⟩ | ⟨k, -, -, -, a, z, ha, o, za, z1, z2, zt⟩ | ⟨k, -, -, a, b, z, w, ha, hb, o, o2, za, zb, z1, z2, z3, zt⟩
    · rw [hsz t 1 z (by omega)]
      unfold txt
      rw [if_pos k]
      omega
    · rw [hsz t 1 z (by omega)]
      unfold txt
      rw [if_neg (by rw [k]; decide), if_pos k]
      show 1 + 10 ≤ _
      omega
    · have h := ih a (by omega)
      rw [hsz a z za (by omega)] at h
      rw [hsz t _ zt (by omega)]
      unfold txt
      rw [if_neg (by rw [k]; decide), if_neg (by rw [k]; decide), if_pos k, o, nI_clamp (by omega)]
      simp only [List.length_cons, List.length_append, List.length_nil, bl]
      omega
    · have h := ih a (by omega)
      rw [hsz a z za (by omega)] at h
      rw [hsz t _ zt (by omega)]
      unfold txt
      rw [if_neg (by rw [k]; decide), if_neg (by rw [k]; decide), if_neg (by rw [k]; decide), if_pos k, o, nI_clamp (by omega)]
      simp only [List.length_cons, List.length_append, List.length_nil, bl]
      omega
    · have h := ih a (by omega)
      have h' := ih b (by omega)
      rw [hsz a z za (by omega)] at h
      rw [hsz b w zb (by omega)] at h'
      rw [hsz t _ zt (by omega)]
      unfold txt
      have k0 : ¬ K t = 0 ∧ ¬ K t = 1 ∧ ¬ K t = 2 ∧ ¬ K t = 6 := by
        rcases k with k | k | k | k <;> rw [k] <;> decide
      rw [if_neg k0.1, if_neg k0.2.1, if_neg k0.2.2.1, if_neg k0.2.2.2, o, o2, nI_clamp (by omega), nI_clamp (by omega)]
      simp only [List.length_cons, List.length_append, List.length_nil]
      omega
section Write
variable {d p : Nat} {S : tb_St}
theorem c_wb {x : Nat} (h : S 36 2 = nI p) (hp : p < 470) (hx : x < 128) : tb_cV (d + 1) mX2_writeByte [.ref 36, .int (nI x)] S = some (apC [x] p S) := by
  refine MX2_writeByte ?_
  rw [h, if_neg (show ¬ (470 : Int32) ≤ nI p from n_nle (a := 470) (by omega) (by omega) hp), n_ix hp (by omega)]
  simp only [Option.bind_some]
  rw [b8_n x hx, n_inc]
  rfl
theorem r_wb {x : Nat} (h : S 45 30 = nI p) (hp : p < 700) : tb_cV (d + 1) mX8_writes [.ref 45, .int (nI x)] S = some (apR [x] p S) := by
  refine MX8_writes ?_
  rw [h, n_ix hp (by omega)]
  simp only [Option.bind_some]
  rw [n_inc]
  rfl
theorem n48 {x : Nat} (h : x < 1000) : (48 : Int32) + nI x = nI (48 + x) := by
  rw [show (48 : Int32) = nI 48 from rfl, n_add (by omega)]
theorem c_wfee {v : Nat} (h : S 36 2 = nI p) (hp : p + (feeT v).length ≤ 470) (hv : v ≤ 99) : tb_cV (d + 2) mX2_writeFee [.ref 36, .int (nI v)] S = some (apC (feeT v) p S) := by
  refine MX2_writeFee ?_
  unfold feeT at hp ⊢
  rw [show (10 : Int32) = nI 10 from rfl, n_rem (by omega) (by omega), n_div (by omega) (by omega), n48 (by omega), n48 (by omega)]
  by_cases e : v < 10
  · rw [if_pos e] at hp ⊢
    rw [if_pos ((n_lt (by omega) (by omega)).mpr e), Nat.mod_eq_of_lt e, c_wb h (by simp at hp; omega) (by omega)]
    rfl
  · rw [if_neg e] at hp ⊢
    simp only [List.length_cons, List.length_nil] at hp
    rw [if_neg (fun z => e ((n_lt (by omega) (by omega)).mp z)), c_wb h (by omega) (by omega)]
    simp only [Option.bind_some]
    rw [c_wb (apC_n _ _ _ h) (by simp; omega) (by omega)]
    rfl
theorem r_wfee {v : Nat} (h : S 45 30 = nI p) (hp : p + (feeT v).length ≤ 700) (hv : v ≤ 99) : tb_cV (d + 2) mX8_writesNumber [.ref 45, .int (nI v)] S = some (apR (feeT v) p S) := by
  refine MX8_writesNumber ?_
  unfold feeT at hp ⊢
  rw [show (10 : Int32) = nI 10 from rfl, show (9 : Int32) = nI 9 from rfl, n_rem (by omega) (by omega), n_div (by omega) (by omega), n48 (by omega), n48 (by omega)]
  by_cases e : v < 10
  · rw [if_pos e] at hp ⊢
    rw [if_pos ((n_le (by omega) (by omega)).mpr (by omega)), Nat.mod_eq_of_lt e, r_wb h (by simp at hp; omega)]
    rfl
  · rw [if_neg e] at hp ⊢
    simp only [List.length_cons, List.length_nil] at hp
    rw [if_neg (n_nle (by omega) (by omega) (by omega)), r_wb h (by omega)]
    simp only [Option.bind_some]
    rw [r_wb (apR_n _ _ _ h) (by simp; omega)]
    rfl
end Write
