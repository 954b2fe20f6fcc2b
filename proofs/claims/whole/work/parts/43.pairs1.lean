/-! Part 43: pairs: flat, empty, when, cap, two, drop, of, taken -/
theorem szo_eq {Z Z' : Nat → Int32} {n : Nat} {o : Option Nat} (h : ∀ t, t < n → Z' t = Z t) (ho : ∀ a, o = some a → a < n) : szo Z' o = szo Z o := by
  cases o with
  | none => rfl
  | some a => exact h a (ho a rfl)
theorem dpo_eq {Z Z' : Nat → Int32} {n : Nat} {o : Option Nat} (h : ∀ t, t < n → Z' t = Z t) (ho : ∀ a, o = some a → a < n) : dpo Z' o = dpo Z o := by
  cases o with
  | none => rfl
  | some a => exact h a (ho a rfl)
/-- what the reference may write beyond the count -/
theorem layR_J {S : tb_St} {n : Nat} {k f b : Int32} {o t : Option Nat} (hJ : tb_J S) (hT : jT n (S 2 7) (S 45 0) (S 3) (S 4) (S 5) (S 6) (S 7) (S 8) (S 9) (S 46) (S 47) (S 48) (S 49) (S 50) (S 51) (S 52)) : tb_J (layR S n k f b o t) := by
  have hu : ∀ (f : Nat → Int32) (v : Int32) (a : Nat), a < n → upd f n v a = f a := fun f v a h => by unfold upd; rw [if_neg (by omega)]
  refine hJ.terms (fun q hq => ?_) ⟨by simp [layR, up_rd], by simp [layR, up_rd]⟩ (fun q hq => by simp [layR, up_rd]) ⟨n, ?_⟩
  · simp only [List.mem_cons, List.not_mem_nil, or_false] at hq
    unfold layR
    rw [up_ne (by omega), up_ne (by omega), up_ne (by omega), up_ne (by omega), up_ne (by omega), up_ne (by omega), up_ne (by omega)]
  · have e : ∀ q, q < 46 → layR S n k f b o t q = S q := fun q hq => by
      unfold layR
      rw [up_ne (by omega), up_ne (by omega), up_ne (by omega), up_ne (by omega), up_ne (by omega), up_ne (by omega), up_ne (by omega)]
    rw [e 2 (by omega), e 45 (by omega), e 3 (by omega), e 4 (by omega), e 5 (by omega), e 6 (by omega), e 7 (by omega), e 8 (by omega), e 9 (by omega)]
    refine ⟨hT.1, hT.2.1, hT.2.2.1, fun t ht => ⟨?_, (hT.2.2.2 t ht).2⟩⟩
    have h1 := (hT.2.2.2 t ht).1
    have hne : ¬ t = n := by omega
    simp only [layR, up_rd, hne, and_false, if_false]
    exact h1
theorem add_pair {S : tb_St} {n : Nat} {k f b : Int32} {o t : Option Nat} (hJ : tb_J S) (hT : jT n (S 2 7) (S 45 0) (S 3) (S 4) (S 5) (S 6) (S 7) (S 8) (S 9) (S 46) (S 47) (S 48) (S 49) (S 50) (S 51) (S 52)) (hr : recOK (S 8) n k f b o t) :
    ∃ v S1 S2, (∀ d, tb_cI (d + 3) mX5_add [.ref 2, .int k, .int f, .int b, .int (oN o), .int (oN t)] S = some (v, S1)) ∧ S1 0 = S 0 ∧ (∀ q, 45 ≤ q → S1 q = S q) ∧ (∀ d, tb_cI (d + 2) mX8_adds [.ref 45, .int k, .int f, .int (oN o), .int (oN t), .int b] S1 = some (v, S2)) ∧ S2 0 = S 0 ∧ tb_J S2 := by
  have ho : ∀ a, o = some a → a < n := by
    intro a ha
    rcases hr with h | h | h | h | h
    · rw [h.2.2.2.1] at ha; cases ha
    · rw [h.2.2.2.1] at ha; cases ha
    · obtain ⟨x, h1, h2⟩ := h.2.2.2.2; rw [h1] at ha; cases ha; exact h2
    · obtain ⟨x, h1, h2⟩ := h.2.2.2.2; rw [h1] at ha; cases ha; exact h2
    · obtain ⟨x, y, h1, h2, h3, h4⟩ := h.2.2.2; rw [h1] at ha; cases ha; exact h3
  have ht : ∀ a, t = some a → a < n := by
    intro a ha
    rcases hr with h | h | h | h | h
    · rw [h.2.2.2.2] at ha; cases ha
    · rw [h.2.2.2.2] at ha; cases ha
    · rw [h.2.2.2.1] at ha; cases ha
    · rw [h.2.2.2.1] at ha; cases ha
    · obtain ⟨x, y, h1, h2, h3, h4⟩ := h.2.2.2; rw [h2] at ha; cases ha; exact h4
  have hn := hT.1
  by_cases hc : n < 24 ∧ 1 + szo (S 8) o + szo (S 8) t ≤ 40
  · have hS1 : ∀ q, 45 ≤ q → addC S n k f b o t q = S q := fun q hq => by
      unfold addC
      rw [up_ne (by omega), up_ne (by omega), up_ne (by omega), up_ne (by omega), up_ne (by omega), up_ne (by omega), up_ne (by omega), up_ne (by omega)]
    have e51 : addC S n k f b o t 51 = S 51 := hS1 51 (by omega)
    have e52 : addC S n k f b o t 52 = S 52 := hS1 52 (by omega)
    have s1 : szo (S 51) o = szo (S 8) o := szo_eq (fun t ht => (hT.2.2.2 t ht).1.2.2.2.2.2.1) ho
    have s2 : szo (S 51) t = szo (S 8) t := szo_eq (fun t ht => (hT.2.2.2 t ht).1.2.2.2.2.2.1) ht
    have d1 : dpo (S 52) o = dpo (S 9) o := dpo_eq (fun t ht => (hT.2.2.2 t ht).1.2.2.2.2.2.2) ho
    have d2 : dpo (S 52) t = dpo (S 9) t := dpo_eq (fun t ht => (hT.2.2.2 t ht).1.2.2.2.2.2.2) ht
    refine ⟨nI n, addC S n k f b o t, tb_up (layR (addC S n k f b o t) n k f b o t) 45 0 (nI (n + 1)), fun d => ?_, ?_, hS1, fun d => ?_, ?_, ?_⟩
    · rw [c_add hn hT.2.1 ho ht, if_pos hc]
    · simp [addC, up_ne]
    · rw [r_adds hn (by rw [hS1 45 (by omega)]; exact hT.2.2.1) ho ht, if_pos hc.1, e51, s1, s2, if_pos hc.2]
    · simp [addC, layR, up_ne]
    · refine hJ.terms (fun q hq => ?_) ⟨by simp [layR, addC, up_rd], by simp [layR, addC, up_rd]⟩ (fun q hq => ?_) ⟨n + 1, ?_⟩
      · simp only [List.mem_cons, List.not_mem_nil, or_false] at hq
        unfold layR addC
        rw [up_ne (by omega), up_ne (by omega), up_ne (by omega), up_ne (by omega), up_ne (by omega), up_ne (by omega), up_ne (by omega), up_ne (by omega), up_ne (by omega), up_ne (by omega), up_ne (by omega), up_ne (by omega), up_ne (by omega), up_ne (by omega), up_ne (by omega), up_ne (by omega)]
      · simp only [List.mem_cons, List.not_mem_nil, or_false] at hq
        have hq0 : ¬ q = 0 := by omega
        simp [layR, addC, up_rd, hq0]
      · have hw := recOK_wf (K := S 3) (F := S 4) (B := S 5) (O := S 6) (T := S 7) (fun a ha => (hT.2.2.2 a ha).2) hr hc.2
        generalize hU : tb_up (layR (addC S n k f b o t) n k f b o t) 45 0 (nI (n + 1)) = U
        have u2 : U 2 7 = nI (n + 1) := by subst hU; simp [layR, addC, up_rd]
        have u45 : U 45 0 = nI (n + 1) := by subst hU; simp [up_rd]
        have u3 : U 3 = upd (S 3) n k := by subst hU; simp [layR, addC, up_ne, up_eq]
        have u4 : U 4 = upd (S 4) n f := by subst hU; simp [layR, addC, up_ne, up_eq]
        have u5 : U 5 = upd (S 5) n b := by subst hU; simp [layR, addC, up_ne, up_eq]
        have u6 : U 6 = upd (S 6) n (oN o) := by subst hU; simp [layR, addC, up_ne, up_eq]
        have u7 : U 7 = upd (S 7) n (oN t) := by subst hU; simp [layR, addC, up_ne, up_eq]
        have u8 : U 8 = upd (S 8) n (1 + szo (S 8) o + szo (S 8) t) := by subst hU; simp [layR, addC, up_ne, up_eq]
        have u9 : U 9 = upd (S 9) n (1 + tb_max (dpo (S 9) o) (dpo (S 9) t)) := by subst hU; simp [layR, addC, up_ne, up_eq]
        have u46 : U 46 = upd (S 46) n k := by subst hU; simp [layR, addC, up_ne, up_eq]
        have u47 : U 47 = upd (S 47) n f := by subst hU; simp [layR, addC, up_ne, up_eq]
        have u48 : U 48 = upd (S 48) n (oN o) := by subst hU; simp [layR, addC, up_ne, up_eq]
        have u49 : U 49 = upd (S 49) n (oN t) := by subst hU; simp [layR, addC, up_ne, up_eq]
        have u50 : U 50 = upd (S 50) n b := by subst hU; simp [layR, addC, up_ne, up_eq]
        have u51 : U 51 = upd (S 51) n (1 + szo (S 8) o + szo (S 8) t) := by subst hU; simp only [layR, e51, e52, s1, s2]; simp [addC, up_ne, up_eq]
        have u52 : U 52 = upd (S 52) n (1 + tb_max (dpo (S 9) o) (dpo (S 9) t)) := by subst hU; simp only [layR, e51, e52, d1, d2]; simp [addC, up_ne, up_eq, Int32.add_comm]
        rw [u2, u45, u3, u4, u5, u6, u7, u8, u9, u46, u47, u48, u49, u50, u51, u52]
        refine ⟨by omega, rfl, rfl, fun j hj => ?_⟩
        by_cases e : j = n
        · subst e
          refine ⟨?_, hw⟩
          simp [upd]
        · have hlt : j < n := by omega
          obtain ⟨g1, g2⟩ := hT.2.2.2 j hlt
          refine ⟨?_, wfT_congr (fun a ha => ?_) g2⟩
          · simp only [upd, e, if_false]
            exact g1
          · have hne : ¬ a = n := by omega
            simp [upd, hne]
  · by_cases h24 : n < 24
    · have s1 : szo (S 51) o = szo (S 8) o := szo_eq (fun t ht => (hT.2.2.2 t ht).1.2.2.2.2.2.1) ho
      have s2 : szo (S 51) t = szo (S 8) t := szo_eq (fun t ht => (hT.2.2.2 t ht).1.2.2.2.2.2.1) ht
      refine ⟨-4, S, layR S n k f b o t, fun d => ?_, rfl, fun _ _ => rfl, fun d => ?_, by simp [layR, up_ne], layR_J hJ hT⟩
      · rw [c_add hn hT.2.1 ho ht, if_neg hc]
      · rw [r_adds hn hT.2.2.1 ho ht, if_pos h24, s1, s2, if_neg (fun z => hc ⟨h24, z⟩)]
    · refine ⟨-4, S, S, fun d => ?_, rfl, fun _ _ => rfl, fun d => ?_, rfl, hJ⟩
      · rw [c_add hn hT.2.1 ho ht, if_neg hc]
      · rw [r_adds hn hT.2.2.1 ho ht, if_neg h24]
theorem p_empty : tb_PI mX7_empty mX8_empty [] := by
  intro S hJ
  obtain ⟨n, hT⟩ := hJ.1
  obtain ⟨v, S1, S2, h1, h2, h3, h4, h5, h6⟩ := add_pair (k := 1) (f := -5) (b := -5) (o := none) (t := none) hJ hT (Or.inr (Or.inl ⟨rfl, rfl, rfl, rfl, rfl⟩))
  refine ⟨v, S1, S2, MX7_empty ?_, h2, MX8_empty ?_, h5, h6⟩
  · have e := h1 96
    simp only [oN] at e
    simp only [e, Option.bind_some]
  · have e := h4 97
    simp only [oN] at e
    simp only [e, Option.bind_some]
theorem feeI {x : Int32} (h : 0 ≤ x ∧ x ≤ 99) : feeOK x := by
  obtain ⟨v, h1, h2⟩ := n_of_le (n := 99) h.1 h.2 (by omega)
  exact ⟨v, h1, h2⟩
theorem p_flat : ∀ a : Int32, tb_PI mX7_flat mX8_flat [.int a] := by
  intro a S hJ
  by_cases hf : 0 ≤ a ∧ a ≤ 99
  · obtain ⟨n, hT⟩ := hJ.1
    obtain ⟨v, S1, S2, h1, h2, h3, h4, h5, h6⟩ := add_pair (k := 0) (f := a) (b := -5) (o := none) (t := none) hJ hT (Or.inl ⟨rfl, feeI hf, rfl, rfl, rfl⟩)
    refine ⟨v, S1, S2, MX7_flat ?_, h2, MX8_flat ?_, h5, h6⟩
    · have e := h1 96
      simp only [oN] at e
      rw [s_isFee]
      simp only [Option.bind_some, b2_0, hf, e, and_self, not_true_eq_false, not_false_eq_true, if_true, if_false]
    · have e := h4 97
      simp only [oN] at e
      rw [s_within]
      simp only [Option.bind_some, b2_0, hf, e, and_self, not_true_eq_false, not_false_eq_true, if_true, if_false]
  · refine ⟨-2, S, S, MX7_flat ?_, rfl, MX8_flat ?_, rfl, hJ⟩
    · rw [s_isFee]
      simp only [Option.bind_some, b2_0, hf, not_true_eq_false, not_false_eq_true, if_true, if_false]
    · rw [s_within]
      simp only [Option.bind_some, b2_0, hf, not_true_eq_false, not_false_eq_true, if_true, if_false]
