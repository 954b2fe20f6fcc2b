/-! Part 7g: reading: a new term comes: both -/
theorem recOK_o {Z : Nat → Int32} {n : Nat} {k f b : Int32} {o t : Option Nat} (hr : recOK Z n k f b o t) : (∀ a, o = some a → a < n) ∧ ∀ a, t = some a → a < n := by
  constructor
  · intro a ha
    rcases hr with h | h | h | h | h
    · rw [h.2.2.2.1] at ha; cases ha
    · rw [h.2.2.2.1] at ha; cases ha
    · obtain ⟨x, h1, h2⟩ := h.2.2.2.2; rw [h1] at ha; cases ha; exact h2
    · obtain ⟨x, h1, h2⟩ := h.2.2.2.2; rw [h1] at ha; cases ha; exact h2
    · obtain ⟨x, y, h1, h2, h3, h4⟩ := h.2.2.2; rw [h1] at ha; cases ha; exact h3
  · intro a ha
    rcases hr with h | h | h | h | h
    · rw [h.2.2.2.2] at ha; cases ha
    · rw [h.2.2.2.2] at ha; cases ha
    · rw [h.2.2.2.1] at ha; cases ha
    · rw [h.2.2.2.1] at ha; cases ha
    · obtain ⟨x, y, h1, h2, h3, h4⟩ := h.2.2.2; rw [h2] at ha; cases ha; exact h4
theorem jT_add {N : Nat} {c1 c2 : Int32} {K F B O T Z D K' F' O' T' B' Z' D' : Nat → Int32} {k f b dd : Int32} {o t : Option Nat} (hT : jT N c1 c2 K F B O T Z D K' F' O' T' B' Z' D') (hr : recOK Z N k f b o t) (hN : N < 24) (hs : 1 + szo Z o + szo Z t ≤ 40) :
    jT (N + 1) (nI (N + 1)) (nI (N + 1)) (upd K N k) (upd F N f) (upd B N b) (upd O N (oN o)) (upd T N (oN t)) (upd Z N (1 + szo Z o + szo Z t)) (upd D N dd) (upd K' N k) (upd F' N f) (upd O' N (oN o)) (upd T' N (oN t)) (upd B' N b) (upd Z' N (1 + szo Z o + szo Z t)) (upd D' N dd) := by
  have hw := recOK_wf (K := K) (F := F) (B := B) (O := O) (T := T) (fun a ha => (hT.2.2.2 a ha).2) hr hs
  refine ⟨by omega, rfl, rfl, fun j hj => ?_⟩
  by_cases e : j = N
  · subst e
    refine ⟨?_, hw⟩
    simp [upd]
  · have hlt : j < N := by omega
    obtain ⟨g1, g2⟩ := hT.2.2.2 j hlt
    refine ⟨?_, wfT_congr (fun a ha => ?_) g2⟩
    · simp only [upd, e, if_false]
      exact g1
    · have hne : ¬ a = N := by omega
      simp [upd, hne]
theorem jT_old {N n : Nat} {c1 c2 : Int32} {K F B O T Z D K' F' O' T' B' Z' D' : Nat → Int32} {x1 x2 x3 x4 x5 x6 x7 : Int32} (hT : jT n c1 c2 K F B O T Z D K' F' O' T' B' Z' D') (hN : n ≤ N) :
    jT n c1 c2 K F B O T Z D (upd K' N x1) (upd F' N x2) (upd O' N x3) (upd T' N x4) (upd B' N x5) (upd Z' N x6) (upd D' N x7) := by
  refine ⟨hT.1, hT.2.1, hT.2.2.1, fun j hj => ?_⟩
  have hne : ¬ j = N := by omega
  simp only [upd, hne, if_false]
  exact hT.2.2.2 j hj
theorem mk_pair {n len p m : Nat} {tp : Nat → Int32} {S T : tb_St} {k f b v1 v2 : Int32} {o t : Option Nat} (h : Rb n len tp p m S T) (hm : m + 1 ≤ p) (hr : recOK (S 8) (n + m) k f b o t) (hv : S 32 8 = 0 → v1 = oN o ∧ v2 = oN t) :
    ∃ v S' T', (∀ d, tb_cI (d + 4) mX4_take [.ref 32, .int k, .int f, .int b, .int v1, .int v2] S = some (v, S')) ∧ (∀ d, tb_cI (d + 2) mX8_makes [.ref 45, .int k, .int f, .int (oN o), .int (oN t), .int b] T = some (nI (n + m), T')) ∧ Rb n len tp p (m + 1) S' T' ∧ (S' 32 8 = 0 → S 32 8 = 0 ∧ v = nI (n + m)) ∧ (∀ q, (q < 2 ∨ 9 < q) → q ≠ 32 → S' q = S q) ∧ (∀ i, i ≠ 8 → S' 32 i = S 32 i) ∧ (∀ q, q ≠ 45 → (q < 46 ∨ 52 < q) → T' q = T q) ∧ (∀ i, i ≠ 29 → T' 45 i = T 45 i) ∧ (∀ q, 46 ≤ q → q ≤ 52 → ∀ j, j ≠ n + m → T' q j = T q j) := by
  obtain ⟨hc, hrA, hmp, hn, h6, h7, h0, h29, hN⟩ := h
  have hl := hc.1
  have hp := hc.2.1
  obtain ⟨ho, ht⟩ := recOK_o hr
  generalize hU : tb_up (layR T (n + m) k f b o t) 45 29 (nI (m + 1)) = U
  have u46 : U 46 = upd (T 46) (n + m) k := by subst hU; simp [layR, up_ne, up_eq]
  have u47 : U 47 = upd (T 47) (n + m) f := by subst hU; simp [layR, up_ne, up_eq]
  have u48 : U 48 = upd (T 48) (n + m) (oN o) := by subst hU; simp [layR, up_ne, up_eq]
  have u49 : U 49 = upd (T 49) (n + m) (oN t) := by subst hU; simp [layR, up_ne, up_eq]
  have u50 : U 50 = upd (T 50) (n + m) b := by subst hU; simp [layR, up_ne, up_eq]
  have u51 : U 51 = upd (T 51) (n + m) (1 + szo (T 51) o + szo (T 51) t) := by subst hU; simp [layR, up_ne, up_eq]
  have u52 : U 52 = upd (T 52) (n + m) (tb_max (dpo (T 52) o) (dpo (T 52) t) + 1) := by subst hU; simp [layR, up_ne, up_eq]
  have uq : ∀ q, q ≠ 45 → (q < 46 ∨ 52 < q) → U q = T q := fun q h1 h2 => by
    subst hU
    unfold layR
    rw [up_ne (by omega), up_ne (by omega), up_ne (by omega), up_ne (by omega), up_ne (by omega), up_ne (by omega), up_ne (by omega), up_ne (by omega)]
  have u45 : ∀ i, i ≠ 29 → U 45 i = T 45 i := fun i hi => by
    subst hU
    unfold layR
    rw [up_rd, if_neg (by omega), up_ne (by omega), up_ne (by omega), up_ne (by omega), up_ne (by omega), up_ne (by omega), up_ne (by omega), up_ne (by omega)]
  have uj : ∀ q, 46 ≤ q → q ≤ 52 → ∀ j, j ≠ n + m → U q j = T q j := by
    intro q h1 h2 j hj
    have hu : ∀ (f : Nat → Int32) (v : Int32), upd f (n + m) v j = f j := fun f v => by unfold upd; rw [if_neg hj]
    obtain rfl | rfl | rfl | rfl | rfl | rfl | rfl : q = 46 ∨ q = 47 ∨ q = 48 ∨ q = 49 ∨ q = 50 ∨ q = 51 ∨ q = 52 := by omega
    · rw [u46, hu]
    · rw [u47, hu]
    · rw [u48, hu]
    · rw [u49, hu]
    · rw [u50, hu]
    · rw [u51, hu]
    · rw [u52, hu]
  have u29 : U 45 29 = nI (m + 1) := by subst hU; rw [up_rd, if_pos ⟨rfl, rfl⟩]
  have hR : ∀ d, tb_cI (d + 2) mX8_makes [.ref 45, .int k, .int f, .int (oN o), .int (oN t), .int b] T = some (nI (n + m), U) := by
    intro d
    refine MX8_makes ?_
    rw [h0, h29, n_add (by omega), r_lays (by omega) ho ht]
    simp only [Option.bind_some]
    have l0 : layR T (n + m) k f b o t 45 0 = nI n := by
      unfold layR
      rw [up_ne (by omega), up_ne (by omega), up_ne (by omega), up_ne (by omega), up_ne (by omega), up_ne (by omega), up_ne (by omega)]
      exact h0
    have l29 : layR T (n + m) k f b o t 45 29 = nI m := by
      unfold layR
      rw [up_ne (by omega), up_ne (by omega), up_ne (by omega), up_ne (by omega), up_ne (by omega), up_ne (by omega), up_ne (by omega)]
      exact h29
    rw [l0, l29, n_inc, hU, n_add (by omega)]
    have e : nI (n + (m + 1)) - (1 : Int32) = nI (n + m) := nI_pred (n + m)
    rw [e]
  have rA : rAt len p tp U := ⟨hrA.1, hrA.2.1, by rw [u45 21 (by omega)]; exact hrA.2.2.1, by rw [u45 23 (by omega)]; exact hrA.2.2.2.1, fun j hj => by rw [uq 59 (by omega) (by omega)]; exact hrA.2.2.2.2 j hj⟩
  -- the class has no room, or had none
  have full : (∀ d, tb_cI (d + 4) mX4_take [.ref 32, .int k, .int f, .int b, .int v1, .int v2] S = some (-4, tb_up S 32 8 1)) → oldT n S T → (24 < n + (m + 1) ∨ ∃ j, j < m + 1 ∧ ¬ U 51 (n + j) ≤ 40) → ∃ v S' T', (∀ d, tb_cI (d + 4) mX4_take [.ref 32, .int k, .int f, .int b, .int v1, .int v2] S = some (v, S')) ∧ (∀ d, tb_cI (d + 2) mX8_makes [.ref 45, .int k, .int f, .int (oN o), .int (oN t), .int b] T = some (nI (n + m), T')) ∧ Rb n len tp p (m + 1) S' T' ∧ (S' 32 8 = 0 → S 32 8 = 0 ∧ v = nI (n + m)) ∧ (∀ q, (q < 2 ∨ 9 < q) → q ≠ 32 → S' q = S q) ∧ (∀ i, i ≠ 8 → S' 32 i = S 32 i) ∧ (∀ q, q ≠ 45 → (q < 46 ∨ 52 < q) → T' q = T q) ∧ (∀ i, i ≠ 29 → T' 45 i = T 45 i) ∧ (∀ q, 46 ≤ q → q ≤ 52 → ∀ j, j ≠ n + m → T' q j = T q j) := by
    intro hC hold hbig
    have e8 : tb_up S 32 8 1 32 8 = 1 := by rw [up_rd, if_pos ⟨rfl, rfl⟩]
    refine ⟨-4, tb_up S 32 8 1, U, hC, hR, ⟨?_, rA, by omega, hn, ?_, ?_, by rw [u45 0 (by omega)]; exact h0, u29, Or.inr ⟨e8, ?_, hbig⟩⟩, fun z => ?_, fun q h1 h2 => up_ne h2, fun i hi => by rw [up_rd, if_neg (by omega)], uq, u45, uj⟩
    · exact ⟨hc.1, hc.2.1, by rw [up_rd, if_neg (by omega)]; exact hc.2.2.1, by rw [up_rd, if_neg (by omega)]; exact hc.2.2.2.1, fun j hj => by rw [up_ne (by omega)]; exact hc.2.2.2.2 j hj⟩
    · rw [up_rd, if_neg (by omega)]; exact h6
    · rw [up_rd, if_neg (by omega)]; exact h7
    · obtain ⟨g1, g2⟩ := hold
      unfold oldT
      rw [up_ne (by omega), up_ne (by omega), up_ne (by omega), up_ne (by omega), up_ne (by omega), up_ne (by omega), up_ne (by omega), up_ne (by omega), u46, u47, u48, u49, u50, u51, u52]
      exact ⟨g1, jT_old g2 (by omega)⟩
    · rw [e8] at z
      exact absurd z (by decide)
  have h26 : ∀ d (w1 w2 w3 w4 w5 w6 : Value) (V : tb_St), tb_E d mX4_take tb_dI 26 [.ref 32, w1, w2, w3, w4, w5, w6] [.int (-4 : Int32)] tb_S V = some (-4, tb_up V 32 8 1) := by
    intro d w1 w2 w3 w4 w5 w6 V
    refine BX4_take_26 ?_
    rw [if_neg (fun z => z rfl)]
  rcases hN with ⟨h8, hT⟩ | ⟨h8, hold, hbig⟩
  · obtain ⟨rfl, rfl⟩ := hv h8
    have hnm := hT.1
    have s1 : szo (T 51) o = szo (S 8) o := szo_eq (fun t ht => (hT.2.2.2 t ht).1.2.2.2.2.2.1) ho
    have s2 : szo (T 51) t = szo (S 8) t := szo_eq (fun t ht => (hT.2.2.2 t ht).1.2.2.2.2.2.1) ht
    have d1 : dpo (T 52) o = dpo (S 9) o := dpo_eq (fun t ht => (hT.2.2.2 t ht).1.2.2.2.2.2.2) ho
    have d2 : dpo (T 52) t = dpo (S 9) t := dpo_eq (fun t ht => (hT.2.2.2 t ht).1.2.2.2.2.2.2) ht
    by_cases hroom : n + m < 24 ∧ 1 + szo (S 8) o + szo (S 8) t ≤ 40
    · generalize hV : addC S (n + m) k f b o t = V
      have a2 : V 2 7 = nI (n + m + 1) := by subst hV; simp [addC, up_rd]
      have a3 : V 3 = upd (S 3) (n + m) k := by subst hV; simp [addC, up_ne, up_eq]
      have a4 : V 4 = upd (S 4) (n + m) f := by subst hV; simp [addC, up_ne, up_eq]
      have a5 : V 5 = upd (S 5) (n + m) b := by subst hV; simp [addC, up_ne, up_eq]
      have a6 : V 6 = upd (S 6) (n + m) (oN o) := by subst hV; simp [addC, up_ne, up_eq]
      have a7 : V 7 = upd (S 7) (n + m) (oN t) := by subst hV; simp [addC, up_ne, up_eq]
      have a8 : V 8 = upd (S 8) (n + m) (1 + szo (S 8) o + szo (S 8) t) := by subst hV; simp [addC, up_ne, up_eq]
      have a9 : V 9 = upd (S 9) (n + m) (1 + tb_max (dpo (S 9) o) (dpo (S 9) t)) := by subst hV; simp [addC, up_ne, up_eq]
      have aq : ∀ q, (q < 2 ∨ 9 < q) → V q = S q := fun q hq => by
        subst hV
        unfold addC
        rw [up_ne (by omega), up_ne (by omega), up_ne (by omega), up_ne (by omega), up_ne (by omega), up_ne (by omega), up_ne (by omega), up_ne (by omega)]
      have a32 : V 32 = S 32 := aq 32 (by omega)
      refine ⟨nI (n + m), V, U, fun d => MX4_take ?_, hR, ⟨?_, rA, by omega, hn, by rw [a32]; exact h6, by rw [a32]; exact h7, by rw [u45 0 (by omega)]; exact h0, u29, Or.inl ⟨by rw [a32]; exact h8, ?_⟩⟩, fun _ => ⟨h8, rfl⟩, fun q h1 _ => aq q h1, fun i _ => by rw [a32], uq, u45, uj⟩
      · rw [if_pos h8, c_add hnm hT.2.1 ho ht, if_pos hroom, hV]
        simp only [Option.bind_some]
        refine BX4_take_26 ?_
        rw [if_pos (n_ne_neg (by omega) (by decide))]
      · exact ⟨hc.1, hc.2.1, by rw [a32]; exact hc.2.2.1, by rw [a32]; exact hc.2.2.2.1, fun j hj => by rw [aq 33 (by omega)]; exact hc.2.2.2.2 j hj⟩
      · rw [a2, a3, a4, a5, a6, a7, a8, a9, u46, u47, u48, u49, u50, u51, u52, s1, s2, d1, d2, Int32.add_comm 1 (tb_max _ _)]
        exact jT_add hT hr hroom.1 hroom.2
    · refine full (fun d => MX4_take ?_) (newT.old (m := m) (Or.inl ⟨h8, hT⟩)) ?_
      · rw [if_pos h8, c_add hnm hT.2.1 ho ht, if_neg hroom]
        simp only [Option.bind_some]
        exact h26 _ _ _ _ _ _ _ _
      · by_cases h24 : n + m < 24
        · refine Or.inr ⟨m, by omega, ?_⟩
          rw [u51, s1, s2]
          unfold upd
          rw [if_pos rfl]
          exact fun z => hroom ⟨h24, z⟩
        · exact Or.inl (by omega)
  · refine full (fun d => MX4_take ?_) hold ?_
    · rw [if_neg (by rw [h8]; decide)]
      exact h26 _ _ _ _ _ _ _ _
    · rcases hbig with hb | ⟨j, hj, hb⟩
      · exact Or.inl (by omega)
      · refine Or.inr ⟨j, by omega, ?_⟩
        rw [u51]
        unfold upd
        rw [if_neg (by omega)]
        exact hb
