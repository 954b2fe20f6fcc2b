/-! Part 53: the answer of the tree by its parts; the reference's -/
theorem cmb_0 {c : Nat} {f b x y : Int32} : cmb c 0 f b x y = f := if_pos rfl
theorem cmb_1 {c : Nat} {f b x y : Int32} : cmb c 1 f b x y = -5 := by
  unfold cmb
  rw [if_neg (by decide), if_neg (by decide), if_neg (by decide), if_neg (by decide), if_neg (by decide), if_neg (by decide), if_neg (by decide)]
theorem cmb_2 {c : Nat} {f b x y : Int32} : cmb c 2 f b x y = if inBB c b.toNatClampNeg = 0 then -5 else x := by
  unfold cmb
  rw [if_neg (by decide), if_pos rfl]
theorem cmb_6 {c : Nat} {f b x y : Int32} : cmb c 6 f b x y = if x = -5 then x else if inBB c b.toNatClampNeg = 0 then x else tb_min x f := by
  unfold cmb
  rw [if_neg (by decide), if_neg (by decide), if_neg (by decide), if_neg (by decide), if_neg (by decide), if_pos rfl]
section Ans2
variable {K F B O T Z : Nat → Int32} {n d : Nat}
def qof (S : tb_St) (k : Nat) : Bool := decide (k < 1000 ∧ nI k = S 24 5)
theorem c_ans1 {S : tb_St} {len k t j c : Nat} (hT : tabs K F B O T Z n S) (hw : wfT K F B O T Z t) (hl : S 24 4 = nI len) (h40 : len ≤ 40) (hk : k < len) (ht : t < n) (hp : S 25 k = nI t) (hq : S 26 k = nI j) (hj : j ≤ 100) (hc : c < 224) (hs : nI t = S 24 6 → K t = 0) :
    Ans d c (k + 1) k S (tb_up S 27 k (if qof S k = true then -5 else cmb c (K t) (if nI t = S 24 6 then S 24 7 else F t) (B t) (saidN S len (k + 1)) (saidN S len j))) := by
  intro r hr
  rw [n_dec]
  refine BX6_answer_7 ?_
  rw [if_neg (n_nlt (by omega)), n_ix (show k < 40 by omega) (by omega)]
  unfold qof at hr
  by_cases e : nI k = S 24 5
  · rw [if_neg (fun z => z e)]
    rw [if_pos (by rw [decide_eq_true_iff]; exact ⟨by omega, e⟩)] at hr
    exact hr
  · rw [if_pos e]
    rw [if_neg (by rw [decide_eq_true_iff]; exact fun z => e z.2)] at hr
    rw [c_answerAt hT hw hl h40 hk ht hp hq hj hc hs]
    exact hr
theorem c_ans1' {S : tb_St} {len k t j c : Nat} (hT : tabs K F B O T Z n S) (hw : wfT K F B O T Z t) (hl : S 24 4 = nI len) (h40 : len ≤ 40) (hk : k < len) (ht : t < n) (hp : S 25 k = nI t) (hq : S 26 k = nI j) (hj : j ≤ 100) (hc : c < 224) (hs : nI t = S 24 6 → K t = 0) :
    ∃ X, X = (if qof S k = true then -5 else cmb c (K t) (if nI t = S 24 6 then S 24 7 else F t) (B t) (saidN S len (k + 1)) (saidN S len j)) ∧ Ans d c (k + 1) k S (tb_up S 27 k X) := ⟨_, rfl, c_ans1 hT hw hl h40 hk ht hp hq hj hc hs⟩
theorem c_ans {S : tb_St} {len c : Nat} (hw : ∀ t, t < n → wfT K F B O T Z t) (h40 : len ≤ 40) (hc : c < 224) : ∀ f t k (S : tb_St), t < n → tabs K F B O T Z n S → S 24 4 = nI len → (∀ t, t < n → nI t = S 24 6 → K t = 0) → k + szN Z t ≤ len → Lay O T Z (S 25) (S 26) f t k →
    ∃ S', Ans d c (k + szN Z t) k S S' ∧ (∀ q, q ≠ 27 → S' q = S q) ∧ (∀ j, (j < k ∨ k + szN Z t ≤ j) → S' 27 j = S 27 j) ∧ S' 27 k = ev K F B O T Z (qof S) (S 24 6) (S 24 7) c f t k := by
  intro f
  induction f with
  | zero => intro t k S _ _ _ _ _ h; exact h.elim
  | succ f ih =>
    intro t k S ht hT hl hs hk ⟨l1, ⟨j, hj, l2⟩, l3, l4⟩
    have hn := hT.1
    rcases wfT_sh (hw t ht) with ⟨o, w, z, hkk⟩ | ⟨a, ha, o, w, z1, z, z40, hb, hkk⟩ | ⟨a, b, ha, hb, o, w, z1, z2, z, z40, hkk⟩
    · have h1 := c_ans1 (d := d) (c := c) hT (hw t ht) hl h40 (by omega) ht l1 l2 hj hc (hs t ht)
      refine ⟨_, by rw [z]; exact h1, fun q hq => up_ne hq, fun i hi => by rw [up_rd, if_neg (by omega)], ?_⟩
      rw [up_rd, if_pos ⟨rfl, rfl⟩]
      conv => rhs; unfold ev
      rcases hkk with ⟨h0, -⟩ | h0
      · rw [h0, cmb_0, cmb_0]
      · rw [h0, cmb_1, cmb_1]
    · rcases l3 with l3 | l3
      · rw [o] at l3; exact absurd l3 (n5n a (by omega))
      rw [o, nI_clamp (by omega)] at l3
      obtain ⟨V, v1, v2, v3, v4⟩ := ih a (k + 1) S (by omega) hT hl hs (by omega) l3
      have hV : tabs K F B O T Z n V := hT.keep (fun q hq => v2 q (by omega))
      obtain ⟨X, hX, h1⟩ := c_ans1' (d := d) (c := c) (S := V) (len := len) (k := k) hV (hw t ht) (by rw [v2 24 (by omega)]; exact hl) h40 (by omega) ht (by rw [v2 25 (by omega)]; exact l1) (by rw [v2 26 (by omega)]; exact l2) hj hc (by rw [v2 24 (by omega)]; exact hs t ht)
      refine ⟨tb_up V 27 k X, ?_, fun q hq => (up_ne hq).trans (v2 q hq), fun i hi => by rw [up_rd, if_neg (by omega), v3 i (by omega)], ?_⟩
      · intro r hr
        rw [show k + szN Z t = k + 1 + szN Z a by omega]
        exact v1 r (h1 r hr)
      · rw [up_rd, if_pos ⟨rfl, rfl⟩, hX]
        conv => rhs; unfold ev
        have e : saidN V len (k + 1) = ev K F B O T Z (qof S) (S 24 6) (S 24 7) c f (O t).toNatClampNeg (k + 1) := by
          unfold saidN
          rw [if_pos (by omega), v4, o, nI_clamp (by omega)]
        rw [e, show qof V = qof S from by unfold qof; rw [v2 24 (by omega)], v2 24 (by omega)]
        rcases hkk with h0 | ⟨h0, -⟩
        · rw [h0, cmb_2, cmb_2]
        · rw [h0, cmb_6, cmb_6]
    · rcases l3 with l3 | l3
      · rw [o] at l3; exact absurd l3 (n5n a (by omega))
      rcases l4 with l4 | ⟨l4, l5⟩
      · rw [w] at l4; exact absurd l4 (n5n b (by omega))
      rw [o, nI_clamp (by omega)] at l3 l4 l5
      rw [w, nI_clamp (by omega)] at l5
      have ez : (Z a).toNatClampNeg = szN Z a := rfl
      rw [ez] at l4 l5
      obtain ⟨U, u1, u2, u3, u4⟩ := ih b (k + 1 + szN Z a) S (by omega) hT hl hs (by omega) l5
      have hU : tabs K F B O T Z n U := hT.keep (fun q hq => u2 q (by omega))
      obtain ⟨V, v1, v2, v3, v4⟩ := ih a (k + 1) U (by omega) hU (by rw [u2 24 (by omega)]; exact hl) (by rw [u2 24 (by omega)]; exact hs) (by omega) (by rw [u2 25 (by omega), u2 26 (by omega)]; exact l3)
      have hV : tabs K F B O T Z n V := hU.keep (fun q hq => v2 q (by omega))
      have w2 : ∀ q, q ≠ 27 → V q = S q := fun q hq => (v2 q hq).trans (u2 q hq)
      obtain ⟨X, hX, h1⟩ := c_ans1' (d := d) (c := c) (S := V) (len := len) (k := k) (j := k + 1 + szN Z a) hV (hw t ht) (by rw [w2 24 (by omega)]; exact hl) h40 (by omega) ht (by rw [w2 25 (by omega)]; exact l1) (by rw [w2 26 (by omega)]; exact l4) (by omega) hc (by rw [w2 24 (by omega)]; exact hs t ht)
      refine ⟨tb_up V 27 k X, ?_, fun q hq => (up_ne hq).trans (w2 q hq), fun i hi => by rw [up_rd, if_neg (by omega), v3 i (by omega), u3 i (by omega)], ?_⟩
      · intro r hr
        rw [show k + szN Z t = k + 1 + szN Z a + szN Z b by omega]
        exact u1 r (v1 r (h1 r hr))
      · rw [up_rd, if_pos ⟨rfl, rfl⟩, hX]
        have eq : qof U = qof S := by unfold qof; rw [u2 24 (by omega)]
        conv => rhs; unfold ev
        have e : saidN V len (k + 1) = ev K F B O T Z (qof S) (S 24 6) (S 24 7) c f (O t).toNatClampNeg (k + 1) := by
          unfold saidN
          rw [if_pos (by omega), v4, o, nI_clamp (by omega), eq, u2 24 (by omega)]
        have e2 : saidN V len (k + 1 + szN Z a) = ev K F B O T Z (qof S) (S 24 6) (S 24 7) c f (T t).toNatClampNeg (k + 1 + (Z (O t).toNatClampNeg).toNatClampNeg) := by
          unfold saidN
          rw [if_pos (by omega), v3 _ (by omega), u4, o, w, nI_clamp (by omega), nI_clamp (by omega), ez]
        rw [e, e2, show qof V = qof S from by unfold qof; rw [w2 24 (by omega)], w2 24 (by omega)]
/-- C's answer -/
theorem c_answer {S : tb_St} {t c : Nat} (hw : ∀ t, t < n → wfT K F B O T Z t) (hT : tabs K F B O T Z n S) (ht : t < n) (hl : S 24 4 = nI (szN Z t)) (h40 : szN Z t ≤ 40) (h1 : 1 ≤ szN Z t) (hL : Lay O T Z (S 25) (S 26) 24 t 0) (hs : ∀ t, t < n → nI t = S 24 6 → K t = 0) (hc : c < 224) :
    ∃ S', tb_cI (d + 5) mX6_answer [.ref 24, .int (nI c)] S = some (ev K F B O T Z (qof S) (S 24 6) (S 24 7) c 24 t 0, S') ∧ ∀ q, q ≠ 27 → S' q = S q := by
  obtain ⟨V, v1, v2, v3, v4⟩ := c_ans (d := d) (c := c) (S := S) hw h40 hc 24 t 0 S ht hT hl hs (by omega) hL
  refine ⟨V, MX6_answer ?_, v2⟩
  have e : S 24 4 - 1 = nI (0 + szN Z t) + (-1) := by
    rw [hl, Nat.zero_add]
    grind
  rw [e]
  refine v1 _ (BX6_answer_7 ?_)
  rw [if_pos (by show (0 : Int32) + (-1) < 0; decide)]
  have := c_saidAt (d := d + 3) (S := V) (len := szN Z t) (j := 0) (by rw [v2 24 (by omega)]; exact hl) h40 (by omega)
  rw [show nI 0 = 0 from rfl] at this
  rw [this]
  unfold saidN
  rw [if_pos (by omega), v4]
  rfl
end Ans2
