theorem vr_outer (c : ClassId) (N h0 : Nat) : ∀ i : Nat, Jvm.Free.Multi.outerC c N h0 i = arrV c N (fun j => va_rf (if j < i then some (h0 + 1 + j) else none))
  | 0 => by
    show ({ cls := c, slots := Array.replicate N .null, vm := .none } : Cell) = _
    rw [arrV_new]
    refine congrArg (arrV c N) (funext fun j => ?_)
    simp [va_rf]
  | i + 1 => by
    show (Jvm.Free.Multi.outerC c N h0 i).setSlot i (.ref (h0 + 1 + i)) = _
    rw [vr_outer c N h0 i, arrV_store]
    refine congrArg (arrV c N) (funext fun j => ?_)
    by_cases e : j = i
    · subst e
      simp [updV, va_rf]
    · by_cases h : j < i
      · simp [updV, e, h, Nat.lt_succ_of_lt h]
      · simp [updV, e, h, show ¬ j < i + 1 by omega]
set_option maxHeartbeats 4000000 in
/-- the one making of an array of arrays: Racks' rows -/
theorem tb_mul : tb_Mul := by
  intro p l e R s m args below meth c Q D b sz d y call C M H locs cells slots pc arr st h3 hH hc1 hs1 hd kk
  obtain ⟨hx, hb, hml, hown, hts, hK, -, -, -, hNL⟩ := C
  rw [h3] at hown
  have hlen := tb_ad_len hH
  have hHsz := hH.2.2.1
  have hpos := hH.2.1
  have hcl : (Cond.classLink (tb_cn 3) 9 ("[" ++ (FieldType.array .int).toString)).before args s = true := hts _ (tb_gt_in tb_ac.2.2.2.2 rfl)
  have hac : (Cond.arrayClass .int).before args s = true := hts _ (tb_gt_in tb_ac.1 rfl)
  have hov : (Cond.arrayOver (.array .int)).before args s = true := hNL.2
  intro T hT Xs
  have h4 : (4 : Int32).toNatClampNeg = 4 := by decide +kernel
  have h70 : (70 : Int32).toNatClampNeg = 70 := by decide +kernel
  obtain ⟨vm₁, cA, comp, -, fA, fC, hO, hI, X', step⟩ := Xs.multianewarray2F hx hown hcl hov hac (g := F0 m pc arr (.int 70 :: .int 4 :: st)) rfl (by rw [hb]; exact hd) rfl (by decide +kernel) (by decide +kernel) (by rw [h4]; decide) (by rw [h70]; decide) (by rw [h70]; decide) rfl rfl (by rw [h4]; omega) (by rw [h4, h70]; omega)
  rw [h4, h70] at X' step
  generalize hF : Jvm.Free.Multi.fill (T.setVm vm₁) cA comp 4 70 (defaultValue .int) 4 = F at X' step
  have hTh : (T.setVm vm₁).heap = H := hT
  obtain ⟨f1, f2, -, -⟩ := Jvm.Free.Multi.fill_facts (T.setVm vm₁) cA comp 4 70 (defaultValue .int) 4
  rw [hF, hTh] at f1 f2
  have hold : ∀ x : Nat, x < H.size → F.heap[x]? = H[x]? := fun x hx => by
    have := Jvm.Free.Multi.fill_old (T.setVm vm₁) cA comp 4 70 (defaultValue .int) (a := x) (by rw [hTh]; exact hx) 4
    rw [hF, hTh] at this
    exact this
  have hz : Jvm.Free.Multi.innerC comp 70 (defaultValue .int) = vp_cell comp (70, .inl (fun _ => 0)) := by
    rw [vp_cell_i]
    exact arrV_new comp 70 _
  have hrow : ∀ j : Nat, j < 4 → F.heap[H.size + 1 + j]? = some (vp_cell comp (70, .inl (fun _ => 0))) := fun j hj => by
    have := Jvm.Free.Multi.fill_inner (T.setVm vm₁) cA comp 4 70 (defaultValue .int) 4 j hj
    rw [hF, hTh, hz] at this
    exact this
  have hout : Jvm.Free.Multi.outerC cA 4 H.size 4 = vp_cell cA (4, .inr (.inr (.inr (.inr (fun i => if i < 4 then some (H.size + 1 + i) else none))))) := by
    rw [vp_cell_q]
    exact vr_outer cA 4 H.size 4
  rw [hout] at f2
  have hAr : ArrOfT s cA (.array .int) := fun N9 z9 => by
    obtain ⟨-, k9, hk9, cm9, hkk9⟩ := (hO 0 0 0).1
    exact ⟨(fun q hq => by cases hq), k9, hk9, cm9, hkk9⟩
  have hAi : ArrOfT s comp .int := fun N9 z9 => by
    obtain ⟨-, k9, hk9, cm9, hkk9⟩ := (hI 0 (.int 0)).1
    exact ⟨(fun q hq => by cases hq), k9, hk9, cm9, hkk9⟩
  have hge : sz ≤ H.size := by omega
  refine Exists.elim (kk F.heap ?_ (fun q hq => hold q (Nat.lt_of_lt_of_le hq hge)) F rfl X') (fun t2 h2 => ?_)
  rotate_left
  · refine ⟨t2, step t2 ?_, h2.2⟩
    have e : T.heap.size = H.size := by rw [hT]
    rw [e, hlen]
    exact h2.1
  · have hsz2 : F.heap.size = H.size + 5 := by rw [f1]
    refine ⟨hH.1, by simp, ?_, fun k t hk => ?_⟩
    · rw [hsz2]
      simp only [List.length_append, List.length_cons, List.length_nil]
      omega
    · have hk : (M.1 ++ [(53, [M.1.length + 2, M.1.length + 3, M.1.length + 4, M.1.length + 5]), (50, [70]), (50, [70]), (50, [70]), (50, [70])])[k]? = some t := hk
      by_cases e : k < M.1.length
      · rw [List.getElem?_append_left e] at hk
        have h1 := hH.2.2.2 k t hk
        refine ⟨?_, h1.2⟩
        have hz1 : (tb_zr (tb_zr (tb_zr (tb_zr (tb_zr M.2 M.1.length) (M.1.length + 1)) (M.1.length + 2)) (M.1.length + 3)) (M.1.length + 4)) k = M.2 k := by
          unfold tb_zr
          rw [if_neg (by omega), if_neg (by omega), if_neg (by omega), if_neg (by omega), if_neg (by omega)]
        show tb_at D s b sz k t ((tb_zr (tb_zr (tb_zr (tb_zr (tb_zr M.2 M.1.length) (M.1.length + 1)) (M.1.length + 2)) (M.1.length + 3)) (M.1.length + 4)) k) F.heap
        rw [hz1]
        exact h1.1.kept (hold _ (tb_ad_lt hH e))
      · rw [List.getElem?_append_right (by omega)] at hk
        obtain ⟨i, rfl⟩ : ∃ i, k = M.1.length + i := ⟨k - M.1.length, by omega⟩
        rw [show M.1.length + i - M.1.length = i by omega] at hk
        have had : ∀ i, tb_ad b sz (M.1.length + i) = H.size + i := by
          intro i
          cases hl : M.1.length with
          | zero => omega
          | succ j => rw [show j + 1 + i = (j + i) + 1 by omega]; show sz + (j + i) = _; rw [hl] at hHsz; omega
        have hzi : ∀ i, 1 ≤ i → i ≤ 4 → (tb_zr (tb_zr (tb_zr (tb_zr (tb_zr M.2 M.1.length) (M.1.length + 1)) (M.1.length + 2)) (M.1.length + 3)) (M.1.length + 4)) (M.1.length + i) = fun _ => 0 := by
          intro i g1 g2
          obtain rfl | rfl | rfl | rfl : i = 1 ∨ i = 2 ∨ i = 3 ∨ i = 4 := by omega
          · unfold tb_zr; rw [if_neg (by omega), if_neg (by omega), if_neg (by omega), if_pos rfl]
          · unfold tb_zr; rw [if_neg (by omega), if_neg (by omega), if_pos rfl]
          · unfold tb_zr; rw [if_neg (by omega), if_pos rfl]
          · unfold tb_zr; rw [if_pos rfl]
        have hin : ∀ i, 1 ≤ i → i ≤ 4 → tb_at D s b sz (M.1.length + i) (50, [70]) ((tb_zr (tb_zr (tb_zr (tb_zr (tb_zr M.2 M.1.length) (M.1.length + 1)) (M.1.length + 2)) (M.1.length + 3)) (M.1.length + 4)) (M.1.length + i)) F.heap := by
          intro i g1 g2
          rw [hzi i g1 g2]
          unfold tb_at
          rw [if_pos rfl]
          refine ⟨comp, hAi, ?_⟩
          have hr := hrow (i - 1) (by omega)
          rw [had, show H.size + i = H.size + 1 + (i - 1) by omega]
          exact hr
        have h54 : ∀ i, (M.1.length + i = 0 ↔ (50 : Nat) = 54) := fun i => ⟨fun q => by omega, fun q => by omega⟩
        have hi5 : i < 5 := by
          have := (List.getElem?_eq_some_iff.mp hk).1
          simpa using this
        obtain rfl | rfl | rfl | rfl | rfl : i = 0 ∨ i = 1 ∨ i = 2 ∨ i = 3 ∨ i = 4 := by omega
        · cases hk
          refine ⟨?_, ⟨fun q => by omega, fun q => by cases q⟩⟩
          unfold tb_at
          rw [if_neg (show ¬ (53 : Nat) = 50 by decide), if_neg (show ¬ (53 : Nat) = 51 by decide), if_neg (show ¬ (53 : Nat) = 52 by decide), if_pos (show (53 : Nat) = 53 from rfl)]
          refine ⟨cA, hAr, ?_⟩
          rw [had, Nat.add_zero, f2]
          show some (vp_cell cA (4, .inr (.inr (.inr (.inr (fun i => if i < 4 then some (H.size + 1 + i) else none)))))) = some (vp_cell cA (4, .inr (.inr (.inr (.inr (fun j => tb_ro b sz ([M.1.length + 2, M.1.length + 3, M.1.length + 4, M.1.length + 5].getD j 0)))))))
          congr 7
          funext j
          have hro : ∀ i, tb_ro b sz (M.1.length + i + 1) = some (H.size + i) := fun i => by show some (tb_ad b sz (M.1.length + i)) = _; rw [had]
          match j with
          | 0 => exact (hro 1).symm
          | 1 => exact (hro 2).symm
          | 2 => exact (hro 3).symm
          | 3 => exact (hro 4).symm
          | j + 4 => rw [if_neg (by omega)]; rfl
        · cases hk; exact ⟨hin 1 (by omega) (by omega), h54 1⟩
        · cases hk; exact ⟨hin 2 (by omega) (by omega), h54 2⟩
        · cases hk; exact ⟨hin 3 (by omega) (by omega), h54 3⟩
        · cases hk; exact ⟨hin 4 (by omega) (by omega), h54 4⟩
