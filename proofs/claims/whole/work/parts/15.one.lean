/-! Part 15: every step, every run, every method -/
section Step
variable {p : Program} {l : Launch} {e : Env} {R : Room} {s : State} {m : MethodId} {args : Array Value} {below : List Frame} {meth : Method} {c : Code} {Q : State → Prop} {D : va_G} {b sz c0 s0 d : Nat} {y : tb_MD} {call : tb_MD → List Value → tb_MM → Option tb_XR}
variable {M : tb_MM} {pc n : Nat} {ls st : List Value} {x' : tb_XS}
theorem tb_hF {locs : List Loc} {a k : Nat} (h : ∀ q ∈ locs, sz ≤ q.base) (ha : sz ≤ a) : ∀ q ∈ locs ++ [(⟨a, k⟩ : Loc)], sz ≤ q.base := by
  intro q hq
  rcases List.mem_append.mp hq with h1 | h1
  · exact h q h1
  · rw [List.mem_singleton] at h1
    subst h1
    exact ha
theorem tb_o0 {o : Nat} {t : Nat × List Nat} {U : State} {H : Heap} (hH : tb_Hp D b sz M U H) (ht : M.1[o]? = some t) (h : t.1 ≠ 54) : sz ≤ tb_ad b sz o := tb_ad_ge (fun q => h ((hH.2.2.2 o t ht).2.mp q))
theorem tb_cl_set {S : tb_St} {o : Nat} {t t' : Nat × List Nat} (ht : M.1[o]? = some t) (h : tb_sz1 t' = tb_sz1 t) : tb_cl (M.1.set o t', S) = tb_cl M ∧ tb_sl (M.1.set o t', S) = tb_sl M := by
  refine ⟨by simp [tb_cl], ?_⟩
  unfold tb_sl
  have e : (M.1.set o t').map tb_sz1 = M.1.map tb_sz1 := by
    apply List.ext_getElem?
    intro j
    rw [List.getElem?_map, List.getElem?_map]
    by_cases q : o = j
    · subst q
      rw [List.getElem?_set_self', ht]
      show some (tb_sz1 t') = some (tb_sz1 t)
      rw [h]
    · rw [List.getElem?_set_ne q]
  show ((M.1.set o t').map tb_sz1).sum = _
  rw [e]

theorem tb_s_iconst (hMul : tb_Mul) (C : tb_Cx p l R s m args meth c D b sz d y call) {v : Int} (hs : tb_sti call y (.iconst v) n pc ls st M = some (.inl x')) (hd : decode y.2.2.1 pc = .ok (.iconst v, n)) (hm : tb_cl M ≤ tb_cl x'.2.2.2 ∧ tb_sl M ≤ tb_sl x'.2.2.2) (hR : tb_cl x'.2.2.2 ≤ R.cells + c0 ∧ tb_sl x'.2.2.2 ≤ R.slots + s0)
    (k : tb_WA p l e R s m args below meth c Q D b sz c0 s0 y x'.1 x'.2.1 x'.2.2.1 x'.2.2.2) : tb_WA p l e R s m args below meth c Q D b sz c0 s0 y pc ls st M := by
  simp only [tb_sti] at hs
  obtain ⟨hg, rfl⟩ := tb_nx_some hs
  obtain rfl : n = 1 := by simpa using hg
  intro arr H locs cells slots hL hH hl hf hc1 hc2
  exact lv_iconst C.1 C.2.1 hd rfl (k arr H locs cells slots hL hH hl hf hc1 hc2)
theorem tb_s_bipush (hMul : tb_Mul) (C : tb_Cx p l R s m args meth c D b sz d y call) {v : Int} (hs : tb_sti call y (.bipush v) n pc ls st M = some (.inl x')) (hd : decode y.2.2.1 pc = .ok (.bipush v, n)) (hm : tb_cl M ≤ tb_cl x'.2.2.2 ∧ tb_sl M ≤ tb_sl x'.2.2.2) (hR : tb_cl x'.2.2.2 ≤ R.cells + c0 ∧ tb_sl x'.2.2.2 ≤ R.slots + s0)
    (k : tb_WA p l e R s m args below meth c Q D b sz c0 s0 y x'.1 x'.2.1 x'.2.2.1 x'.2.2.2) : tb_WA p l e R s m args below meth c Q D b sz c0 s0 y pc ls st M := by
  simp only [tb_sti] at hs
  obtain ⟨hg, rfl⟩ := tb_nx_some hs
  obtain rfl : n = 2 := by simpa using hg
  intro arr H locs cells slots hL hH hl hf hc1 hc2
  exact lv_bipush C.1 C.2.1 hd rfl (k arr H locs cells slots hL hH hl hf hc1 hc2)
theorem tb_s_sipush (hMul : tb_Mul) (C : tb_Cx p l R s m args meth c D b sz d y call) {v : Int} (hs : tb_sti call y (.sipush v) n pc ls st M = some (.inl x')) (hd : decode y.2.2.1 pc = .ok (.sipush v, n)) (hm : tb_cl M ≤ tb_cl x'.2.2.2 ∧ tb_sl M ≤ tb_sl x'.2.2.2) (hR : tb_cl x'.2.2.2 ≤ R.cells + c0 ∧ tb_sl x'.2.2.2 ≤ R.slots + s0)
    (k : tb_WA p l e R s m args below meth c Q D b sz c0 s0 y x'.1 x'.2.1 x'.2.2.1 x'.2.2.2) : tb_WA p l e R s m args below meth c Q D b sz c0 s0 y pc ls st M := by
  simp only [tb_sti] at hs
  obtain ⟨hg, rfl⟩ := tb_nx_some hs
  obtain rfl : n = 3 := by simpa using hg
  intro arr H locs cells slots hL hH hl hf hc1 hc2
  exact lv_sipush C.1 C.2.1 hd rfl (k arr H locs cells slots hL hH hl hf hc1 hc2)
theorem tb_s_ldc (hMul : tb_Mul) (C : tb_Cx p l R s m args meth c D b sz d y call) {i : Nat} (hs : tb_sti call y (.ldc i) n pc ls st M = some (.inl x')) (hd : decode y.2.2.1 pc = .ok (.ldc i, n)) (hm : tb_cl M ≤ tb_cl x'.2.2.2 ∧ tb_sl M ≤ tb_sl x'.2.2.2) (hR : tb_cl x'.2.2.2 ≤ R.cells + c0 ∧ tb_sl x'.2.2.2 ≤ R.slots + s0)
    (k : tb_WA p l e R s m args below meth c Q D b sz c0 s0 y x'.1 x'.2.1 x'.2.2.1 x'.2.2.2) : tb_WA p l e R s m args below meth c Q D b sz c0 s0 y pc ls st M := by
  simp only [tb_sti] at hs
  split at hs
  · rename_i v w hv
    obtain ⟨hg, rfl⟩ := tb_nx_some hs
    obtain rfl : n = 2 := by simpa using hg
    intro arr H locs cells slots hL hH hl hf hc1 hc2
    exact lv_ldc C.1 C.2.1 C.2.2.2.1 (tb_ldc1 C hv) hd (k arr H locs cells slots hL hH hl hf hc1 hc2)
  · cases hs
theorem tb_s_ldcw (hMul : tb_Mul) (C : tb_Cx p l R s m args meth c D b sz d y call) {i : Nat} (hs : tb_sti call y (.ldc_w i) n pc ls st M = some (.inl x')) (hd : decode y.2.2.1 pc = .ok (.ldc_w i, n)) (hm : tb_cl M ≤ tb_cl x'.2.2.2 ∧ tb_sl M ≤ tb_sl x'.2.2.2) (hR : tb_cl x'.2.2.2 ≤ R.cells + c0 ∧ tb_sl x'.2.2.2 ≤ R.slots + s0)
    (k : tb_WA p l e R s m args below meth c Q D b sz c0 s0 y x'.1 x'.2.1 x'.2.2.1 x'.2.2.2) : tb_WA p l e R s m args below meth c Q D b sz c0 s0 y pc ls st M := by
  simp only [tb_sti] at hs
  split at hs
  · rename_i v w hv
    obtain ⟨hg, rfl⟩ := tb_nx_some hs
    obtain rfl : n = 3 := by simpa using hg
    intro arr H locs cells slots hL hH hl hf hc1 hc2
    exact lv_ldcw C.1 C.2.1 C.2.2.2.1 (tb_ldc1 C hv) hd (k arr H locs cells slots hL hH hl hf hc1 hc2)
  · cases hs
theorem tb_s_ldc2 (hMul : tb_Mul) (C : tb_Cx p l R s m args meth c D b sz d y call) {i : Nat} (hs : tb_sti call y (.ldc2_w i) n pc ls st M = some (.inl x')) (hd : decode y.2.2.1 pc = .ok (.ldc2_w i, n)) (hm : tb_cl M ≤ tb_cl x'.2.2.2 ∧ tb_sl M ≤ tb_sl x'.2.2.2) (hR : tb_cl x'.2.2.2 ≤ R.cells + c0 ∧ tb_sl x'.2.2.2 ≤ R.slots + s0)
    (k : tb_WA p l e R s m args below meth c Q D b sz c0 s0 y x'.1 x'.2.1 x'.2.2.1 x'.2.2.2) : tb_WA p l e R s m args below meth c Q D b sz c0 s0 y pc ls st M := by
  simp only [tb_sti] at hs
  split at hs
  · rename_i v w hv
    obtain ⟨hg, rfl⟩ := tb_nx_some hs
    obtain rfl : n = 3 := by simpa using hg
    intro arr H locs cells slots hL hH hl hf hc1 hc2
    have h1 := tb_lgok _ (tb_look_in hv)
    exact lv_ldc2 C.1 C.2.1 C.2.2.2.1 (C.2.2.2.2.1 _ (tb_gt_in (tb_tw_in h1) rfl)) hd (k arr H locs cells slots hL hH hl hf hc1 hc2)
  · cases hs
theorem tb_s_iload_n (hMul : tb_Mul) (C : tb_Cx p l R s m args meth c D b sz d y call) {i : Fin 4} (hs : tb_sti call y (.iload_n i) n pc ls st M = some (.inl x')) (hd : decode y.2.2.1 pc = .ok (.iload_n i, n)) (hm : tb_cl M ≤ tb_cl x'.2.2.2 ∧ tb_sl M ≤ tb_sl x'.2.2.2) (hR : tb_cl x'.2.2.2 ≤ R.cells + c0 ∧ tb_sl x'.2.2.2 ≤ R.slots + s0)
    (k : tb_WA p l e R s m args below meth c Q D b sz c0 s0 y x'.1 x'.2.1 x'.2.2.1 x'.2.2.2) : tb_WA p l e R s m args below meth c Q D b sz c0 s0 y pc ls st M := by
  simp only [tb_sti] at hs
  split at hs
  · rename_i x hv
    obtain ⟨hg, rfl⟩ := tb_nx_some hs
    obtain rfl : n = 1 := by simpa using hg
    intro arr H locs cells slots hL hH hl hf hc1 hc2
    exact lv_iload_n C.1 C.2.1 hd rfl (hL.get hv rfl) (k arr H locs cells slots hL hH hl hf hc1 hc2)
  · cases hs
theorem tb_s_iload (hMul : tb_Mul) (C : tb_Cx p l R s m args meth c D b sz d y call) {i : Nat} (hs : tb_sti call y (.iload i) n pc ls st M = some (.inl x')) (hd : decode y.2.2.1 pc = .ok (.iload i, n)) (hm : tb_cl M ≤ tb_cl x'.2.2.2 ∧ tb_sl M ≤ tb_sl x'.2.2.2) (hR : tb_cl x'.2.2.2 ≤ R.cells + c0 ∧ tb_sl x'.2.2.2 ≤ R.slots + s0)
    (k : tb_WA p l e R s m args below meth c Q D b sz c0 s0 y x'.1 x'.2.1 x'.2.2.1 x'.2.2.2) : tb_WA p l e R s m args below meth c Q D b sz c0 s0 y pc ls st M := by
  simp only [tb_sti] at hs
  split at hs
  · rename_i x hv
    obtain ⟨hg, rfl⟩ := tb_nx_some hs
    obtain rfl : n = 2 := by simpa using hg
    intro arr H locs cells slots hL hH hl hf hc1 hc2
    exact lv_iload C.1 C.2.1 hd (hL.get hv rfl) (k arr H locs cells slots hL hH hl hf hc1 hc2)
  · cases hs
theorem tb_s_aload_n (hMul : tb_Mul) (C : tb_Cx p l R s m args meth c D b sz d y call) {i : Fin 4} (hs : tb_sti call y (.aload_n i) n pc ls st M = some (.inl x')) (hd : decode y.2.2.1 pc = .ok (.aload_n i, n)) (hm : tb_cl M ≤ tb_cl x'.2.2.2 ∧ tb_sl M ≤ tb_sl x'.2.2.2) (hR : tb_cl x'.2.2.2 ≤ R.cells + c0 ∧ tb_sl x'.2.2.2 ≤ R.slots + s0)
    (k : tb_WA p l e R s m args below meth c Q D b sz c0 s0 y x'.1 x'.2.1 x'.2.2.1 x'.2.2.2) : tb_WA p l e R s m args below meth c Q D b sz c0 s0 y pc ls st M := by
  simp only [tb_sti] at hs
  split at hs
  · rename_i x hv
    obtain ⟨hg, rfl⟩ := tb_nx_some hs
    obtain rfl : n = 1 := by simpa using hg
    intro arr H locs cells slots hL hH hl hf hc1 hc2
    exact lv_aload_n C.1 C.2.1 hd rfl (hL.get hv rfl) (k arr H locs cells slots hL hH hl hf hc1 hc2)
  · cases hs
theorem tb_s_istore_n (hMul : tb_Mul) (C : tb_Cx p l R s m args meth c D b sz d y call) {i : Fin 4} (hs : tb_sti call y (.istore_n i) n pc ls st M = some (.inl x')) (hd : decode y.2.2.1 pc = .ok (.istore_n i, n)) (hm : tb_cl M ≤ tb_cl x'.2.2.2 ∧ tb_sl M ≤ tb_sl x'.2.2.2) (hR : tb_cl x'.2.2.2 ≤ R.cells + c0 ∧ tb_sl x'.2.2.2 ≤ R.slots + s0)
    (k : tb_WA p l e R s m args below meth c Q D b sz c0 s0 y x'.1 x'.2.1 x'.2.2.1 x'.2.2.2) : tb_WA p l e R s m args below meth c Q D b sz c0 s0 y pc ls st M := by
  simp only [tb_sti] at hs
  split at hs
  · rename_i x st
    obtain ⟨hg, rfl⟩ := tb_nx_some hs
    simp only [Bool.and_eq_true, beq_iff_eq, decide_eq_true_eq] at hg
    obtain ⟨rfl, hlt⟩ := hg
    intro arr H locs cells slots hL hH hl hf hc1 hc2
    exact lv_istore_n C.1 C.2.1 hd rfl hL.2.1 (by rw [← hL.1]; exact hlt) rfl (fun ls' h' => k ls' H locs cells slots (hL.put rfl h') hH hl hf hc1 hc2)
  · cases hs
theorem tb_s_istore (hMul : tb_Mul) (C : tb_Cx p l R s m args meth c D b sz d y call) {i : Nat} (hs : tb_sti call y (.istore i) n pc ls st M = some (.inl x')) (hd : decode y.2.2.1 pc = .ok (.istore i, n)) (hm : tb_cl M ≤ tb_cl x'.2.2.2 ∧ tb_sl M ≤ tb_sl x'.2.2.2) (hR : tb_cl x'.2.2.2 ≤ R.cells + c0 ∧ tb_sl x'.2.2.2 ≤ R.slots + s0)
    (k : tb_WA p l e R s m args below meth c Q D b sz c0 s0 y x'.1 x'.2.1 x'.2.2.1 x'.2.2.2) : tb_WA p l e R s m args below meth c Q D b sz c0 s0 y pc ls st M := by
  simp only [tb_sti] at hs
  split at hs
  · rename_i x st
    obtain ⟨hg, rfl⟩ := tb_nx_some hs
    simp only [Bool.and_eq_true, beq_iff_eq, decide_eq_true_eq] at hg
    obtain ⟨rfl, hlt⟩ := hg
    intro arr H locs cells slots hL hH hl hf hc1 hc2
    exact lv_istore C.1 C.2.1 hd hL.2.1 (by rw [← hL.1]; exact hlt) rfl (fun ls' h' => k ls' H locs cells slots (hL.put rfl h') hH hl hf hc1 hc2)
  · cases hs
theorem tb_s_astore_n (hMul : tb_Mul) (C : tb_Cx p l R s m args meth c D b sz d y call) {i : Fin 4} (hs : tb_sti call y (.astore_n i) n pc ls st M = some (.inl x')) (hd : decode y.2.2.1 pc = .ok (.astore_n i, n)) (hm : tb_cl M ≤ tb_cl x'.2.2.2 ∧ tb_sl M ≤ tb_sl x'.2.2.2) (hR : tb_cl x'.2.2.2 ≤ R.cells + c0 ∧ tb_sl x'.2.2.2 ≤ R.slots + s0)
    (k : tb_WA p l e R s m args below meth c Q D b sz c0 s0 y x'.1 x'.2.1 x'.2.2.1 x'.2.2.2) : tb_WA p l e R s m args below meth c Q D b sz c0 s0 y pc ls st M := by
  simp only [tb_sti] at hs
  split at hs
  · rename_i x st
    obtain ⟨hg, rfl⟩ := tb_nx_some hs
    simp only [Bool.and_eq_true, beq_iff_eq, decide_eq_true_eq] at hg
    obtain ⟨rfl, hlt⟩ := hg
    intro arr H locs cells slots hL hH hl hf hc1 hc2
    exact lv_astore_n C.1 C.2.1 hd rfl hL.2.1 (by rw [← hL.1]; exact hlt) rfl (fun ls' h' => k ls' H locs cells slots (hL.put rfl h') hH hl hf hc1 hc2)
  · cases hs
theorem tb_s_iinc (hMul : tb_Mul) (C : tb_Cx p l R s m args meth c D b sz d y call) {i : Nat} {v : Int} (hs : tb_sti call y (.iinc i v) n pc ls st M = some (.inl x')) (hd : decode y.2.2.1 pc = .ok (.iinc i v, n)) (hm : tb_cl M ≤ tb_cl x'.2.2.2 ∧ tb_sl M ≤ tb_sl x'.2.2.2) (hR : tb_cl x'.2.2.2 ≤ R.cells + c0 ∧ tb_sl x'.2.2.2 ≤ R.slots + s0)
    (k : tb_WA p l e R s m args below meth c Q D b sz c0 s0 y x'.1 x'.2.1 x'.2.2.1 x'.2.2.2) : tb_WA p l e R s m args below meth c Q D b sz c0 s0 y pc ls st M := by
  simp only [tb_sti] at hs
  split at hs
  · rename_i x hv
    obtain ⟨hg, rfl⟩ := tb_nx_some hs
    obtain rfl : n = 3 := by simpa using hg
    intro arr H locs cells slots hL hH hl hf hc1 hc2
    obtain ⟨k0, hk0⟩ := hL.at hv rfl
    exact lv_iinc C.1 C.2.1 hd hL.2.1 hk0 rfl (by rw [← hL.1]; exact (List.getElem?_eq_some_iff.mp hv).1) rfl (fun ls' h' => k ls' H locs cells slots (hL.put rfl h') hH hl hf hc1 hc2)
  · cases hs
theorem tb_s_dup (hMul : tb_Mul) (C : tb_Cx p l R s m args meth c D b sz d y call) (hs : tb_sti call y (.dup) n pc ls st M = some (.inl x')) (hd : decode y.2.2.1 pc = .ok (.dup, n)) (hm : tb_cl M ≤ tb_cl x'.2.2.2 ∧ tb_sl M ≤ tb_sl x'.2.2.2) (hR : tb_cl x'.2.2.2 ≤ R.cells + c0 ∧ tb_sl x'.2.2.2 ≤ R.slots + s0)
    (k : tb_WA p l e R s m args below meth c Q D b sz c0 s0 y x'.1 x'.2.1 x'.2.2.1 x'.2.2.2) : tb_WA p l e R s m args below meth c Q D b sz c0 s0 y pc ls st M := by
  simp only [tb_sti] at hs
  split at hs
  · obtain ⟨hg, rfl⟩ := tb_nx_some hs
    simp only [Bool.and_eq_true, beq_iff_eq] at hg
    obtain ⟨rfl, h1⟩ := hg
    intro arr H locs cells slots hL hH hl hf hc1 hc2
    exact lv_dup C.1 C.2.1 hd (by rw [tb_cv_cat]; exact h1) (k arr H locs cells slots hL hH hl hf hc1 hc2)
  · cases hs
theorem tb_s_dup_x1 (hMul : tb_Mul) (C : tb_Cx p l R s m args meth c D b sz d y call) (hs : tb_sti call y (.dup_x1) n pc ls st M = some (.inl x')) (hd : decode y.2.2.1 pc = .ok (.dup_x1, n)) (hm : tb_cl M ≤ tb_cl x'.2.2.2 ∧ tb_sl M ≤ tb_sl x'.2.2.2) (hR : tb_cl x'.2.2.2 ≤ R.cells + c0 ∧ tb_sl x'.2.2.2 ≤ R.slots + s0)
    (k : tb_WA p l e R s m args below meth c Q D b sz c0 s0 y x'.1 x'.2.1 x'.2.2.1 x'.2.2.2) : tb_WA p l e R s m args below meth c Q D b sz c0 s0 y pc ls st M := by
  simp only [tb_sti] at hs
  split at hs
  · obtain ⟨hg, rfl⟩ := tb_nx_some hs
    simp only [Bool.and_eq_true, beq_iff_eq] at hg
    obtain ⟨⟨rfl, h1⟩, h2⟩ := hg
    intro arr H locs cells slots hL hH hl hf hc1 hc2
    exact lv_dup_x1 C.1 C.2.1 hd (by rw [tb_cv_cat]; exact h1) (by rw [tb_cv_cat]; exact h2) (k arr H locs cells slots hL hH hl hf hc1 hc2)
  · cases hs
theorem tb_s_iadd (hMul : tb_Mul) (C : tb_Cx p l R s m args meth c D b sz d y call) (hs : tb_sti call y (.iadd) n pc ls st M = some (.inl x')) (hd : decode y.2.2.1 pc = .ok (.iadd, n)) (hm : tb_cl M ≤ tb_cl x'.2.2.2 ∧ tb_sl M ≤ tb_sl x'.2.2.2) (hR : tb_cl x'.2.2.2 ≤ R.cells + c0 ∧ tb_sl x'.2.2.2 ≤ R.slots + s0)
    (k : tb_WA p l e R s m args below meth c Q D b sz c0 s0 y x'.1 x'.2.1 x'.2.2.1 x'.2.2.2) : tb_WA p l e R s m args below meth c Q D b sz c0 s0 y pc ls st M := by
  simp only [tb_sti] at hs
  split at hs
  · obtain ⟨hg, rfl⟩ := tb_nx_some hs
    obtain rfl : n = 1 := by simpa using hg
    intro arr H locs cells slots hL hH hl hf hc1 hc2
    exact lv_iadd C.1 C.2.1 hd (k arr H locs cells slots hL hH hl hf hc1 hc2)
  · cases hs
theorem tb_s_isub (hMul : tb_Mul) (C : tb_Cx p l R s m args meth c D b sz d y call) (hs : tb_sti call y (.isub) n pc ls st M = some (.inl x')) (hd : decode y.2.2.1 pc = .ok (.isub, n)) (hm : tb_cl M ≤ tb_cl x'.2.2.2 ∧ tb_sl M ≤ tb_sl x'.2.2.2) (hR : tb_cl x'.2.2.2 ≤ R.cells + c0 ∧ tb_sl x'.2.2.2 ≤ R.slots + s0)
    (k : tb_WA p l e R s m args below meth c Q D b sz c0 s0 y x'.1 x'.2.1 x'.2.2.1 x'.2.2.2) : tb_WA p l e R s m args below meth c Q D b sz c0 s0 y pc ls st M := by
  simp only [tb_sti] at hs
  split at hs
  · obtain ⟨hg, rfl⟩ := tb_nx_some hs
    obtain rfl : n = 1 := by simpa using hg
    intro arr H locs cells slots hL hH hl hf hc1 hc2
    exact lv_isub C.1 C.2.1 hd (k arr H locs cells slots hL hH hl hf hc1 hc2)
  · cases hs
theorem tb_s_imul (hMul : tb_Mul) (C : tb_Cx p l R s m args meth c D b sz d y call) (hs : tb_sti call y (.imul) n pc ls st M = some (.inl x')) (hd : decode y.2.2.1 pc = .ok (.imul, n)) (hm : tb_cl M ≤ tb_cl x'.2.2.2 ∧ tb_sl M ≤ tb_sl x'.2.2.2) (hR : tb_cl x'.2.2.2 ≤ R.cells + c0 ∧ tb_sl x'.2.2.2 ≤ R.slots + s0)
    (k : tb_WA p l e R s m args below meth c Q D b sz c0 s0 y x'.1 x'.2.1 x'.2.2.1 x'.2.2.2) : tb_WA p l e R s m args below meth c Q D b sz c0 s0 y pc ls st M := by
  simp only [tb_sti] at hs
  split at hs
  · obtain ⟨hg, rfl⟩ := tb_nx_some hs
    obtain rfl : n = 1 := by simpa using hg
    intro arr H locs cells slots hL hH hl hf hc1 hc2
    exact lv_imul C.1 C.2.1 hd (k arr H locs cells slots hL hH hl hf hc1 hc2)
  · cases hs
theorem tb_s_iand (hMul : tb_Mul) (C : tb_Cx p l R s m args meth c D b sz d y call) (hs : tb_sti call y (.iand) n pc ls st M = some (.inl x')) (hd : decode y.2.2.1 pc = .ok (.iand, n)) (hm : tb_cl M ≤ tb_cl x'.2.2.2 ∧ tb_sl M ≤ tb_sl x'.2.2.2) (hR : tb_cl x'.2.2.2 ≤ R.cells + c0 ∧ tb_sl x'.2.2.2 ≤ R.slots + s0)
    (k : tb_WA p l e R s m args below meth c Q D b sz c0 s0 y x'.1 x'.2.1 x'.2.2.1 x'.2.2.2) : tb_WA p l e R s m args below meth c Q D b sz c0 s0 y pc ls st M := by
  simp only [tb_sti] at hs
  split at hs
  · obtain ⟨hg, rfl⟩ := tb_nx_some hs
    obtain rfl : n = 1 := by simpa using hg
    intro arr H locs cells slots hL hH hl hf hc1 hc2
    exact lv_iand C.1 C.2.1 hd (k arr H locs cells slots hL hH hl hf hc1 hc2)
  · cases hs
theorem tb_s_idiv (hMul : tb_Mul) (C : tb_Cx p l R s m args meth c D b sz d y call) (hs : tb_sti call y (.idiv) n pc ls st M = some (.inl x')) (hd : decode y.2.2.1 pc = .ok (.idiv, n)) (hm : tb_cl M ≤ tb_cl x'.2.2.2 ∧ tb_sl M ≤ tb_sl x'.2.2.2) (hR : tb_cl x'.2.2.2 ≤ R.cells + c0 ∧ tb_sl x'.2.2.2 ≤ R.slots + s0)
    (k : tb_WA p l e R s m args below meth c Q D b sz c0 s0 y x'.1 x'.2.1 x'.2.2.1 x'.2.2.2) : tb_WA p l e R s m args below meth c Q D b sz c0 s0 y pc ls st M := by
  simp only [tb_sti] at hs
  split at hs
  · split at hs
    · cases hs
    · rename_i hne
      obtain ⟨hg, rfl⟩ := tb_nx_some hs
      obtain rfl : n = 1 := by simpa using hg
      intro arr H locs cells slots hL hH hl hf hc1 hc2
      exact lv_idiv C.1 C.2.1 hd hne (k arr H locs cells slots hL hH hl hf hc1 hc2)
  · cases hs
theorem tb_s_irem (hMul : tb_Mul) (C : tb_Cx p l R s m args meth c D b sz d y call) (hs : tb_sti call y (.irem) n pc ls st M = some (.inl x')) (hd : decode y.2.2.1 pc = .ok (.irem, n)) (hm : tb_cl M ≤ tb_cl x'.2.2.2 ∧ tb_sl M ≤ tb_sl x'.2.2.2) (hR : tb_cl x'.2.2.2 ≤ R.cells + c0 ∧ tb_sl x'.2.2.2 ≤ R.slots + s0)
    (k : tb_WA p l e R s m args below meth c Q D b sz c0 s0 y x'.1 x'.2.1 x'.2.2.1 x'.2.2.2) : tb_WA p l e R s m args below meth c Q D b sz c0 s0 y pc ls st M := by
  simp only [tb_sti] at hs
  split at hs
  · split at hs
    · cases hs
    · rename_i hne
      obtain ⟨hg, rfl⟩ := tb_nx_some hs
      obtain rfl : n = 1 := by simpa using hg
      intro arr H locs cells slots hL hH hl hf hc1 hc2
      exact lv_irem C.1 C.2.1 hd hne (k arr H locs cells slots hL hH hl hf hc1 hc2)
  · cases hs
theorem tb_s_i2b (hMul : tb_Mul) (C : tb_Cx p l R s m args meth c D b sz d y call) (hs : tb_sti call y (.i2b) n pc ls st M = some (.inl x')) (hd : decode y.2.2.1 pc = .ok (.i2b, n)) (hm : tb_cl M ≤ tb_cl x'.2.2.2 ∧ tb_sl M ≤ tb_sl x'.2.2.2) (hR : tb_cl x'.2.2.2 ≤ R.cells + c0 ∧ tb_sl x'.2.2.2 ≤ R.slots + s0)
    (k : tb_WA p l e R s m args below meth c Q D b sz c0 s0 y x'.1 x'.2.1 x'.2.2.1 x'.2.2.2) : tb_WA p l e R s m args below meth c Q D b sz c0 s0 y pc ls st M := by
  simp only [tb_sti] at hs
  split at hs
  · obtain ⟨hg, rfl⟩ := tb_nx_some hs
    obtain rfl : n = 1 := by simpa using hg
    intro arr H locs cells slots hL hH hl hf hc1 hc2
    exact lv_i2b C.1 C.2.1 hd rfl (k arr H locs cells slots hL hH hl hf hc1 hc2)
  · cases hs
theorem tb_s_i2l (hMul : tb_Mul) (C : tb_Cx p l R s m args meth c D b sz d y call) (hs : tb_sti call y (.i2l) n pc ls st M = some (.inl x')) (hd : decode y.2.2.1 pc = .ok (.i2l, n)) (hm : tb_cl M ≤ tb_cl x'.2.2.2 ∧ tb_sl M ≤ tb_sl x'.2.2.2) (hR : tb_cl x'.2.2.2 ≤ R.cells + c0 ∧ tb_sl x'.2.2.2 ≤ R.slots + s0)
    (k : tb_WA p l e R s m args below meth c Q D b sz c0 s0 y x'.1 x'.2.1 x'.2.2.1 x'.2.2.2) : tb_WA p l e R s m args below meth c Q D b sz c0 s0 y pc ls st M := by
  simp only [tb_sti] at hs
  split at hs
  · obtain ⟨hg, rfl⟩ := tb_nx_some hs
    obtain rfl : n = 1 := by simpa using hg
    intro arr H locs cells slots hL hH hl hf hc1 hc2
    exact lv_i2l C.1 C.2.1 hd rfl (k arr H locs cells slots hL hH hl hf hc1 hc2)
  · cases hs
theorem tb_s_lcmp (hMul : tb_Mul) (C : tb_Cx p l R s m args meth c D b sz d y call) (hs : tb_sti call y (.lcmp) n pc ls st M = some (.inl x')) (hd : decode y.2.2.1 pc = .ok (.lcmp, n)) (hm : tb_cl M ≤ tb_cl x'.2.2.2 ∧ tb_sl M ≤ tb_sl x'.2.2.2) (hR : tb_cl x'.2.2.2 ≤ R.cells + c0 ∧ tb_sl x'.2.2.2 ≤ R.slots + s0)
    (k : tb_WA p l e R s m args below meth c Q D b sz c0 s0 y x'.1 x'.2.1 x'.2.2.1 x'.2.2.2) : tb_WA p l e R s m args below meth c Q D b sz c0 s0 y pc ls st M := by
  simp only [tb_sti] at hs
  split at hs
  · obtain ⟨hg, rfl⟩ := tb_nx_some hs
    obtain rfl : n = 1 := by simpa using hg
    intro arr H locs cells slots hL hH hl hf hc1 hc2
    exact W.lcmp C.1 C.2.1 hd (k arr H locs cells slots hL hH hl hf hc1 hc2)
  · cases hs
theorem tb_s_goto (hMul : tb_Mul) (C : tb_Cx p l R s m args meth c D b sz d y call) {off : Int} (hs : tb_sti call y (.goto off) n pc ls st M = some (.inl x')) (hd : decode y.2.2.1 pc = .ok (.goto off, n)) (hm : tb_cl M ≤ tb_cl x'.2.2.2 ∧ tb_sl M ≤ tb_sl x'.2.2.2) (hR : tb_cl x'.2.2.2 ≤ R.cells + c0 ∧ tb_sl x'.2.2.2 ≤ R.slots + s0)
    (k : tb_WA p l e R s m args below meth c Q D b sz c0 s0 y x'.1 x'.2.1 x'.2.2.1 x'.2.2.2) : tb_WA p l e R s m args below meth c Q D b sz c0 s0 y pc ls st M := by
  simp only [tb_sti] at hs
  obtain ⟨hg, rfl⟩ := tb_nx_some hs
  simp only [Bool.and_eq_true, beq_iff_eq, decide_eq_true_eq] at hg
  obtain ⟨rfl, hp⟩ := hg
  intro arr H locs cells slots hL hH hl hf hc1 hc2
  exact lv_goto C.1 C.2.1 hd (tb_tg_eq hp) (k arr H locs cells slots hL hH hl hf hc1 hc2)
theorem tb_s_ifCond_eq (hMul : tb_Mul) (C : tb_Cx p l R s m args meth c D b sz d y call) {off : Int} (hs : tb_sti call y (.ifCond .eq off) n pc ls st M = some (.inl x')) (hd : decode y.2.2.1 pc = .ok (.ifCond .eq off, n)) (hm : tb_cl M ≤ tb_cl x'.2.2.2 ∧ tb_sl M ≤ tb_sl x'.2.2.2) (hR : tb_cl x'.2.2.2 ≤ R.cells + c0 ∧ tb_sl x'.2.2.2 ≤ R.slots + s0)
    (k : tb_WA p l e R s m args below meth c Q D b sz c0 s0 y x'.1 x'.2.1 x'.2.2.1 x'.2.2.2) : tb_WA p l e R s m args below meth c Q D b sz c0 s0 y pc ls st M := by
  simp only [tb_sti] at hs
  split at hs
  · split at hs
    · rename_i hp
      split at hs
      · rename_i hcd
        obtain ⟨hg, rfl⟩ := tb_nx_some hs
        obtain rfl : n = 3 := by simpa using hg
        intro arr H locs cells slots hL hH hl hf hc1 hc2
        exact lv_if_eq C.1 C.2.1 hd (tb_tg_eq hp) (fun _ => (k arr H locs cells slots hL hH hl hf hc1 hc2)) (fun q => absurd hcd q)
      · rename_i hcd
        obtain ⟨hg, rfl⟩ := tb_nx_some hs
        obtain rfl : n = 3 := by simpa using hg
        intro arr H locs cells slots hL hH hl hf hc1 hc2
        exact lv_if_eq C.1 C.2.1 hd (tb_tg_eq hp) (fun q => absurd q hcd) (fun _ => (k arr H locs cells slots hL hH hl hf hc1 hc2))
    · cases hs
  · cases hs
theorem tb_s_ifCond_ne (hMul : tb_Mul) (C : tb_Cx p l R s m args meth c D b sz d y call) {off : Int} (hs : tb_sti call y (.ifCond .ne off) n pc ls st M = some (.inl x')) (hd : decode y.2.2.1 pc = .ok (.ifCond .ne off, n)) (hm : tb_cl M ≤ tb_cl x'.2.2.2 ∧ tb_sl M ≤ tb_sl x'.2.2.2) (hR : tb_cl x'.2.2.2 ≤ R.cells + c0 ∧ tb_sl x'.2.2.2 ≤ R.slots + s0)
    (k : tb_WA p l e R s m args below meth c Q D b sz c0 s0 y x'.1 x'.2.1 x'.2.2.1 x'.2.2.2) : tb_WA p l e R s m args below meth c Q D b sz c0 s0 y pc ls st M := by
  simp only [tb_sti] at hs
  split at hs
  · split at hs
    · rename_i hp
      split at hs
      · rename_i hcd
        obtain ⟨hg, rfl⟩ := tb_nx_some hs
        obtain rfl : n = 3 := by simpa using hg
        intro arr H locs cells slots hL hH hl hf hc1 hc2
        exact lv_if_ne C.1 C.2.1 hd (tb_tg_eq hp) (fun _ => (k arr H locs cells slots hL hH hl hf hc1 hc2)) (fun q => absurd q hcd)
      · rename_i hcd
        obtain ⟨hg, rfl⟩ := tb_nx_some hs
        obtain rfl : n = 3 := by simpa using hg
        intro arr H locs cells slots hL hH hl hf hc1 hc2
        exact lv_if_ne C.1 C.2.1 hd (tb_tg_eq hp) (fun q => absurd q hcd) (fun _ => (k arr H locs cells slots hL hH hl hf hc1 hc2))
    · cases hs
  · cases hs
theorem tb_s_ifCond_lt (hMul : tb_Mul) (C : tb_Cx p l R s m args meth c D b sz d y call) {off : Int} (hs : tb_sti call y (.ifCond .lt off) n pc ls st M = some (.inl x')) (hd : decode y.2.2.1 pc = .ok (.ifCond .lt off, n)) (hm : tb_cl M ≤ tb_cl x'.2.2.2 ∧ tb_sl M ≤ tb_sl x'.2.2.2) (hR : tb_cl x'.2.2.2 ≤ R.cells + c0 ∧ tb_sl x'.2.2.2 ≤ R.slots + s0)
    (k : tb_WA p l e R s m args below meth c Q D b sz c0 s0 y x'.1 x'.2.1 x'.2.2.1 x'.2.2.2) : tb_WA p l e R s m args below meth c Q D b sz c0 s0 y pc ls st M := by
  simp only [tb_sti] at hs
  split at hs
  · split at hs
    · rename_i hp
      split at hs
      · rename_i hcd
        obtain ⟨hg, rfl⟩ := tb_nx_some hs
        obtain rfl : n = 3 := by simpa using hg
        intro arr H locs cells slots hL hH hl hf hc1 hc2
        exact lv_if_lt C.1 C.2.1 hd (tb_tg_eq hp) (fun _ => (k arr H locs cells slots hL hH hl hf hc1 hc2)) (fun q => absurd hcd q)
      · rename_i hcd
        obtain ⟨hg, rfl⟩ := tb_nx_some hs
        obtain rfl : n = 3 := by simpa using hg
        intro arr H locs cells slots hL hH hl hf hc1 hc2
        exact lv_if_lt C.1 C.2.1 hd (tb_tg_eq hp) (fun q => absurd q hcd) (fun _ => (k arr H locs cells slots hL hH hl hf hc1 hc2))
    · cases hs
  · cases hs
theorem tb_s_ifCond_ge (hMul : tb_Mul) (C : tb_Cx p l R s m args meth c D b sz d y call) {off : Int} (hs : tb_sti call y (.ifCond .ge off) n pc ls st M = some (.inl x')) (hd : decode y.2.2.1 pc = .ok (.ifCond .ge off, n)) (hm : tb_cl M ≤ tb_cl x'.2.2.2 ∧ tb_sl M ≤ tb_sl x'.2.2.2) (hR : tb_cl x'.2.2.2 ≤ R.cells + c0 ∧ tb_sl x'.2.2.2 ≤ R.slots + s0)
    (k : tb_WA p l e R s m args below meth c Q D b sz c0 s0 y x'.1 x'.2.1 x'.2.2.1 x'.2.2.2) : tb_WA p l e R s m args below meth c Q D b sz c0 s0 y pc ls st M := by
  simp only [tb_sti] at hs
  split at hs
  · split at hs
    · rename_i hp
      split at hs
      · rename_i hcd
        obtain ⟨hg, rfl⟩ := tb_nx_some hs
        obtain rfl : n = 3 := by simpa using hg
        intro arr H locs cells slots hL hH hl hf hc1 hc2
        exact lv_if_ge C.1 C.2.1 hd (tb_tg_eq hp) (fun _ => (k arr H locs cells slots hL hH hl hf hc1 hc2)) (fun q => absurd hcd q)
      · rename_i hcd
        obtain ⟨hg, rfl⟩ := tb_nx_some hs
        obtain rfl : n = 3 := by simpa using hg
        intro arr H locs cells slots hL hH hl hf hc1 hc2
        exact lv_if_ge C.1 C.2.1 hd (tb_tg_eq hp) (fun q => absurd q hcd) (fun _ => (k arr H locs cells slots hL hH hl hf hc1 hc2))
    · cases hs
  · cases hs
theorem tb_s_ifCond_gt (hMul : tb_Mul) (C : tb_Cx p l R s m args meth c D b sz d y call) {off : Int} (hs : tb_sti call y (.ifCond .gt off) n pc ls st M = some (.inl x')) (hd : decode y.2.2.1 pc = .ok (.ifCond .gt off, n)) (hm : tb_cl M ≤ tb_cl x'.2.2.2 ∧ tb_sl M ≤ tb_sl x'.2.2.2) (hR : tb_cl x'.2.2.2 ≤ R.cells + c0 ∧ tb_sl x'.2.2.2 ≤ R.slots + s0)
    (k : tb_WA p l e R s m args below meth c Q D b sz c0 s0 y x'.1 x'.2.1 x'.2.2.1 x'.2.2.2) : tb_WA p l e R s m args below meth c Q D b sz c0 s0 y pc ls st M := by
  simp only [tb_sti] at hs
  split at hs
  · split at hs
    · rename_i hp
      split at hs
      · rename_i hcd
        obtain ⟨hg, rfl⟩ := tb_nx_some hs
        obtain rfl : n = 3 := by simpa using hg
        intro arr H locs cells slots hL hH hl hf hc1 hc2
        exact lv_if_gt C.1 C.2.1 hd (tb_tg_eq hp) (fun _ => (k arr H locs cells slots hL hH hl hf hc1 hc2)) (fun q => absurd hcd q)
      · rename_i hcd
        obtain ⟨hg, rfl⟩ := tb_nx_some hs
        obtain rfl : n = 3 := by simpa using hg
        intro arr H locs cells slots hL hH hl hf hc1 hc2
        exact lv_if_gt C.1 C.2.1 hd (tb_tg_eq hp) (fun q => absurd q hcd) (fun _ => (k arr H locs cells slots hL hH hl hf hc1 hc2))
    · cases hs
  · cases hs
theorem tb_s_ifCond_le (hMul : tb_Mul) (C : tb_Cx p l R s m args meth c D b sz d y call) {off : Int} (hs : tb_sti call y (.ifCond .le off) n pc ls st M = some (.inl x')) (hd : decode y.2.2.1 pc = .ok (.ifCond .le off, n)) (hm : tb_cl M ≤ tb_cl x'.2.2.2 ∧ tb_sl M ≤ tb_sl x'.2.2.2) (hR : tb_cl x'.2.2.2 ≤ R.cells + c0 ∧ tb_sl x'.2.2.2 ≤ R.slots + s0)
    (k : tb_WA p l e R s m args below meth c Q D b sz c0 s0 y x'.1 x'.2.1 x'.2.2.1 x'.2.2.2) : tb_WA p l e R s m args below meth c Q D b sz c0 s0 y pc ls st M := by
  simp only [tb_sti] at hs
  split at hs
  · split at hs
    · rename_i hp
      split at hs
      · rename_i hcd
        obtain ⟨hg, rfl⟩ := tb_nx_some hs
        obtain rfl : n = 3 := by simpa using hg
        intro arr H locs cells slots hL hH hl hf hc1 hc2
        exact lv_if_le C.1 C.2.1 hd (tb_tg_eq hp) (fun _ => (k arr H locs cells slots hL hH hl hf hc1 hc2)) (fun q => absurd hcd q)
      · rename_i hcd
        obtain ⟨hg, rfl⟩ := tb_nx_some hs
        obtain rfl : n = 3 := by simpa using hg
        intro arr H locs cells slots hL hH hl hf hc1 hc2
        exact lv_if_le C.1 C.2.1 hd (tb_tg_eq hp) (fun q => absurd q hcd) (fun _ => (k arr H locs cells slots hL hH hl hf hc1 hc2))
    · cases hs
  · cases hs
theorem tb_s_if_icmp_eq (hMul : tb_Mul) (C : tb_Cx p l R s m args meth c D b sz d y call) {off : Int} (hs : tb_sti call y (.if_icmp .eq off) n pc ls st M = some (.inl x')) (hd : decode y.2.2.1 pc = .ok (.if_icmp .eq off, n)) (hm : tb_cl M ≤ tb_cl x'.2.2.2 ∧ tb_sl M ≤ tb_sl x'.2.2.2) (hR : tb_cl x'.2.2.2 ≤ R.cells + c0 ∧ tb_sl x'.2.2.2 ≤ R.slots + s0)
    (k : tb_WA p l e R s m args below meth c Q D b sz c0 s0 y x'.1 x'.2.1 x'.2.2.1 x'.2.2.2) : tb_WA p l e R s m args below meth c Q D b sz c0 s0 y pc ls st M := by
  simp only [tb_sti] at hs
  split at hs
  · split at hs
    · rename_i hp
      split at hs
      · rename_i hcd
        obtain ⟨hg, rfl⟩ := tb_nx_some hs
        obtain rfl : n = 3 := by simpa using hg
        intro arr H locs cells slots hL hH hl hf hc1 hc2
        exact lv_icmp_eq C.1 C.2.1 hd (tb_tg_eq hp) (fun _ => (k arr H locs cells slots hL hH hl hf hc1 hc2)) (fun q => absurd hcd q)
      · rename_i hcd
        obtain ⟨hg, rfl⟩ := tb_nx_some hs
        obtain rfl : n = 3 := by simpa using hg
        intro arr H locs cells slots hL hH hl hf hc1 hc2
        exact lv_icmp_eq C.1 C.2.1 hd (tb_tg_eq hp) (fun q => absurd q hcd) (fun _ => (k arr H locs cells slots hL hH hl hf hc1 hc2))
    · cases hs
  · cases hs
theorem tb_s_if_icmp_ne (hMul : tb_Mul) (C : tb_Cx p l R s m args meth c D b sz d y call) {off : Int} (hs : tb_sti call y (.if_icmp .ne off) n pc ls st M = some (.inl x')) (hd : decode y.2.2.1 pc = .ok (.if_icmp .ne off, n)) (hm : tb_cl M ≤ tb_cl x'.2.2.2 ∧ tb_sl M ≤ tb_sl x'.2.2.2) (hR : tb_cl x'.2.2.2 ≤ R.cells + c0 ∧ tb_sl x'.2.2.2 ≤ R.slots + s0)
    (k : tb_WA p l e R s m args below meth c Q D b sz c0 s0 y x'.1 x'.2.1 x'.2.2.1 x'.2.2.2) : tb_WA p l e R s m args below meth c Q D b sz c0 s0 y pc ls st M := by
  simp only [tb_sti] at hs
  split at hs
  · split at hs
    · rename_i hp
      split at hs
      · rename_i hcd
        obtain ⟨hg, rfl⟩ := tb_nx_some hs
        obtain rfl : n = 3 := by simpa using hg
        intro arr H locs cells slots hL hH hl hf hc1 hc2
        exact lv_icmp_ne C.1 C.2.1 hd (tb_tg_eq hp) (fun _ => (k arr H locs cells slots hL hH hl hf hc1 hc2)) (fun q => absurd q hcd)
      · rename_i hcd
        obtain ⟨hg, rfl⟩ := tb_nx_some hs
        obtain rfl : n = 3 := by simpa using hg
        intro arr H locs cells slots hL hH hl hf hc1 hc2
        exact lv_icmp_ne C.1 C.2.1 hd (tb_tg_eq hp) (fun q => absurd q hcd) (fun _ => (k arr H locs cells slots hL hH hl hf hc1 hc2))
    · cases hs
  · cases hs
theorem tb_s_if_icmp_lt (hMul : tb_Mul) (C : tb_Cx p l R s m args meth c D b sz d y call) {off : Int} (hs : tb_sti call y (.if_icmp .lt off) n pc ls st M = some (.inl x')) (hd : decode y.2.2.1 pc = .ok (.if_icmp .lt off, n)) (hm : tb_cl M ≤ tb_cl x'.2.2.2 ∧ tb_sl M ≤ tb_sl x'.2.2.2) (hR : tb_cl x'.2.2.2 ≤ R.cells + c0 ∧ tb_sl x'.2.2.2 ≤ R.slots + s0)
    (k : tb_WA p l e R s m args below meth c Q D b sz c0 s0 y x'.1 x'.2.1 x'.2.2.1 x'.2.2.2) : tb_WA p l e R s m args below meth c Q D b sz c0 s0 y pc ls st M := by
  simp only [tb_sti] at hs
  split at hs
  · split at hs
    · rename_i hp
      split at hs
      · rename_i hcd
        obtain ⟨hg, rfl⟩ := tb_nx_some hs
        obtain rfl : n = 3 := by simpa using hg
        intro arr H locs cells slots hL hH hl hf hc1 hc2
        exact lv_icmp_lt C.1 C.2.1 hd (tb_tg_eq hp) (fun _ => (k arr H locs cells slots hL hH hl hf hc1 hc2)) (fun q => absurd hcd q)
      · rename_i hcd
        obtain ⟨hg, rfl⟩ := tb_nx_some hs
        obtain rfl : n = 3 := by simpa using hg
        intro arr H locs cells slots hL hH hl hf hc1 hc2
        exact lv_icmp_lt C.1 C.2.1 hd (tb_tg_eq hp) (fun q => absurd q hcd) (fun _ => (k arr H locs cells slots hL hH hl hf hc1 hc2))
    · cases hs
  · cases hs
theorem tb_s_if_icmp_ge (hMul : tb_Mul) (C : tb_Cx p l R s m args meth c D b sz d y call) {off : Int} (hs : tb_sti call y (.if_icmp .ge off) n pc ls st M = some (.inl x')) (hd : decode y.2.2.1 pc = .ok (.if_icmp .ge off, n)) (hm : tb_cl M ≤ tb_cl x'.2.2.2 ∧ tb_sl M ≤ tb_sl x'.2.2.2) (hR : tb_cl x'.2.2.2 ≤ R.cells + c0 ∧ tb_sl x'.2.2.2 ≤ R.slots + s0)
    (k : tb_WA p l e R s m args below meth c Q D b sz c0 s0 y x'.1 x'.2.1 x'.2.2.1 x'.2.2.2) : tb_WA p l e R s m args below meth c Q D b sz c0 s0 y pc ls st M := by
  simp only [tb_sti] at hs
  split at hs
  · split at hs
    · rename_i hp
      split at hs
      · rename_i hcd
        obtain ⟨hg, rfl⟩ := tb_nx_some hs
        obtain rfl : n = 3 := by simpa using hg
        intro arr H locs cells slots hL hH hl hf hc1 hc2
        exact lv_icmp_ge C.1 C.2.1 hd (tb_tg_eq hp) (fun _ => (k arr H locs cells slots hL hH hl hf hc1 hc2)) (fun q => absurd hcd q)
      · rename_i hcd
        obtain ⟨hg, rfl⟩ := tb_nx_some hs
        obtain rfl : n = 3 := by simpa using hg
        intro arr H locs cells slots hL hH hl hf hc1 hc2
        exact lv_icmp_ge C.1 C.2.1 hd (tb_tg_eq hp) (fun q => absurd q hcd) (fun _ => (k arr H locs cells slots hL hH hl hf hc1 hc2))
    · cases hs
  · cases hs
theorem tb_s_if_icmp_gt (hMul : tb_Mul) (C : tb_Cx p l R s m args meth c D b sz d y call) {off : Int} (hs : tb_sti call y (.if_icmp .gt off) n pc ls st M = some (.inl x')) (hd : decode y.2.2.1 pc = .ok (.if_icmp .gt off, n)) (hm : tb_cl M ≤ tb_cl x'.2.2.2 ∧ tb_sl M ≤ tb_sl x'.2.2.2) (hR : tb_cl x'.2.2.2 ≤ R.cells + c0 ∧ tb_sl x'.2.2.2 ≤ R.slots + s0)
    (k : tb_WA p l e R s m args below meth c Q D b sz c0 s0 y x'.1 x'.2.1 x'.2.2.1 x'.2.2.2) : tb_WA p l e R s m args below meth c Q D b sz c0 s0 y pc ls st M := by
  simp only [tb_sti] at hs
  split at hs
  · split at hs
    · rename_i hp
      split at hs
      · rename_i hcd
        obtain ⟨hg, rfl⟩ := tb_nx_some hs
        obtain rfl : n = 3 := by simpa using hg
        intro arr H locs cells slots hL hH hl hf hc1 hc2
        exact lv_icmp_gt C.1 C.2.1 hd (tb_tg_eq hp) (fun _ => (k arr H locs cells slots hL hH hl hf hc1 hc2)) (fun q => absurd hcd q)
      · rename_i hcd
        obtain ⟨hg, rfl⟩ := tb_nx_some hs
        obtain rfl : n = 3 := by simpa using hg
        intro arr H locs cells slots hL hH hl hf hc1 hc2
        exact lv_icmp_gt C.1 C.2.1 hd (tb_tg_eq hp) (fun q => absurd q hcd) (fun _ => (k arr H locs cells slots hL hH hl hf hc1 hc2))
    · cases hs
  · cases hs
theorem tb_s_if_icmp_le (hMul : tb_Mul) (C : tb_Cx p l R s m args meth c D b sz d y call) {off : Int} (hs : tb_sti call y (.if_icmp .le off) n pc ls st M = some (.inl x')) (hd : decode y.2.2.1 pc = .ok (.if_icmp .le off, n)) (hm : tb_cl M ≤ tb_cl x'.2.2.2 ∧ tb_sl M ≤ tb_sl x'.2.2.2) (hR : tb_cl x'.2.2.2 ≤ R.cells + c0 ∧ tb_sl x'.2.2.2 ≤ R.slots + s0)
    (k : tb_WA p l e R s m args below meth c Q D b sz c0 s0 y x'.1 x'.2.1 x'.2.2.1 x'.2.2.2) : tb_WA p l e R s m args below meth c Q D b sz c0 s0 y pc ls st M := by
  simp only [tb_sti] at hs
  split at hs
  · split at hs
    · rename_i hp
      split at hs
      · rename_i hcd
        obtain ⟨hg, rfl⟩ := tb_nx_some hs
        obtain rfl : n = 3 := by simpa using hg
        intro arr H locs cells slots hL hH hl hf hc1 hc2
        exact lv_icmp_le C.1 C.2.1 hd (tb_tg_eq hp) (fun _ => (k arr H locs cells slots hL hH hl hf hc1 hc2)) (fun q => absurd hcd q)
      · rename_i hcd
        obtain ⟨hg, rfl⟩ := tb_nx_some hs
        obtain rfl : n = 3 := by simpa using hg
        intro arr H locs cells slots hL hH hl hf hc1 hc2
        exact lv_icmp_le C.1 C.2.1 hd (tb_tg_eq hp) (fun q => absurd q hcd) (fun _ => (k arr H locs cells slots hL hH hl hf hc1 hc2))
    · cases hs
  · cases hs
theorem tb_s_tableswitch (hMul : tb_Mul) (C : tb_Cx p l R s m args meth c D b sz d y call) {dd lo hi : Int} {offs : Array Int} (hs : tb_sti call y (.tableswitch dd lo hi offs) n pc ls st M = some (.inl x')) (hd : decode y.2.2.1 pc = .ok (.tableswitch dd lo hi offs, n)) (hm : tb_cl M ≤ tb_cl x'.2.2.2 ∧ tb_sl M ≤ tb_sl x'.2.2.2) (hR : tb_cl x'.2.2.2 ≤ R.cells + c0 ∧ tb_sl x'.2.2.2 ≤ R.slots + s0)
    (k : tb_WA p l e R s m args below meth c Q D b sz c0 s0 y x'.1 x'.2.1 x'.2.2.1 x'.2.2.2) : tb_WA p l e R s m args below meth c Q D b sz c0 s0 y pc ls st M := by
  simp only [tb_sti] at hs
  split at hs
  · split at hs
    · rename_i hor
      obtain ⟨hg, rfl⟩ := tb_nx_some hs
      simp only [decide_eq_true_eq] at hg
      intro arr H locs cells slots hL hH hl hf hc1 hc2
      exact lv_tableOut C.1 C.2.1 hd hor (tb_tg_eq hg) (k arr H locs cells slots hL hH hl hf hc1 hc2)
    · rename_i hor
      split at hs
      · rename_i off ho
        obtain ⟨hg, rfl⟩ := tb_nx_some hs
        simp only [decide_eq_true_eq] at hg
        intro arr H locs cells slots hL hH hl hf hc1 hc2
        exact lv_tableIn C.1 C.2.1 hd (fun q => hor (Or.inl q)) (fun q => hor (Or.inr q)) ho (tb_tg_eq hg) (k arr H locs cells slots hL hH hl hf hc1 hc2)
      · cases hs
  · cases hs
theorem tb_s_lookupswitch (hMul : tb_Mul) (C : tb_Cx p l R s m args meth c D b sz d y call) {dd : Int} {ps : Array (Int × Int)} (hs : tb_sti call y (.lookupswitch dd ps) n pc ls st M = some (.inl x')) (hd : decode y.2.2.1 pc = .ok (.lookupswitch dd ps, n)) (hm : tb_cl M ≤ tb_cl x'.2.2.2 ∧ tb_sl M ≤ tb_sl x'.2.2.2) (hR : tb_cl x'.2.2.2 ≤ R.cells + c0 ∧ tb_sl x'.2.2.2 ≤ R.slots + s0)
    (k : tb_WA p l e R s m args below meth c Q D b sz c0 s0 y x'.1 x'.2.1 x'.2.2.1 x'.2.2.2) : tb_WA p l e R s m args below meth c Q D b sz c0 s0 y pc ls st M := by
  simp only [tb_sti] at hs
  split at hs
  · obtain ⟨hg, rfl⟩ := tb_nx_some hs
    rw [Bool.and_eq_true] at hg
    intro arr H locs cells slots hL hH hl hf hc1 hc2
    exact lv_lookup C.1 C.2.1 hd hg.1 rfl (tb_tg_eq (of_decide_eq_true hg.2)) (k arr H locs cells slots hL hH hl hf hc1 hc2)
  · cases hs
theorem tb_s_getfield (hMul : tb_Mul) (C : tb_Cx p l R s m args meth c D b sz d y call) {i : Nat} (hs : tb_sti call y (.getfield i) n pc ls st M = some (.inl x')) (hd : decode y.2.2.1 pc = .ok (.getfield i, n)) (hm : tb_cl M ≤ tb_cl x'.2.2.2 ∧ tb_sl M ≤ tb_sl x'.2.2.2) (hR : tb_cl x'.2.2.2 ≤ R.cells + c0 ∧ tb_sl x'.2.2.2 ≤ R.slots + s0)
    (k : tb_WA p l e R s m args below meth c Q D b sz c0 s0 y x'.1 x'.2.1 x'.2.2.1 x'.2.2.2) : tb_WA p l e R s m args below meth c Q D b sz c0 s0 y pc ls st M := by
  simp only [tb_sti] at hs
  split at hs
  · rename_i ci f w hv
    split at hs
    · rename_i o st
      split at hs
      · rename_i t ht
        split at hs
        · rename_i hc
          obtain ⟨hg, rfl⟩ := tb_nx_some hs
          obtain rfl : n = 3 := by simpa using hg
          intro arr H locs cells slots hL hH hl hf hc1 hc2
          exact tb_getf C hv hH ht hc hd (k arr H locs cells slots hL hH hl hf hc1 hc2)
        · cases hs
      · cases hs
    · cases hs
  · cases hs
theorem tb_s_putfield (hMul : tb_Mul) (C : tb_Cx p l R s m args meth c D b sz d y call) {i : Nat} (hs : tb_sti call y (.putfield i) n pc ls st M = some (.inl x')) (hd : decode y.2.2.1 pc = .ok (.putfield i, n)) (hm : tb_cl M ≤ tb_cl x'.2.2.2 ∧ tb_sl M ≤ tb_sl x'.2.2.2) (hR : tb_cl x'.2.2.2 ≤ R.cells + c0 ∧ tb_sl x'.2.2.2 ≤ R.slots + s0)
    (k : tb_WA p l e R s m args below meth c Q D b sz c0 s0 y x'.1 x'.2.1 x'.2.2.1 x'.2.2.2) : tb_WA p l e R s m args below meth c Q D b sz c0 s0 y pc ls st M := by
  simp only [tb_sti] at hs
  split at hs
  · rename_i ci f w hv
    split at hs
    · rename_i v o st
      split at hs
      · rename_i t ht
        split at hs
        · rename_i hc
          obtain ⟨hg, rfl⟩ := tb_nx_some hs
          obtain rfl : n = 3 := by simpa using hg
          intro arr H locs cells slots hL hH hl hf hc1 hc2
          have h9 := (tb_fld C hv).2.1
          exact tb_putf C hv hH ht hc.1 hc.2 hd (fun H1 hH1 hf1 => k arr H1 _ cells slots hL hH1 (tb_hF hl (tb_o0 hH ht (by have := hc.1; omega))) (fun q hq => (hf1 q hq).trans (hf q hq)) hc1 hc2)
        · cases hs
      · cases hs
    · rename_i v o st
      split at hs
      · rename_i t ht
        split at hs
        · rename_i hc
          obtain ⟨a1, a2, a3, a4, a5⟩ := hc
          obtain ⟨hg, rfl⟩ := tb_nx_some hs
          obtain rfl : n = 3 := by simpa using hg
          intro arr H locs cells slots hL hH hl hf hc1 hc2
          have h9 := (tb_fld C hv).2.1
          have hse := tb_cl_set (S := M.2) (t' := (ci, t.2.set f (v + 1))) ht (by
            unfold tb_sz1
            rw [if_neg (by omega), if_neg (by omega), if_neg (by omega), if_neg (by omega), List.length_set])
          exact tb_putr C hv hH ht a1 a2 a4 a5 hd (fun H1 hH1 hf1 => k arr H1 _ cells slots hL hH1 (tb_hF hl (tb_o0 hH ht (by omega))) (fun q hq => (hf1 q hq).trans (hf q hq)) (hc1.trans hse.1.symm) (hc2.trans hse.2.symm))
        · cases hs
      · cases hs
    · cases hs
  · cases hs
theorem tb_s_iaload (hMul : tb_Mul) (C : tb_Cx p l R s m args meth c D b sz d y call) (hs : tb_sti call y (.iaload) n pc ls st M = some (.inl x')) (hd : decode y.2.2.1 pc = .ok (.iaload, n)) (hm : tb_cl M ≤ tb_cl x'.2.2.2 ∧ tb_sl M ≤ tb_sl x'.2.2.2) (hR : tb_cl x'.2.2.2 ≤ R.cells + c0 ∧ tb_sl x'.2.2.2 ≤ R.slots + s0)
    (k : tb_WA p l e R s m args below meth c Q D b sz c0 s0 y x'.1 x'.2.1 x'.2.2.1 x'.2.2.2) : tb_WA p l e R s m args below meth c Q D b sz c0 s0 y pc ls st M := by
  simp only [tb_sti] at hs
  split at hs
  · rename_i i o st
    split at hs
    · rename_i t ht
      split at hs
      · rename_i hk
        obtain ⟨j, hj, hs⟩ := Option.bind_eq_some_iff.mp hs
        obtain ⟨hg, rfl⟩ := tb_nx_some hs
        obtain rfl : n = 1 := by simpa using hg
        intro arr H locs cells slots hL hH hl hf hc1 hc2
        exact tb_iald C hH ht hk hj hd (k arr H locs cells slots hL hH hl hf hc1 hc2)
      · cases hs
    · cases hs
  · cases hs
theorem tb_s_baload (hMul : tb_Mul) (C : tb_Cx p l R s m args meth c D b sz d y call) (hs : tb_sti call y (.baload) n pc ls st M = some (.inl x')) (hd : decode y.2.2.1 pc = .ok (.baload, n)) (hm : tb_cl M ≤ tb_cl x'.2.2.2 ∧ tb_sl M ≤ tb_sl x'.2.2.2) (hR : tb_cl x'.2.2.2 ≤ R.cells + c0 ∧ tb_sl x'.2.2.2 ≤ R.slots + s0)
    (k : tb_WA p l e R s m args below meth c Q D b sz c0 s0 y x'.1 x'.2.1 x'.2.2.1 x'.2.2.2) : tb_WA p l e R s m args below meth c Q D b sz c0 s0 y pc ls st M := by
  simp only [tb_sti] at hs
  split at hs
  · rename_i i o st
    split at hs
    · rename_i t ht
      split at hs
      · rename_i hk
        obtain ⟨j, hj, hs⟩ := Option.bind_eq_some_iff.mp hs
        obtain ⟨hg, rfl⟩ := tb_nx_some hs
        obtain rfl : n = 1 := by simpa using hg
        intro arr H locs cells slots hL hH hl hf hc1 hc2
        exact tb_bald C hH ht hk hj hd (k arr H locs cells slots hL hH hl hf hc1 hc2)
      · cases hs
    · cases hs
  · cases hs
theorem tb_s_aaload (hMul : tb_Mul) (C : tb_Cx p l R s m args meth c D b sz d y call) (hs : tb_sti call y (.aaload) n pc ls st M = some (.inl x')) (hd : decode y.2.2.1 pc = .ok (.aaload, n)) (hm : tb_cl M ≤ tb_cl x'.2.2.2 ∧ tb_sl M ≤ tb_sl x'.2.2.2) (hR : tb_cl x'.2.2.2 ≤ R.cells + c0 ∧ tb_sl x'.2.2.2 ≤ R.slots + s0)
    (k : tb_WA p l e R s m args below meth c Q D b sz c0 s0 y x'.1 x'.2.1 x'.2.2.1 x'.2.2.2) : tb_WA p l e R s m args below meth c Q D b sz c0 s0 y pc ls st M := by
  simp only [tb_sti] at hs
  split at hs
  · rename_i i o st
    split at hs
    · rename_i t ht
      split at hs
      · rename_i hk
        obtain ⟨j, hj, hs⟩ := Option.bind_eq_some_iff.mp hs
        obtain ⟨hg, rfl⟩ := tb_nx_some hs
        obtain rfl : n = 1 := by simpa using hg
        intro arr H locs cells slots hL hH hl hf hc1 hc2
        exact tb_aald C hH ht hk hj hd (k arr H locs cells slots hL hH hl hf hc1 hc2)
      · cases hs
    · cases hs
  · cases hs
theorem tb_s_iastore (hMul : tb_Mul) (C : tb_Cx p l R s m args meth c D b sz d y call) (hs : tb_sti call y (.iastore) n pc ls st M = some (.inl x')) (hd : decode y.2.2.1 pc = .ok (.iastore, n)) (hm : tb_cl M ≤ tb_cl x'.2.2.2 ∧ tb_sl M ≤ tb_sl x'.2.2.2) (hR : tb_cl x'.2.2.2 ≤ R.cells + c0 ∧ tb_sl x'.2.2.2 ≤ R.slots + s0)
    (k : tb_WA p l e R s m args below meth c Q D b sz c0 s0 y x'.1 x'.2.1 x'.2.2.1 x'.2.2.2) : tb_WA p l e R s m args below meth c Q D b sz c0 s0 y pc ls st M := by
  simp only [tb_sti] at hs
  split at hs
  · rename_i v i o st
    split at hs
    · rename_i t ht
      split at hs
      · rename_i hk
        obtain ⟨j, hj, hs⟩ := Option.bind_eq_some_iff.mp hs
        obtain ⟨hg, rfl⟩ := tb_nx_some hs
        obtain rfl : n = 1 := by simpa using hg
        intro arr H locs cells slots hL hH hl hf hc1 hc2
        exact tb_iast C hH ht hk hj hd (fun H1 hH1 hf1 => k arr H1 _ cells slots hL hH1 (tb_hF hl (tb_o0 hH ht (by omega))) (fun q hq => (hf1 q hq).trans (hf q hq)) hc1 hc2)
      · cases hs
    · cases hs
  · cases hs
theorem tb_s_bastore (hMul : tb_Mul) (C : tb_Cx p l R s m args meth c D b sz d y call) (hs : tb_sti call y (.bastore) n pc ls st M = some (.inl x')) (hd : decode y.2.2.1 pc = .ok (.bastore, n)) (hm : tb_cl M ≤ tb_cl x'.2.2.2 ∧ tb_sl M ≤ tb_sl x'.2.2.2) (hR : tb_cl x'.2.2.2 ≤ R.cells + c0 ∧ tb_sl x'.2.2.2 ≤ R.slots + s0)
    (k : tb_WA p l e R s m args below meth c Q D b sz c0 s0 y x'.1 x'.2.1 x'.2.2.1 x'.2.2.2) : tb_WA p l e R s m args below meth c Q D b sz c0 s0 y pc ls st M := by
  simp only [tb_sti] at hs
  split at hs
  · rename_i v i o st
    split at hs
    · rename_i t ht
      split at hs
      · rename_i hk
        obtain ⟨j, hj, hs⟩ := Option.bind_eq_some_iff.mp hs
        obtain ⟨hg, rfl⟩ := tb_nx_some hs
        obtain rfl : n = 1 := by simpa using hg
        intro arr H locs cells slots hL hH hl hf hc1 hc2
        exact tb_bast C hH ht hk hj hd (fun H1 hH1 hf1 => k arr H1 _ cells slots hL hH1 (tb_hF hl (tb_o0 hH ht (by omega))) (fun q hq => (hf1 q hq).trans (hf q hq)) hc1 hc2)
      · cases hs
    · cases hs
  · cases hs
theorem tb_s_arraylength (hMul : tb_Mul) (C : tb_Cx p l R s m args meth c D b sz d y call) (hs : tb_sti call y (.arraylength) n pc ls st M = some (.inl x')) (hd : decode y.2.2.1 pc = .ok (.arraylength, n)) (hm : tb_cl M ≤ tb_cl x'.2.2.2 ∧ tb_sl M ≤ tb_sl x'.2.2.2) (hR : tb_cl x'.2.2.2 ≤ R.cells + c0 ∧ tb_sl x'.2.2.2 ≤ R.slots + s0)
    (k : tb_WA p l e R s m args below meth c Q D b sz c0 s0 y x'.1 x'.2.1 x'.2.2.1 x'.2.2.2) : tb_WA p l e R s m args below meth c Q D b sz c0 s0 y pc ls st M := by
  simp only [tb_sti] at hs
  split at hs
  · rename_i o st
    split at hs
    · rename_i t ht
      split at hs
      · rename_i hk
        obtain ⟨hg, rfl⟩ := tb_nx_some hs
        obtain rfl : n = 1 := by simpa using hg
        intro arr H locs cells slots hL hH hl hf hc1 hc2
        exact tb_alen C hH ht hk.1 hk.2 hd (k arr H locs cells slots hL hH hl hf hc1 hc2)
      · cases hs
    · cases hs
  · cases hs
theorem tb_s_new (hMul : tb_Mul) (C : tb_Cx p l R s m args meth c D b sz d y call) {i : Nat} (hs : tb_sti call y (.new i) n pc ls st M = some (.inl x')) (hd : decode y.2.2.1 pc = .ok (.new i, n)) (hm : tb_cl M ≤ tb_cl x'.2.2.2 ∧ tb_sl M ≤ tb_sl x'.2.2.2) (hR : tb_cl x'.2.2.2 ≤ R.cells + c0 ∧ tb_sl x'.2.2.2 ≤ R.slots + s0)
    (k : tb_WA p l e R s m args below meth c Q D b sz c0 s0 y x'.1 x'.2.1 x'.2.2.1 x'.2.2.2) : tb_WA p l e R s m args below meth c Q D b sz c0 s0 y pc ls st M := by
  simp only [tb_sti] at hs
  split at hs
  · rename_i ci w hv
    obtain ⟨hg, rfl⟩ := tb_nx_some hs
    simp only [Bool.and_eq_true, beq_iff_eq, decide_eq_true_eq] at hg
    obtain ⟨rfl, hp⟩ := hg
    intro arr H locs cells slots hL hH hl hf hc1 hc2
    have h9 : ci < 9 := (tb_nok _ (tb_look_in hv)).2.2.2
    have e1 : tb_cl (M.1 ++ [(ci, List.replicate (tb_vc ci).2.2 0)], tb_zr M.2 M.1.length) = tb_cl M + 1 := by simp [tb_cl]
    have e2 : tb_sl (M.1 ++ [(ci, List.replicate (tb_vc ci).2.2 0)], tb_zr M.2 M.1.length) = tb_sl M + (tb_vc ci).2.2 := by
      unfold tb_sl
      rw [List.map_append, List.sum_append]
      congr 1
      show tb_sz1 (ci, List.replicate (tb_vc ci).2.2 0) + 0 = _
      unfold tb_sz1
      show (if 50 ≤ ci ∧ ci ≤ 52 then _ else if ci = 54 then _ else _) + 0 = _
      rw [if_neg (by omega), if_neg (by omega)]
      simp
    have hR1 := hR.1
    have hR2 := hR.2
    dsimp only at hR1 hR2
    rw [e1] at hR1
    rw [e2] at hR2
    exact tb_new C (w1 := w.1) (w2 := w.2.1) (w3 := w.2.2) hv hH (by omega) (by omega) hd (fun H1 hH1 hf1 => k arr H1 locs _ _ hL hH1 hl (fun q hq => (hf1 q hq).trans (hf q hq)) (by dsimp only; rw [e1]; omega) (by dsimp only; rw [e2]; omega))
  · cases hs
theorem tb_s_newarray (hMul : tb_Mul) (C : tb_Cx p l R s m args meth c D b sz d y call) {a : ArrayType} (hs : tb_sti call y (.newarray a) n pc ls st M = some (.inl x')) (hd : decode y.2.2.1 pc = .ok (.newarray a, n)) (hm : tb_cl M ≤ tb_cl x'.2.2.2 ∧ tb_sl M ≤ tb_sl x'.2.2.2) (hR : tb_cl x'.2.2.2 ≤ R.cells + c0 ∧ tb_sl x'.2.2.2 ≤ R.slots + s0)
    (k : tb_WA p l e R s m args below meth c Q D b sz c0 s0 y x'.1 x'.2.1 x'.2.2.1 x'.2.2.2) : tb_WA p l e R s m args below meth c Q D b sz c0 s0 y pc ls st M := by
  simp only [tb_sti] at hs
  split at hs
  · rename_i v st
    split at hs
    · rename_i kd hkd
      obtain ⟨hg, rfl⟩ := tb_nx_some hs
      simp only [Bool.and_eq_true, beq_iff_eq, decide_eq_true_eq] at hg
      obtain ⟨⟨⟨rfl, hp⟩, h0⟩, h1⟩ := hg
      intro arr H locs cells slots hL hH hl hf hc1 hc2
      have e1 : tb_cl (M.1 ++ [(kd, [v.toNatClampNeg])], tb_zr M.2 M.1.length) = tb_cl M + 1 := by simp [tb_cl]
      have hkd3 : 50 ≤ kd ∧ kd ≤ 52 := by cases a <;> first | (cases hkd; done) | (cases hkd; decide)
      have e2 : tb_sl (M.1 ++ [(kd, [v.toNatClampNeg])], tb_zr M.2 M.1.length) = tb_sl M + v.toNatClampNeg := by
        unfold tb_sl
        rw [List.map_append, List.sum_append]
        congr 1
        show tb_sz1 (kd, [v.toNatClampNeg]) + 0 = _
        unfold tb_sz1
        rw [if_pos hkd3]
        rfl
      have hR1 := hR.1
      have hR2 := hR.2
      dsimp only at hR1 hR2
      rw [e1] at hR1
      rw [e2] at hR2
      exact tb_newa C hkd hH h0 h1 (by omega) (by omega) hd (fun H1 hH1 hf1 => k arr H1 locs _ _ hL hH1 hl (fun q hq => (hf1 q hq).trans (hf q hq)) (by dsimp only; rw [e1]; omega) (by dsimp only; rw [e2]; omega))
    · cases hs
  · cases hs
theorem tb_s_multi (hMul : tb_Mul) (C : tb_Cx p l R s m args meth c D b sz d y call) {i dm : Nat} (hs : tb_sti call y (.multianewarray i dm) n pc ls st M = some (.inl x')) (hd : decode y.2.2.1 pc = .ok (.multianewarray i dm, n)) (hm : tb_cl M ≤ tb_cl x'.2.2.2 ∧ tb_sl M ≤ tb_sl x'.2.2.2) (hR : tb_cl x'.2.2.2 ≤ R.cells + c0 ∧ tb_sl x'.2.2.2 ≤ R.slots + s0)
    (k : tb_WA p l e R s m args below meth c Q D b sz c0 s0 y x'.1 x'.2.1 x'.2.2.1 x'.2.2.2) : tb_WA p l e R s m args below meth c Q D b sz c0 s0 y pc ls st M := by
  simp only [tb_sti] at hs
  split at hs
  · rename_i bb a st
    split at hs
    · rename_i hk
      obtain ⟨g1, rfl, rfl, rfl, rfl, rfl, hp⟩ := hk
      cases hs
      intro arr H locs cells slots hL hH hl hf hc1 hc2
      have hR1 := hR.1
      have hR2 := hR.2
      have e1 : tb_cl (M.1 ++ [(53, [M.1.length + 2, M.1.length + 3, M.1.length + 4, M.1.length + 5]), (50, [70]), (50, [70]), (50, [70]), (50, [70])], tb_zr (tb_zr (tb_zr (tb_zr (tb_zr M.2 M.1.length) (M.1.length + 1)) (M.1.length + 2)) (M.1.length + 3)) (M.1.length + 4)) = tb_cl M + 5 := by simp [tb_cl]
      have e2 : tb_sl (M.1 ++ [(53, [M.1.length + 2, M.1.length + 3, M.1.length + 4, M.1.length + 5]), (50, [70]), (50, [70]), (50, [70]), (50, [70])], tb_zr (tb_zr (tb_zr (tb_zr (tb_zr M.2 M.1.length) (M.1.length + 1)) (M.1.length + 2)) (M.1.length + 3)) (M.1.length + 4)) = tb_sl M + 284 := by
        unfold tb_sl
        rw [List.map_append, List.sum_append]
        rfl
      dsimp only at hR1 hR2
      rw [e1] at hR1
      rw [e2] at hR2
      exact hMul p l e R s m args below meth c Q D b sz d y call C M H locs cells slots pc arr _ g1 hH (by omega) (by omega) hd (fun H1 hH1 hf1 => k arr H1 locs _ _ hL hH1 hl (fun q hq => (hf1 q hq).trans (hf q hq)) (by dsimp only; rw [e1]; omega) (by dsimp only; rw [e2]; omega))
    · cases hs
  · cases hs
theorem tb_s_virt (hMul : tb_Mul) (C : tb_Cx p l R s m args meth c D b sz d y call) {i : Nat} (hs : tb_sti call y (.invokevirtual i) n pc ls st M = some (.inl x')) (hd : decode y.2.2.1 pc = .ok (.invokevirtual i, n)) (hm : tb_cl M ≤ tb_cl x'.2.2.2 ∧ tb_sl M ≤ tb_sl x'.2.2.2) (hR : tb_cl x'.2.2.2 ≤ R.cells + c0 ∧ tb_sl x'.2.2.2 ≤ R.slots + s0)
    (k : tb_WA p l e R s m args below meth c Q D b sz c0 s0 y x'.1 x'.2.1 x'.2.2.1 x'.2.2.2) : tb_WA p l e R s m args below meth c Q D b sz c0 s0 y pc ls st M := by
  simp only [tb_sti] at hs
  split at hs
  · rename_i z ps hv
    split at hs
    · rename_i o rest hst
      split at hs
      · rename_i t ht
        split at hs
        · rename_i hk
          obtain ⟨r, hr, hs⟩ := Option.bind_eq_some_iff.mp hs
          obtain ⟨hg, rfl⟩ := tb_nx_some hs
          obtain rfl : n = 3 := by simpa using hg
          intro arr H locs cells slots hL hH hl hf hc1 hc2
          have hrun := tb_callV (arr := arr) (rest := rest) (as := (st.take z.2.2.2.2.2).reverse) (locs := locs) (e := e) (below := below) (cells := cells) (slots := slots) C hv hH ht hk.1 hr (by rw [List.length_reverse]; exact hk.2.2) hk.2.1 hL.2.1.1 ⟨by have q1 := hR.1; have q2 := hm.1; dsimp only at q1 q2; omega, by have q1 := hR.2; have q2 := hm.2; dsimp only at q1 q2; omega⟩ hd
          have hbk := tb_back (Q := Q) hf hl hrun (fun H1 locs1 g1 g2 g3 => k arr H1 locs1 _ _ hL g1 g2 g3 (by have q1 := hm.1; have q2 := hm.2; dsimp only at q1 q2 ⊢; omega) (by have q1 := hm.1; have q2 := hm.2; dsimp only at q1 q2 ⊢; omega))
          have hsp : ((st.take z.2.2.2.2.2).reverse.map (tb_cv b sz)).reverse ++ .ref (tb_ad b sz o) :: rest.map (tb_cv b sz) = st.map (tb_cv b sz) := by
            rw [List.map_reverse, List.reverse_reverse]
            conv => rhs; rw [← List.take_append_drop z.2.2.2.2.2 st, hst, List.map_append]
            rfl
          rw [hsp] at hbk
          exact hbk
        · cases hs
      · cases hs
    · cases hs
  · cases hs
theorem tb_s_stat (hMul : tb_Mul) (C : tb_Cx p l R s m args meth c D b sz d y call) {i : Nat} (hs : tb_sti call y (.invokestatic i) n pc ls st M = some (.inl x')) (hd : decode y.2.2.1 pc = .ok (.invokestatic i, n)) (hm : tb_cl M ≤ tb_cl x'.2.2.2 ∧ tb_sl M ≤ tb_sl x'.2.2.2) (hR : tb_cl x'.2.2.2 ≤ R.cells + c0 ∧ tb_sl x'.2.2.2 ≤ R.slots + s0)
    (k : tb_WA p l e R s m args below meth c Q D b sz c0 s0 y x'.1 x'.2.1 x'.2.2.1 x'.2.2.2) : tb_WA p l e R s m args below meth c Q D b sz c0 s0 y pc ls st M := by
  simp only [tb_sti] at hs
  split at hs
  · rename_i kd z ps hv
    split at hs
    · rename_i hk
      obtain ⟨r, hr, hs⟩ := Option.bind_eq_some_iff.mp hs
      obtain ⟨hg, rfl⟩ := tb_nx_some hs
      obtain rfl : n = 3 := by simpa using hg
      intro arr H locs cells slots hL hH hl hf hc1 hc2
      have hrun := tb_callS (arr := arr) (rest := st.drop z.2.2.2.2.2) (as := (st.take z.2.2.2.2.2).reverse) (locs := locs) (e := e) (below := below) (cells := cells) (slots := slots) C hv hk.1 hH hr (by rw [List.length_reverse]; exact hk.2.2) hk.2.1 hL.2.1.1 ⟨by have q1 := hR.1; have q2 := hm.1; dsimp only at q1 q2; omega, by have q1 := hR.2; have q2 := hm.2; dsimp only at q1 q2; omega⟩ hd
      have hbk := tb_back (Q := Q) hf hl hrun (fun H1 locs1 g1 g2 g3 => k arr H1 locs1 _ _ hL g1 g2 g3 (by have q1 := hm.1; have q2 := hm.2; dsimp only at q1 q2 ⊢; omega) (by have q1 := hm.1; have q2 := hm.2; dsimp only at q1 q2 ⊢; omega))
      have hsp : ((st.take z.2.2.2.2.2).reverse.map (tb_cv b sz)).reverse ++ (st.drop z.2.2.2.2.2).map (tb_cv b sz) = st.map (tb_cv b sz) := by
        rw [List.map_reverse, List.reverse_reverse]
        conv => rhs; rw [← List.take_append_drop z.2.2.2.2.2 st, List.map_append]
      rw [hsp] at hbk
      exact hbk
    · cases hs
  · split at hs
    · rename_i w w2 hv
      split at hs
      · rename_i bb a st
        split at hs
        · rename_i hk
          obtain ⟨hg, rfl⟩ := tb_nx_some hs
          obtain rfl : n = 3 := by simpa using hg
          intro arr H locs cells slots hL hH hl hf hc1 hc2
          have hx1 := tb_xok _ (tb_look_in hv)
          obtain ⟨x1, x2, x3, x4, x5⟩ := tb_xc
          have hts := C.2.2.2.2.1
          have hfr := C.2.2.2.2.2.2.2.1
          have hk' : ((st.map (tb_cv b sz)).map fun v => v.category).sum + 13 ≤ R.locals := by rw [tb_map_cat]; omega
          have hcR : cells ≤ R.cells := by have := hR.1; dsimp only at this; omega
          have hsR : slots ≤ R.slots := by have := hR.2; dsimp only at this; omega
          have hml : c.maxLocals = arr.size := by rw [C.2.2.1, hL.2.1.1]
          dsimp only at hx1
          by_cases hw : w = 0
          · rw [if_pos hw] at hx1 k
            exact va_mmax C.1 C.2.1 hml C.2.2.2.1 (hts _ (tb_gt_in (tb_tw_in hx1) rfl)) (hts _ (tb_gt_in x1 rfl)) (hts _ (tb_gt_in x3 rfl)) (hts _ (tb_gt_in x4 rfl)) (by omega) hk' hcR hsR hd (k arr H locs cells slots hL hH hl hf hc1 hc2)
          · rw [if_neg hw] at hx1 k
            exact va_mmin C.1 C.2.1 hml C.2.2.2.1 (hts _ (tb_gt_in (tb_tw_in hx1) rfl)) (hts _ (tb_gt_in x2 rfl)) (hts _ (tb_gt_in x3 rfl)) (hts _ (tb_gt_in x5 rfl)) (by omega) hk' hcR hsR hd (k arr H locs cells slots hL hH hl hf hc1 hc2)
        · cases hs
      · cases hs
    · cases hs
theorem tb_s_spec (hMul : tb_Mul) (C : tb_Cx p l R s m args meth c D b sz d y call) {i : Nat} (hs : tb_sti call y (.invokespecial i) n pc ls st M = some (.inl x')) (hd : decode y.2.2.1 pc = .ok (.invokespecial i, n)) (hm : tb_cl M ≤ tb_cl x'.2.2.2 ∧ tb_sl M ≤ tb_sl x'.2.2.2) (hR : tb_cl x'.2.2.2 ≤ R.cells + c0 ∧ tb_sl x'.2.2.2 ≤ R.slots + s0)
    (k : tb_WA p l e R s m args below meth c Q D b sz c0 s0 y x'.1 x'.2.1 x'.2.2.1 x'.2.2.2) : tb_WA p l e R s m args below meth c Q D b sz c0 s0 y pc ls st M := by
  simp only [tb_sti] at hs
  split at hs
  · rename_i kd z ps hv
    split at hs
    · rename_i o rest hst
      split at hs
      · rename_i hk
        obtain ⟨r, hr, hs⟩ := Option.bind_eq_some_iff.mp hs
        obtain ⟨hg, rfl⟩ := tb_nx_some hs
        obtain rfl : n = 3 := by simpa using hg
        intro arr H locs cells slots hL hH hl hf hc1 hc2
        have hrun := tb_callI (arr := arr) (rest := rest) (as := (st.take z.2.2.2.2.2).reverse) (locs := locs) (e := e) (below := below) (cells := cells) (slots := slots) C hv hk.1 hH hr (by rw [List.length_reverse]; exact hk.2.2) hk.2.1 hL.2.1.1 ⟨by have q1 := hR.1; have q2 := hm.1; dsimp only at q1 q2; omega, by have q1 := hR.2; have q2 := hm.2; dsimp only at q1 q2; omega⟩ hd
        have hbk := tb_back (Q := Q) hf hl hrun (fun H1 locs1 g1 g2 g3 => k arr H1 locs1 _ _ hL g1 g2 g3 (by have q1 := hm.1; have q2 := hm.2; dsimp only at q1 q2 ⊢; omega) (by have q1 := hm.1; have q2 := hm.2; dsimp only at q1 q2 ⊢; omega))
        have hsp : ((st.take z.2.2.2.2.2).reverse.map (tb_cv b sz)).reverse ++ .ref (tb_ad b sz o) :: rest.map (tb_cv b sz) = st.map (tb_cv b sz) := by
          rw [List.map_reverse, List.reverse_reverse]
          conv => rhs; rw [← List.take_append_drop z.2.2.2.2.2 st, hst, List.map_append]
          rfl
        rw [hsp] at hbk
        exact hbk
      · cases hs
    · cases hs
  · split at hs
    · rename_i w hv
      split at hs
      · rename_i o st
        split at hs
        · rename_i hk
          obtain ⟨hg, rfl⟩ := tb_nx_some hs
          obtain rfl : n = 3 := by simpa using hg
          intro arr H locs cells slots hL hH hl hf hc1 hc2
          have hx1 := tb_ook.1 _ (tb_look_in hv)
          have hts := C.2.2.2.2.1
          have hfr := C.2.2.2.2.2.2.2.1
          exact W.objInit C.1 C.2.1 C.2.2.2.1 (hts _ (tb_gt_in (tb_tw_in hx1) rfl)) (hts _ (tb_gt_in tb_ook.2.1 rfl)) (hts _ (tb_gt_in tb_ook.2.2 rfl)) rfl (by rw [C.2.2.1]; exact hL.2.1.1) rfl hd (by omega) (by rw [tb_map_cat]; show 2 * 0 + _ + 12 ≤ _; omega) (k arr H locs cells slots hL hH hl hf hc1 hc2)
        · cases hs
      · cases hs
    · cases hs
end Step
