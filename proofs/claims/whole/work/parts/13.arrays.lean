/-! Part 13: arrays, and what is made new -/
section Step
variable {p : Program} {l : Launch} {e : Env} {R : Room} {s : State} {m : MethodId} {args : Array Value} {below : List Frame} {meth : Method} {c : Code} {Q : State → Prop} {D : va_G} {b sz c0 s0 d : Nat} {y : tb_MD} {call : tb_MD → List Value → tb_MM → Option tb_XR}
variable {M : tb_MM} {H : Heap} {locs : List Loc} {cells slots o pc : Nat} {t : Nat × List Nat} {arr : Array Slot} {st : List Value}
theorem tb_arr {n : Nat} {ty : FieldType} (hH : tb_Hp D b sz M s H) (ht : M.1[o]? = some t) (hk : t.1 = 50 ∧ ty = .int ∨ t.1 = 51 ∧ ty = .boolean ∨ t.1 = 52 ∧ ty = .byte) (hn : t.2.headD 0 = n) : (∃ cA, ArrOfT s cA ty ∧ H[tb_ad b sz o]? = some (vp_cell cA (n, .inl (M.2 o)))) ∧ o ≠ 0 := by
  obtain ⟨h1, h2⟩ := hH.2.2.2 o t ht
  subst hn
  unfold tb_at at h1
  rcases hk with ⟨hk, rfl⟩ | ⟨hk, rfl⟩ | ⟨hk, rfl⟩
  · rw [if_pos hk] at h1
    exact ⟨h1, fun q => by have := h2.mp q; omega⟩
  · rw [if_neg (by omega), if_pos hk] at h1
    exact ⟨h1, fun q => by have := h2.mp q; omega⟩
  · rw [if_neg (by omega), if_neg (by omega), if_pos hk] at h1
    exact ⟨h1, fun q => by have := h2.mp q; omega⟩
theorem tb_inx {cA : ClassId} {n : Nat} {f : Nat → Value} {i : Int32} (h : vp_in i n) : ¬ (i < 0 ∨ (arrV cA n f).slots.size ≤ i.toNatClampNeg) := by
  rw [arrV_size]
  exact h
theorem tb_iald (C : tb_Cx p l R s m args meth c D b sz d y call) {i : Int32} {j : Nat} (hH : tb_Hp D b sz M s H) (ht : M.1[o]? = some t) (hk : t.1 = 50 ∨ t.1 = 54) (hj : tb_ix i (if t.1 = 50 then t.2.headD 0 else (M.2 o 2560).toNatClampNeg) = some j) (hd : decode y.2.2.1 pc = .ok (.iaload, 1))
    (kk : W p l e R s m args below meth c H locs cells slots Q (F0 m (pc + 1) arr (.int (M.2 o j) :: st))) : W p l e R s m args below meth c H locs cells slots Q (F0 m pc arr (.int i :: .ref (tb_ad b sz o) :: st)) := by
  obtain ⟨g1, rfl⟩ := tb_ix_some hj
  have hx := C.1
  have hb := C.2.1
  rcases hk with hk | hk
  · rw [if_pos hk] at g1
    obtain ⟨⟨cA, hA, hc⟩, -⟩ := tb_arr (ty := .int) hH ht (Or.inl ⟨hk, rfl⟩) rfl
    have hlt : i.toNatClampNeg < t.2.headD 0 := Nat.not_le.mp fun q => g1 (Or.inr q)
    exact W.iald (v := .int (M.2 o i.toNatClampNeg)) hx hb hc (hA _ (fun j => .int (M.2 o j))) (fun q => by cases q) (tb_inx g1) (by show (arrV _ _ _).slots[_]? = _; rw [arrV_read _ _ hlt]) rfl rfl hd kk
  · rw [if_neg (by omega)] at g1
    have h1 := (hH.2.2.2 o t ht).1
    unfold tb_at at h1
    rw [if_neg (by omega), if_neg (by omega), if_neg (by omega), if_neg (by omega), if_pos hk] at h1
    obtain ⟨scr, e1, e2, e3, e4, e5⟩ := h1
    have hlt : i.toNatClampNeg < (M.2 o 2560).toNatClampNeg := Nat.not_le.mp fun q => g1 (Or.inr q)
    exact W.iald (v := .int (M.2 o i.toNatClampNeg)) hx hb e1 e2 e3 (by rw [e4]; exact g1) (e5 _ hlt) rfl rfl hd kk
theorem tb_bald (C : tb_Cx p l R s m args meth c D b sz d y call) {i : Int32} {j : Nat} (hH : tb_Hp D b sz M s H) (ht : M.1[o]? = some t) (hk : t.1 = 51 ∨ t.1 = 52) (hj : tb_ix i (t.2.headD 0) = some j) (hd : decode y.2.2.1 pc = .ok (.baload, 1))
    (kk : W p l e R s m args below meth c H locs cells slots Q (F0 m (pc + 1) arr (.int (M.2 o j) :: st))) : W p l e R s m args below meth c H locs cells slots Q (F0 m pc arr (.int i :: .ref (tb_ad b sz o) :: st)) := by
  obtain ⟨g1, rfl⟩ := tb_ix_some hj
  have hx := C.1
  have hb := C.2.1
  have hlt : i.toNatClampNeg < t.2.headD 0 := Nat.not_le.mp fun q => g1 (Or.inr q)
  rcases hk with hk | hk
  · obtain ⟨⟨cA, hA, hc⟩, -⟩ := tb_arr (ty := .boolean) hH ht (Or.inr (Or.inl ⟨hk, rfl⟩)) rfl
    exact W.zald (v := .int (M.2 o i.toNatClampNeg)) hx hb hc (hA _ (fun j => .int (M.2 o j))) (fun q => by cases q) (tb_inx g1) (by show (arrV _ _ _).slots[_]? = _; rw [arrV_read _ _ hlt]) rfl rfl hd kk
  · obtain ⟨⟨cA, hA, hc⟩, -⟩ := tb_arr (ty := .byte) hH ht (Or.inr (Or.inr ⟨hk, rfl⟩)) rfl
    exact W.bald (v := .int (M.2 o i.toNatClampNeg)) hx hb hc (hA _ (fun j => .int (M.2 o j))) (fun q => by cases q) (tb_inx g1) (by show (arrV _ _ _).slots[_]? = _; rw [arrV_read _ _ hlt]) rfl rfl hd kk
theorem tb_aald (C : tb_Cx p l R s m args meth c D b sz d y call) {i : Int32} {j : Nat} (hH : tb_Hp D b sz M s H) (ht : M.1[o]? = some t) (hk : t.1 = 53) (hj : tb_ix i t.2.length = some j) (hd : decode y.2.2.1 pc = .ok (.aaload, 1))
    (kk : W p l e R s m args below meth c H locs cells slots Q (F0 m (pc + 1) arr (tb_cv b sz (tb_rv (t.2.getD j 0)) :: st))) : W p l e R s m args below meth c H locs cells slots Q (F0 m pc arr (.int i :: .ref (tb_ad b sz o) :: st)) := by
  obtain ⟨g1, rfl⟩ := tb_ix_some hj
  have hx := C.1
  have hb := C.2.1
  have hlt : i.toNatClampNeg < t.2.length := Nat.not_le.mp fun q => g1 (Or.inr q)
  have h1 := (hH.2.2.2 o t ht).1
  unfold tb_at at h1
  rw [if_neg (by omega), if_neg (by omega), if_neg (by omega), if_pos hk] at h1
  obtain ⟨cA, hA, hc⟩ := h1
  refine W.aald (v := tb_cv b sz (tb_rv (t.2.getD i.toNatClampNeg 0))) (ty := .array .int) hx hb hc (hA _ (fun j => va_rf (tb_ro b sz (t.2.getD j 0)))) rfl (fun q => by cases q) (tb_inx g1) ?_ rfl rfl hd kk
  show (arrV _ _ _).slots[_]? = _
  rw [arrV_read _ _ hlt, tb_ro_rv]
theorem tb_upc {cA : ClassId} {n j : Nat} {f : Nat → Int32} {x : Int32} : (vp_cell cA (n, .inl f)).setSlot j (.int x) = vp_cell cA (n, .inl (upd f j x)) := by
  rw [vp_cell_i, vp_cell_i, arrV_store]
  congr 1
  funext q
  by_cases hq : q = j
  · subst hq
    simp [updV, upd]
  · simp [updV, upd, hq]
theorem tb_atU {S' : tb_St} {n : Nat} (hH : tb_Hp D b sz M s H) (ht : M.1[o]? = some t) {H1 : Heap} (hz : H1.size = H.size) (ho : ∀ q, q ≠ tb_ad b sz o → H1[q]? = H[q]?) (hn : tb_at D s b sz o t (S' o) H1) (hS : ∀ j, j ≠ o → S' j = M.2 j) : tb_Hp D b sz (M.1, S') s H1 := by
  have h := tb_Hp.set (t' := t) (S' := S') hH ht hz ho hn rfl hS
  rw [tb_set_self ht] at h
  exact h
theorem tb_iast (C : tb_Cx p l R s m args meth c D b sz d y call) {i v : Int32} {j : Nat} (hH : tb_Hp D b sz M s H) (ht : M.1[o]? = some t) (hk : t.1 = 50) (hj : tb_ix i (t.2.headD 0) = some j) (hd : decode y.2.2.1 pc = .ok (.iastore, 1))
    (kk : ∀ (H1 : Heap), tb_Hp D b sz (M.1, tb_up M.2 o j v) s H1 → (∀ q, q < sz → H1[q]? = H[q]?) → W p l e R s m args below meth c H1 (locs ++ [⟨tb_ad b sz o, j⟩]) cells slots Q (F0 m (pc + 1) arr st)) : W p l e R s m args below meth c H locs cells slots Q (F0 m pc arr (.int v :: .int i :: .ref (tb_ad b sz o) :: st)) := by
  obtain ⟨g1, rfl⟩ := tb_ix_some hj
  obtain ⟨⟨cA, hA, hc⟩, h0⟩ := tb_arr (ty := .int) hH ht (Or.inl ⟨hk, rfl⟩) rfl
  refine W.iast C.1 C.2.1 hc (hA _ (fun j => .int (M.2 o j))) (fun q => by cases q) (tb_inx g1) rfl rfl hd fun H1 e1 e2 e3 => ?_
  refine kk H1 (tb_atU (n := 0) hH ht e2 e3 ?_ (fun j hj => by unfold tb_up; rw [if_neg hj])) (fun q hq => e3 q (fun z => by have := tb_ad_ge (b := b) (sz := sz) h0; have z' : q = tb_ad b sz o := z; omega))
  unfold tb_at
  rw [if_pos hk]
  refine ⟨cA, hA, e1.trans ?_⟩
  rw [tb_upc, show tb_up M.2 o i.toNatClampNeg v o = upd (M.2 o) i.toNatClampNeg v from if_pos rfl]
theorem tb_nar_b (x : Int32) : narrow .byte (.int x) = .int (vp_nar .byte x) := rfl
theorem tb_nar_z (x : Int32) : narrow .boolean (.int x) = .int (vp_nar .boolean x) := rfl
theorem tb_bast (C : tb_Cx p l R s m args meth c D b sz d y call) {i v : Int32} {j : Nat} (hH : tb_Hp D b sz M s H) (ht : M.1[o]? = some t) (hk : t.1 = 51 ∨ t.1 = 52) (hj : tb_ix i (t.2.headD 0) = some j) (hd : decode y.2.2.1 pc = .ok (.bastore, 1))
    (kk : ∀ (H1 : Heap), tb_Hp D b sz (M.1, tb_up M.2 o j (vp_nar (if t.1 = 51 then .boolean else .byte) v)) s H1 → (∀ q, q < sz → H1[q]? = H[q]?) → W p l e R s m args below meth c H1 (locs ++ [⟨tb_ad b sz o, j⟩]) cells slots Q (F0 m (pc + 1) arr st)) : W p l e R s m args below meth c H locs cells slots Q (F0 m pc arr (.int v :: .int i :: .ref (tb_ad b sz o) :: st)) := by
  obtain ⟨g1, rfl⟩ := tb_ix_some hj
  rcases hk with hk | hk
  · obtain ⟨⟨cA, hA, hc⟩, h0⟩ := tb_arr (ty := .boolean) hH ht (Or.inr (Or.inl ⟨hk, rfl⟩)) rfl
    rw [if_pos hk] at kk
    refine W.zast C.1 C.2.1 hc (hA _ (fun j => .int (M.2 o j))) (fun q => by cases q) (tb_inx g1) rfl rfl hd fun H1 e1 e2 e3 => ?_
    refine kk H1 (tb_atU (n := 0) hH ht e2 e3 ?_ (fun j hj => by unfold tb_up; rw [if_neg hj])) (fun q hq => e3 q (fun z => by have := tb_ad_ge (b := b) (sz := sz) h0; have z' : q = tb_ad b sz o := z; omega))
    unfold tb_at
    rw [if_neg (by omega), if_pos hk]
    refine ⟨cA, hA, e1.trans ?_⟩
    rw [tb_nar_z, tb_upc, show tb_up M.2 o i.toNatClampNeg (vp_nar .boolean v) o = upd (M.2 o) i.toNatClampNeg (vp_nar .boolean v) from if_pos rfl]
  · obtain ⟨⟨cA, hA, hc⟩, h0⟩ := tb_arr (ty := .byte) hH ht (Or.inr (Or.inr ⟨hk, rfl⟩)) rfl
    rw [if_neg (by omega)] at kk
    refine W.bast C.1 C.2.1 hc (hA _ (fun j => .int (M.2 o j))) (fun q => by cases q) (tb_inx g1) rfl rfl hd fun H1 e1 e2 e3 => ?_
    refine kk H1 (tb_atU (n := 0) hH ht e2 e3 ?_ (fun j hj => by unfold tb_up; rw [if_neg hj])) (fun q hq => e3 q (fun z => by have := tb_ad_ge (b := b) (sz := sz) h0; have z' : q = tb_ad b sz o := z; omega))
    unfold tb_at
    rw [if_neg (by omega), if_neg (by omega), if_pos hk]
    refine ⟨cA, hA, e1.trans ?_⟩
    rw [tb_nar_b, tb_upc, show tb_up M.2 o i.toNatClampNeg (vp_nar .byte v) o = upd (M.2 o) i.toNatClampNeg (vp_nar .byte v) from if_pos rfl]
theorem tb_alen (C : tb_Cx p l R s m args meth c D b sz d y call) (hH : tb_Hp D b sz M s H) (ht : M.1[o]? = some t) (hk : t.1 = 54) (hi : Int32.ofNat (M.2 o 2560).toNatClampNeg = M.2 o 2560) (hd : decode y.2.2.1 pc = .ok (.arraylength, 1))
    (kk : W p l e R s m args below meth c H locs cells slots Q (F0 m (pc + 1) arr (.int (M.2 o 2560) :: st))) : W p l e R s m args below meth c H locs cells slots Q (F0 m pc arr (.ref (tb_ad b sz o) :: st)) := by
  have h1 := (hH.2.2.2 o t ht).1
  unfold tb_at at h1
  rw [if_neg (by omega), if_neg (by omega), if_neg (by omega), if_neg (by omega), if_pos hk] at h1
  obtain ⟨scr, e1, e2, e3, e4, e5⟩ := h1
  exact W.alen C.1 C.2.1 e1 e2 (by rw [e4]; exact hi) rfl rfl hd kk
theorem tb_new (C : tb_Cx p l R s m args meth c D b sz d y call) {k ci w1 w2 w3 : Nat} (h : tb_look tb_nT y.1 k = some (ci, w1, w2, w3)) (hH : tb_Hp D b sz M s H) (hc1 : cells + 1 ≤ R.cells) (hs1 : slots + (tb_vc ci).2.2 ≤ R.slots) (hd : decode y.2.2.1 pc = .ok (.new k, 3))
    (kk : ∀ (H1 : Heap), tb_Hp D b sz (M.1 ++ [(ci, List.replicate (tb_vc ci).2.2 0)], tb_zr M.2 M.1.length) s H1 → (∀ q, q < sz → H1[q]? = H[q]?) → W p l e R s m args below meth c H1 locs (cells + 1) (slots + (tb_vc ci).2.2) Q (F0 m (pc + 3) arr (tb_cv b sz (.ref M.1.length) :: st))) : W p l e R s m args below meth c H locs cells slots Q (F0 m pc arr st) := by
  obtain ⟨h1, h2, h3, h9⟩ := tb_nok _ (tb_look_in h)
  have h9 : ci < 9 := h9
  obtain ⟨hx, hb, -, hown, hts, hK, -⟩ := C
  have hcl := (tb_vcl ci h9).1
  have hnm := (tb_vcl ci h9).2
  have hKn := hK.1 ci _ hcl
  have hin : ∀ w ∈ u_ws (tb_vc ci).1 (tb_vc ci).2.1 (tb_vc ci).2.2, w ∈ tb_gt := fun w hw => tb_gt_in (tb_uws ci h9 w hw).1 (tb_uws ci h9 w hw).2
  have w1' := hts _ (tb_gt_in (tb_tw_in h1) rfl)
  have w2' := hts _ (tb_gt_in (tb_tw_in h2) rfl)
  have w3' := hts _ (tb_gt_in (tb_tw_in h3) rfl)
  dsimp only at w1' w2' w3'
  refine W.newcK hx hb hown w1' w2' w3' rfl hd hc1 hs1 (by rw [← hnm]; exact hKn.2.1) rfl fun H1 kC hkC e1 z1 o1 => ?_
  have hsz : H.size = tb_ad b sz M.1.length := tb_ad_len hH
  have hpos := hH.2.1
  have hge : sz ≤ H.size := by have := hH.2.2.1; omega
  have hkk := kk H1 (tb_Hp.push hH z1 o1 ?_ (by show ci ≠ 54; omega) (fun j hj => by unfold tb_zr; rw [if_neg hj])) (fun q hq => o1 q (Nat.lt_of_lt_of_le hq hge))
  · show W p l e R s m args below meth c H1 locs _ _ Q (F0 m (pc + 3) arr (.ref H.size :: st))
    rw [hsz]
    exact hkk
  · unfold tb_at
    show (if ci = 50 then _ else _)
    rw [if_neg (by omega), if_neg (by omega), if_neg (by omega), if_neg (by omega), if_neg (by omega)]
    refine ⟨⟨tb_vc ci, hcl, ?_⟩, h9, by simp⟩
    show t_OB (tb_ad b sz M.1.length) (D.1 ci) _ (D.2 ci) H1 (vp_V (tb_fs ci (List.replicate (tb_vc ci).2.2 0) b sz (tb_zr M.2 M.1.length M.1.length)))
    rw [← hsz]
    refine (u_born (tb_ty ci) hts hin hKn hkC e1 (tb_tyok ci h9)).to (fun j hj => ?_)
    have hkd := tb_kdok ci h9 j hj
    have hfs := tb_fs_at (b := b) (sz := sz) (ci := ci) (f := j) (rs := List.replicate (tb_vc ci).2.2 0) (G := tb_zr M.2 M.1.length M.1.length) (by simpa using hj)
    show defaultValue (tb_ty ci j) = (tb_fs ci (List.replicate (tb_vc ci).2.2 0) b sz (tb_zr M.2 M.1.length M.1.length)).getD j .null
    rw [List.getD_eq_getElem?_getD, hfs]
    have hz : tb_zr M.2 M.1.length M.1.length j = 0 := by unfold tb_zr; rw [if_pos rfl]
    rw [hz]
    have h3 := hkd.2.2.2.2
    by_cases k2 : tb_kd ci j = 2
    · have h7 := (hkd.2.2.2.1 k2).1
      rw [if_pos k2]
      simp [hj, tb_rv, tb_cv]
      cases hT : tb_ty ci j <;> rw [hT] at h7 <;> first | rfl | cases h7
    · rw [if_neg k2]
      by_cases k1 : tb_kd ci j = 1
      · rw [(hkd.2.2.1 k1).1]; rfl
      · rw [(hkd.2.1 (by omega)).1]; rfl
theorem tb_newa (C : tb_Cx p l R s m args meth c D b sz d y call) {at' : ArrayType} {v : Int32} {kd : Nat} (hk : tb_kind at' = some kd) (hH : tb_Hp D b sz M s H) (hv0 : 0 ≤ v) (hv1 : v ≤ 10000) (hc1 : cells + 1 ≤ R.cells) (hs1 : slots + v.toNatClampNeg ≤ R.slots) (hd : decode y.2.2.1 pc = .ok (.newarray at', 2))
    (kk : ∀ (H1 : Heap), tb_Hp D b sz (M.1 ++ [(kd, [v.toNatClampNeg])], tb_zr M.2 M.1.length) s H1 → (∀ q, q < sz → H1[q]? = H[q]?) → W p l e R s m args below meth c H1 locs (cells + 1) (slots + v.toNatClampNeg) Q (F0 m (pc + 2) arr (tb_cv b sz (.ref M.1.length) :: st))) : W p l e R s m args below meth c H locs cells slots Q (F0 m pc arr (.int v :: st)) := by
  obtain ⟨hx, hb, -, hown, hts, hK, -⟩ := C
  have hsz : H.size = tb_ad b sz M.1.length := tb_ad_len hH
  have hpos := hH.2.1
  have hge : sz ≤ H.size := by have := hH.2.2.1; omega
  have hnn : ¬ v < 0 := by
    rw [Int32.lt_iff_toInt_lt]
    rw [Int32.le_iff_toInt_le] at hv0
    omega
  have hle : v.toNatClampNeg ≤ 10000 := by
    rw [Int32.le_iff_toInt_le] at hv1
    have h2 : (10000 : Int32).toInt = 10000 := by decide +kernel
    rw [h2] at hv1
    show v.toInt.toNat ≤ 10000
    omega
  have hcb : v.toNatClampNeg * componentBytes (newarray.typeOf at') ≤ 536870912 := by
    have : componentBytes (newarray.typeOf at') ≤ 8 := by cases at' <;> decide
    have h3 := Nat.mul_le_mul hle this
    omega
  have hac : (Cond.arrayClass (newarray.typeOf at')).before args s = true := by
    cases at' <;> first | (cases hk; done) | exact hts _ (tb_gt_in tb_ac.1 rfl) | exact hts _ (tb_gt_in tb_ac.2.1 rfl) | exact hts _ (tb_gt_in tb_ac.2.2.1 rfl)
  refine va_newaK hx hb hac rfl hd rfl hnn rfl hcb hc1 hs1 rfl fun H1 cA e1 z1 o1 hAr hNm => ?_
  have hkk := kk H1 (tb_Hp.push hH z1 o1 ?_ ?_ (fun j hj => by unfold tb_zr; rw [if_neg hj])) (fun q hq => o1 q (Nat.lt_of_lt_of_le hq hge))
  · show W p l e R s m args below meth c H1 locs _ _ Q (F0 m (pc + 2) arr (.ref H.size :: st))
    rw [hsz]
    exact hkk
  · rw [hsz] at e1
    have hz : tb_zr M.2 M.1.length M.1.length = fun _ => 0 := by unfold tb_zr; rw [if_pos rfl]
    rw [hz]
    unfold tb_at
    show (if kd = 50 then _ else _)
    cases at' <;> first | (cases hk; done) | (cases hk; first | exact ⟨cA, hAr, e1⟩)
  · show kd ≠ 54
    cases at' <;> first | (cases hk; done) | (cases hk; decide)
end Step
