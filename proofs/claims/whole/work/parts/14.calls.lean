/-! Part 14: calls, returns, every step, every run, every method -/
section Step
variable {p : Program} {l : Launch} {e : Env} {R : Room} {s : State} {m : MethodId} {args : Array Value} {below : List Frame} {meth : Method} {c : Code} {Q : State → Prop} {D : va_G} {b sz c0 s0 d : Nat} {y : tb_MD} {call : tb_MD → List Value → tb_MM → Option tb_XR}
variable {M : tb_MM} {H : Heap} {locs : List Loc} {cells slots o pc : Nat} {t : Nat × List Nat} {arr : Array Slot} {st : List Value}
/-- the one making of an array of arrays -/
def tb_Mul : Prop := ∀ (p : Program) (l : Launch) (e : Env) (R : Room) (s : State) (m : MethodId) (args : Array Value) (below : List Frame) (meth : Method) (c : Code) (Q : State → Prop) (D : va_G) (b sz d : Nat) (y : tb_MD) (call : tb_MD → List Value → tb_MM → Option tb_XR), tb_Cx p l R s m args meth c D b sz d y call →
  ∀ (M : tb_MM) (H : Heap) (locs : List Loc) (cells slots pc : Nat) (arr : Array Slot) (st : List Value), y.1 = 3 → tb_Hp D b sz M s H → cells + 5 ≤ R.cells → slots + 284 ≤ R.slots → decode y.2.2.1 pc = .ok (.multianewarray 9 2, 4) →
  (∀ H1 : Heap, tb_Hp D b sz (M.1 ++ [(53, [M.1.length + 2, M.1.length + 3, M.1.length + 4, M.1.length + 5]), (50, [70]), (50, [70]), (50, [70]), (50, [70])], tb_zr (tb_zr (tb_zr (tb_zr (tb_zr M.2 M.1.length) (M.1.length + 1)) (M.1.length + 2)) (M.1.length + 3)) (M.1.length + 4)) s H1 → (∀ q, q < sz → H1[q]? = H[q]?) →
    W p l e R s m args below meth c H1 locs (cells + 5) (slots + 284) Q (F0 m (pc + 4) arr (tb_cv b sz (.ref M.1.length) :: st))) → W p l e R s m args below meth c H locs cells slots Q (F0 m pc arr (.int 70 :: .int 4 :: st))
theorem tb_map_cat (st : List Value) : ((st.map (tb_cv b sz)).map fun v => v.category).sum = (st.map tb_cat).sum := by
  rw [List.map_map]
  congr 1
  apply List.map_congr_left
  intro v _
  exact tb_cv_cat b sz v
theorem tb_map_int (v : Int32) : tb_cv b sz (.int v) = .int v := rfl
/-- behind a call -/
theorem tb_back {r : tb_XR} {mc ms : Nat} {a : Array Value} {stT rest : List Value} (hH0 : ∀ q, q < sz → H[q]? = s.heap[q]?) (hl : ∀ q ∈ locs, sz ≤ q.base)
    (hr : va_Run p l e R s m args below meth c H locs cells slots mc ms (F0 m pc arr stT) (rest.map (tb_cv b sz)) (tb_Qc D b sz r a) (fun q => sz ≤ q))
    (kk : ∀ (H1 : Heap) (locs1 : List Loc), tb_Hp D b sz r.2 s H1 → (∀ q ∈ locs1, sz ≤ q.base) → (∀ q, q < sz → H1[q]? = s.heap[q]?) → W p l e R s m args below meth c H1 locs1 (cells + mc) (slots + ms) Q (F0 m (pc + 3) arr ((r.1.toList ++ rest).map (tb_cv b sz)))) : W p l e R s m args below meth c H locs cells slots Q (F0 m pc arr stT) := by
  intro T hT X
  obtain ⟨v, st₀, t, T', L, h0, X', hL, e1, e2, ⟨ho, hHp, hfr⟩, hst⟩ := hr T hT X
  have hv : v = r.1.map (tb_cv b sz) := Outcome.returned.inj ho
  subst hv
  have hal : s.vm.Alike t.vm := by rw [← e2]; exact X'.warmed.alike
  obtain ⟨t2, a1, b1⟩ := kk T'.heap (locs ++ L) (by rw [e1]; exact hHp.moved hal.symm) (fun q hq => by
    rcases List.mem_append.mp hq with h | h
    · exact hl q h
    · exact hL q h) (fun q hq => by rw [e1, hfr q hq, h0]; exact hH0 q hq) T' rfl X'
  refine ⟨t2, hst t2 ?_, b1⟩
  have hst2 : (r.1.map (tb_cv b sz)).toList ++ rest.map (tb_cv b sz) = (r.1.toList ++ rest).map (tb_cv b sz) := by
    rw [List.map_append]
    cases r.1 <;> rfl
  show Steps p.tables e below (T'.setTop { (F0 m pc arr stT) with pc := pc + 3, stack := (r.1.map (tb_cv b sz)).toList ++ rest.map (tb_cv b sz) }) t2
  rw [hst2]
  exact a1
theorem tb_gin : GoodIn tb_gt (tb_ws y) ↔ Cond.code y.2.1 y.2.2.1 y.2.2.2.1 y.2.2.2.2.1 ∈ tb_gt := by
  constructor
  · intro h; exact (h _ List.mem_cons_self).1
  · intro h w hw
    rcases List.mem_cons.mp hw with rfl | hw
    · exact ⟨h, good_of_word (tb_gt_good h)⟩
    · exact ⟨hw, good_of_word (tb_gt_good hw)⟩
/-- what the table says of a call -/
theorem tb_mrow (C : tb_Cx p l R s m args meth c D b sz d y call) {k kd : Nat} {z : tb_MD} {ps : List Nat} (h : tb_look tb_mT y.1 k = some ((kd, z), ps)) :
    (if kd = 2 ∨ kd = 4 then va_Nw (.methodLinkNest (tb_cn y.1) k z.2.1 RX7) s else (Cond.methodLink (tb_cn y.1) k z.2.1).before args s = true) ∧ (if kd = 1 ∨ kd = 2 then (Cond.static z.2.1).before args s = true else (Cond.instanceMethod z.2.1).before args s = true) ∧ (kd = 0 → (Cond.selects z.2.1.cls z.2.1 z.2.1).before args s = true) ∧
    (Cond.initialized z.2.1.cls).before args s = true ∧ Cond.code z.2.1 z.2.2.1 z.2.2.2.1 z.2.2.2.2.1 ∈ tb_gt ∧ z.2.1.cls = tb_cn z.1 ∧ z.1 < 9 ∧ (z.2.1.cls ≠ "java/lang/invoke/MethodHandle" ∧ z.2.1.cls ≠ "java/lang/invoke/VarHandle" ∧ (parseMethodDescriptor z.2.1.desc).map (fun d => d.parameters.length) = some z.2.2.2.2.2) ∧ plainName z.2.1.cls = true ∧ z.2.2.2.1 ≤ 21 ∧ ((kd = 3 ∨ kd = 4) → z.2.1.name = "<init>" ∧ z.2.2.2.2.1 = none) := by
  have h1 := tb_mok _ (tb_look_in h)
  have hts := C.2.2.2.2.1
  unfold tb_mokB at h1
  simp only [Bool.and_eq_true, Bool.or_eq_true, decide_eq_true_eq] at h1
  obtain ⟨⟨⟨⟨⟨⟨⟨⟨⟨⟨⟨⟨a1, a2⟩, a3⟩, a4⟩, a5⟩, a6⟩, a7⟩, a8⟩, a9⟩, a10⟩, a11⟩, a12⟩, a13⟩ := h1
  refine ⟨?_, ?_, ?_, hts _ (tb_gt_in (tb_tw_in a4) rfl), tb_gt_in (tb_tw_in a5) rfl, a6, a9, a10, a11, a12, a13⟩
  · split
    · rename_i q; exact C.2.2.2.2.2.2.2.2.2.1 _ (tb_look_in h) q
    · rename_i q; rw [if_neg q] at a1; exact hts _ (tb_gt_in (tb_tw_in a1) rfl)
  · split
    · rename_i q; rw [if_pos q] at a2; exact hts _ (tb_gt_in (tb_tw_in a2) rfl)
    · rename_i q; rw [if_neg q] at a2; exact hts _ (tb_gt_in (tb_tw_in a2) rfl)
  · intro q
    rcases a3 with a3 | a3
    · exact hts _ (tb_gt_in (tb_tw_in a3) rfl)
    · exact absurd q a3
/-- a call of any kind: the run -/
theorem tb_callV (C : tb_Cx p l R s m args meth c D b sz d y call) {k : Nat} {z : tb_MD} {ps : List Nat} {as rest : List Value} {r : tb_XR} (h : tb_look tb_mT y.1 k = some ((0, z), ps)) (hH : tb_Hp D b sz M s H) (ht : M.1[o]? = some t) (hc : t.1 = z.1) (hrun : call z (.ref o :: as) M = some r) (hn : as.length = z.2.2.2.2.2) (hcat : (rest.map tb_cat).sum ≤ 8) (hL : arr.size = y.2.2.2.1)
    (hf : cells + (tb_cl r.2 - tb_cl M) ≤ R.cells ∧ slots + (tb_sl r.2 - tb_sl M) ≤ R.slots) (hd : decode y.2.2.1 pc = .ok (.invokevirtual k, 3)) :
    va_Run p l e R s m args below meth c H locs cells slots (tb_cl r.2 - tb_cl M) (tb_sl r.2 - tb_sl M) (F0 m pc arr ((as.map (tb_cv b sz)).reverse ++ .ref (tb_ad b sz o) :: rest.map (tb_cv b sz))) (rest.map (tb_cv b sz)) (tb_Qc D b sz r (Value.ref (tb_ad b sz o) :: as.map (tb_cv b sz)).toArray) (fun q => sz ≤ q) := by
  obtain ⟨a1, a2, a3, a4, a5, a6, a7, a8, a9, a10, -⟩ := tb_mrow C h
  obtain ⟨hx, hb, hml, hown, hts, hK, -, hR, hC, hNL⟩ := C
  have hM := hC z (.ref o :: as) M r a6 a9 hrun
  rw [if_neg (by omega)] at a1 a2
  obtain ⟨g1, g2, g3⟩ := tb_obj hH ht hc a7
  have hrc := va_recv hK (tb_atP g1) (tb_vcl z.1 a7).1 (ci := z.1) (q0 := 0) rfl
  rw [(tb_vcl z.1 a7).2, ← a6] at hrc
  refine va_runV (As := as.map (tb_cv b sz)) (rest := rest.map (tb_cv b sz)) ⟨hx, hb, hml, hown, hts⟩ hM ⟨callB_of z.2.2.2.2.2 hts (tb_gin.mpr a5) rfl rfl rfl a4 a1 a8 ⟨hR.1, by show 8 + (z.2.2.2.1 + 11) + 40 * d ≤ _; have := hR.2; omega⟩, a2, a3 rfl⟩
    ⟨tb_blind D b sz _ M, hrc, fun U hU hW => ⟨rfl, by rw [hU]; exact hH.moved hW.alike, va_K.moved hW.alike hK, hNL.warm hW⟩⟩ rfl (by rw [List.length_map]; exact hn) hL rfl (lv_room (by rw [tb_map_cat]; exact hcat)) hd hf
theorem tb_callS (C : tb_Cx p l R s m args meth c D b sz d y call) {k kd : Nat} {z : tb_MD} {ps : List Nat} {as rest : List Value} {r : tb_XR} (h : tb_look tb_mT y.1 k = some ((kd, z), ps)) (hkd : kd = 1 ∨ kd = 2) (hH : tb_Hp D b sz M s H) (hrun : call z as M = some r) (hn : as.length = z.2.2.2.2.2) (hcat : (rest.map tb_cat).sum ≤ 8) (hL : arr.size = y.2.2.2.1)
    (hf : cells + (tb_cl r.2 - tb_cl M) ≤ R.cells ∧ slots + (tb_sl r.2 - tb_sl M) ≤ R.slots) (hd : decode y.2.2.1 pc = .ok (.invokestatic k, 3)) :
    va_Run p l e R s m args below meth c H locs cells slots (tb_cl r.2 - tb_cl M) (tb_sl r.2 - tb_sl M) (F0 m pc arr ((as.map (tb_cv b sz)).reverse ++ rest.map (tb_cv b sz))) (rest.map (tb_cv b sz)) (tb_Qc D b sz r (as.map (tb_cv b sz)).toArray) (fun q => sz ≤ q) := by
  obtain ⟨a1, a2, a3, a4, a5, a6, a7, a8, a9, a10, -⟩ := tb_mrow C h
  obtain ⟨hx, hb, hml, hown, hts, hK, -, hR, hC, hNL⟩ := C
  have hM := hC z as M r a6 a9 hrun
  rw [if_pos hkd] at a2
  rcases hkd with rfl | rfl
  · rw [if_neg (by omega)] at a1
    exact va_runS (As := as.map (tb_cv b sz)) (rest := rest.map (tb_cv b sz)) ⟨hx, hb, hml, hown, hts⟩ hM ⟨callB_of z.2.2.2.2.2 hts (tb_gin.mpr a5) rfl rfl rfl a4 a1 a8 ⟨hR.1, by show 8 + (z.2.2.2.1 + 11) + 40 * d ≤ _; have := hR.2; omega⟩, a2⟩
      ⟨tb_blind D b sz _ M, fun U hU hW => ⟨rfl, by rw [hU]; exact hH.moved hW.alike, va_K.moved hW.alike hK, hNL.warm hW⟩⟩ rfl (by rw [List.length_map]; exact hn) hL rfl (lv_room (by rw [tb_map_cat]; exact hcat)) hd hf
  · rw [if_pos (Or.inl rfl)] at a1
    exact va_runSN (As := as.map (tb_cv b sz)) (rest := rest.map (tb_cv b sz)) ⟨hx, hb, hml, hown, hts⟩ hM ⟨va_cnB z.2.2.2.2.2 hts (tb_gin.mpr a5) rfl rfl rfl a1 a4 a8 ⟨hR.1, by show 8 + (z.2.2.2.1 + 11) + 40 * d ≤ _; have := hR.2; omega⟩, a2, trivial⟩
      ⟨tb_blind D b sz _ M, fun U hU hW => ⟨rfl, by rw [hU]; exact hH.moved hW.alike, va_K.moved hW.alike hK, hNL.warm hW⟩⟩ rfl (by rw [List.length_map]; exact hn) hL rfl (lv_room (by rw [tb_map_cat]; exact hcat)) hd hf
theorem tb_callI (C : tb_Cx p l R s m args meth c D b sz d y call) {k kd : Nat} {z : tb_MD} {ps : List Nat} {as rest : List Value} {r : tb_XR} (h : tb_look tb_mT y.1 k = some ((kd, z), ps)) (hkd : kd = 3 ∨ kd = 4) (hH : tb_Hp D b sz M s H) (hrun : call z (.ref o :: as) M = some r) (hn : as.length = z.2.2.2.2.2) (hcat : (rest.map tb_cat).sum ≤ 8) (hL : arr.size = y.2.2.2.1)
    (hf : cells + (tb_cl r.2 - tb_cl M) ≤ R.cells ∧ slots + (tb_sl r.2 - tb_sl M) ≤ R.slots) (hd : decode y.2.2.1 pc = .ok (.invokespecial k, 3)) :
    va_Run p l e R s m args below meth c H locs cells slots (tb_cl r.2 - tb_cl M) (tb_sl r.2 - tb_sl M) (F0 m pc arr ((as.map (tb_cv b sz)).reverse ++ .ref (tb_ad b sz o) :: rest.map (tb_cv b sz))) (rest.map (tb_cv b sz)) (tb_Qc D b sz r (Value.ref (tb_ad b sz o) :: as.map (tb_cv b sz)).toArray) (fun q => sz ≤ q) := by
  obtain ⟨a1, a2, a3, a4, a5, a6, a7, a8, a9, a10, a11⟩ := tb_mrow C h
  obtain ⟨hx, hb, hml, hown, hts, hK, -, hR, hC, hNL⟩ := C
  have hM := hC z (.ref o :: as) M r a6 a9 hrun
  rw [if_neg (by omega)] at a2
  obtain ⟨hnm, hret⟩ := a11 hkd
  rw [hret] at a5
  have hgi : GoodIn tb_gt (tb_ws z) := tb_gin.mpr (by rw [hret]; exact a5)
  have hws : tb_ws z = Cond.code z.2.1 z.2.2.1 z.2.2.2.1 none :: tb_gt := by unfold tb_ws; rw [hret]
  rcases hkd with rfl | rfl
  · rw [if_neg (by omega)] at a1
    exact va_runI (As := as.map (tb_cv b sz)) (rest := rest.map (tb_cv b sz)) ⟨hx, hb, hml, hown, hts⟩ hM ⟨callB_of z.2.2.2.2.2 hts hgi hws rfl rfl a4 a1 a8 ⟨hR.1, by show 8 + (z.2.2.2.1 + 11) + 40 * d ≤ _; have := hR.2; omega⟩, hnm, a2⟩
      ⟨tb_blind D b sz _ M, fun U hU hW => ⟨rfl, by rw [hU]; exact hH.moved hW.alike, va_K.moved hW.alike hK, hNL.warm hW⟩⟩ rfl (by rw [List.length_map]; exact hn) hL rfl (lv_room (by rw [tb_map_cat]; exact hcat)) hd hf
  · rw [if_pos (Or.inr rfl)] at a1
    exact va_runIN (As := as.map (tb_cv b sz)) (rest := rest.map (tb_cv b sz)) ⟨hx, hb, hml, hown, hts⟩ hM ⟨va_cnB z.2.2.2.2.2 hts hgi hws rfl rfl a1 a4 a8 ⟨hR.1, by show 8 + (z.2.2.2.1 + 11) + 40 * d ≤ _; have := hR.2; omega⟩, hnm, a2⟩
      ⟨tb_blind D b sz _ M, fun U hU hW => ⟨rfl, by rw [hU]; exact hH.moved hW.alike, va_K.moved hW.alike hK, hNL.warm hW⟩⟩ rfl (by rw [List.length_map]; exact hn) hL rfl (lv_room (by rw [tb_map_cat]; exact hcat)) hd hf
end Step
