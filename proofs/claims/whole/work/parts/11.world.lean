/-! Part 11: the abstract machine's memory in the heap. Place 0 is the script, at b, below sz; place k + 1 is at sz + k. -/
def tb_ad (b sz : Nat) : Nat → Nat
  | 0 => b
  | k + 1 => sz + k
def tb_cv (b sz : Nat) : Value → Value
  | .ref k => .ref (tb_ad b sz k)
  | v => v
theorem tb_cv_cat (b sz : Nat) (v : Value) : (tb_cv b sz v).category = tb_cat v := by cases v <;> rfl
def tb_ro (b sz : Nat) : Nat → Option Nat
  | 0 => none
  | k + 1 => some (tb_ad b sz k)
theorem tb_ro_rv (b sz r : Nat) : va_rf (tb_ro b sz r) = tb_cv b sz (tb_rv r) := by cases r <;> rfl
/-- the locals -/
def tb_asc (b sz : Nat) (ls : List Value) : List (Nat × Value) := (List.range ls.length).filterMap fun j => (ls[j]?).bind fun v => if tb_isJ v = true then none else some (j, tb_cv b sz v)
def tb_LR (b sz nL : Nat) (ls : List Value) (arr : Array Slot) : Prop := ls.length = nL ∧ lv_has arr nL (tb_asc b sz ls) ∧ ∀ v ∈ ls, tb_cat v = 1
theorem tb_asc_mem {b sz : Nat} {ls : List Value} {j : Nat} {w : Value} : (j, w) ∈ tb_asc b sz ls ↔ ∃ v, ls[j]? = some v ∧ tb_isJ v = false ∧ w = tb_cv b sz v := by
  unfold tb_asc
  rw [List.mem_filterMap]
  constructor
  · rintro ⟨i, -, hi⟩
    rw [Option.bind_eq_some_iff] at hi
    obtain ⟨v, h1, h2⟩ := hi
    cases hj : tb_isJ v with
    | true => rw [hj, if_pos rfl] at h2; cases h2
    | false =>
      rw [hj, if_neg (by decide)] at h2
      cases h2
      exact ⟨v, h1, hj, rfl⟩
  · rintro ⟨v, h1, h2, rfl⟩
    refine ⟨j, List.mem_range.mpr (List.getElem?_eq_some_iff.mp h1).1, ?_⟩
    rw [h1]
    show (if tb_isJ v = true then none else some (j, tb_cv b sz v)) = _
    rw [h2, if_neg (by decide)]
theorem tb_LR.get {b sz nL : Nat} {ls : List Value} {arr : Array Slot} (h : tb_LR b sz nL ls arr) {i : Nat} {v : Value} (hv : ls[i]? = some v) (hj : tb_isJ v = false) : arr[i]? = some (.val (tb_cv b sz v)) := h.2.1.2.2 (i, tb_cv b sz v) (tb_asc_mem.mpr ⟨v, hv, hj, rfl⟩)
theorem tb_LR.at {b sz nL : Nat} {ls : List Value} {arr : Array Slot} (_ : tb_LR b sz nL ls arr) {i : Nat} {v : Value} (hv : ls[i]? = some v) (hj : tb_isJ v = false) : ∃ k : Nat, (tb_asc b sz ls)[k]? = some (i, tb_cv b sz v) := by
  obtain ⟨k, hk⟩ := List.getElem?_of_mem (tb_asc_mem.mpr ⟨v, hv, hj, rfl⟩)
  exact ⟨k, hk⟩
theorem tb_LR.put {b sz nL : Nat} {ls : List Value} {arr arr' : Array Slot} (h : tb_LR b sz nL ls arr) {i : Nat} {v : Value} (hc : tb_cat v = 1) (h' : lv_has arr' nL ((i, tb_cv b sz v) :: (tb_asc b sz ls).filter (fun q => !(q.1 == i) && !(q.1 + 1 == i && q.2.category == 2)))) : tb_LR b sz nL (ls.set i v) arr' := by
  refine ⟨by rw [List.length_set]; exact h.1, ⟨h'.1, h'.2.1, fun q hq => h'.2.2 q ?_⟩, fun w hw => ?_⟩
  · obtain ⟨j, w⟩ := q
    obtain ⟨u, h1, h2, rfl⟩ := tb_asc_mem.mp hq
    by_cases hji : i = j
    · subst hji
      rw [List.getElem?_set_self' ] at h1
      cases hl : ls[i]? with
      | none => rw [hl] at h1; cases h1
      | some u' =>
        rw [hl] at h1
        cases h1
        exact List.mem_cons_self
    · rw [List.getElem?_set_ne hji] at h1
      refine List.mem_cons_of_mem _ (List.mem_filter.mpr ⟨tb_asc_mem.mpr ⟨u, h1, h2, rfl⟩, ?_⟩)
      have hcu : tb_cat u = 1 := h.2.2 u (List.mem_of_getElem? h1)
      have hne : ¬ j = i := fun q => hji q.symm
      simp [tb_cv_cat, hcu, hne]
  · rcases List.mem_or_eq_of_mem_set hw with hw | rfl
    · exact h.2.2 w hw
    · exact hc
/-- an object's fields -/
def tb_fs (c : Nat) (rs : List Nat) (b sz : Nat) (G : Nat → Int32) : List Value := (List.range rs.length).map fun j => if tb_kd c j = 2 then tb_cv b sz (tb_rv (rs.getD j 0)) else .int (G j)
def tb_at (D : va_G) (U : State) (b sz k : Nat) (t : Nat × List Nat) (G : Nat → Int32) (H : Heap) : Prop :=
  if t.1 = 50 then ∃ cA, ArrOfT U cA .int ∧ H[tb_ad b sz k]? = some (vp_cell cA (t.2.headD 0, .inl G))
  else if t.1 = 51 then ∃ cA, ArrOfT U cA .boolean ∧ H[tb_ad b sz k]? = some (vp_cell cA (t.2.headD 0, .inl G))
  else if t.1 = 52 then ∃ cA, ArrOfT U cA .byte ∧ H[tb_ad b sz k]? = some (vp_cell cA (t.2.headD 0, .inl G))
  else if t.1 = 53 then ∃ cA, ArrOfT U cA (.array .int) ∧ H[tb_ad b sz k]? = some (vp_cell cA (t.2.length, .inr (.inr (.inr (.inr (fun j => tb_ro b sz (t.2.getD j 0)))))))
  else if t.1 = 54 then va_X (tb_ad b sz k) (G 2560).toNatClampNeg G U H
  else va_at D vwCl (tb_ad b sz k, .inr (t.1, tb_fs t.1 t.2 b sz G)) H ∧ t.1 < 9 ∧ t.2.length = (tb_vc t.1).2.2
def tb_Hp (D : va_G) (b sz : Nat) (M : tb_MM) (U : State) (H : Heap) : Prop := b < sz ∧ 0 < M.1.length ∧ H.size + 1 = sz + M.1.length ∧ ∀ (k : Nat) (t : Nat × List Nat), M.1[k]? = some t → tb_at D U b sz k t (M.2 k) H ∧ (k = 0 ↔ t.1 = 54)
theorem tb_at.moved {D : va_G} {u U : State} {b sz k : Nat} {t : Nat × List Nat} {G : Nat → Int32} {H : Heap} (hvm : u.vm.Alike U.vm) (h : tb_at D u b sz k t G H) : tb_at D U b sz k t G H := by
  unfold tb_at at h ⊢
  split
  · rename_i q; rw [if_pos q] at h; obtain ⟨cA, h1, h2⟩ := h; exact ⟨cA, arrOfT_moved hvm h1, h2⟩
  rename_i q; rw [if_neg q] at h
  split
  · rename_i q; rw [if_pos q] at h; obtain ⟨cA, h1, h2⟩ := h; exact ⟨cA, arrOfT_moved hvm h1, h2⟩
  rename_i q; rw [if_neg q] at h
  split
  · rename_i q; rw [if_pos q] at h; obtain ⟨cA, h1, h2⟩ := h; exact ⟨cA, arrOfT_moved hvm h1, h2⟩
  rename_i q; rw [if_neg q] at h
  split
  · rename_i q; rw [if_pos q] at h; obtain ⟨cA, h1, h2⟩ := h; exact ⟨cA, arrOfT_moved hvm h1, h2⟩
  rename_i q; rw [if_neg q] at h
  split
  · rename_i q; rw [if_pos q] at h; exact h.moved hvm
  rename_i q; rw [if_neg q] at h
  exact h
theorem tb_Hp.moved {D : va_G} {u U : State} {b sz : Nat} {M : tb_MM} {H : Heap} (hvm : u.vm.Alike U.vm) (h : tb_Hp D b sz M u H) : tb_Hp D b sz M U H := ⟨h.1, h.2.1, h.2.2.1, fun k t hk => ⟨(h.2.2.2 k t hk).1.moved hvm, (h.2.2.2 k t hk).2⟩⟩
theorem tb_at.kept {D : va_G} {U : State} {b sz k : Nat} {t : Nat × List Nat} {G : Nat → Int32} {H H1 : Heap} (h : tb_at D U b sz k t G H) (hq : H1[tb_ad b sz k]? = H[tb_ad b sz k]?) : tb_at D U b sz k t G H1 := by
  unfold tb_at at h ⊢
  rw [hq]
  split
  · rename_i q; rw [if_pos q] at h; exact h
  rename_i q; rw [if_neg q] at h
  split
  · rename_i q; rw [if_pos q] at h; exact h
  rename_i q; rw [if_neg q] at h
  split
  · rename_i q; rw [if_pos q] at h; exact h
  rename_i q; rw [if_neg q] at h
  split
  · rename_i q; rw [if_pos q] at h; exact h
  rename_i q; rw [if_neg q] at h
  split
  · rename_i q; rw [if_pos q] at h; exact h.kept hq
  rename_i q; rw [if_neg q] at h
  exact ⟨h.1.kept hq, h.2⟩
theorem tb_ad_ne {b sz k j : Nat} (hb : b < sz) (h : k ≠ j) : tb_ad b sz k ≠ tb_ad b sz j := by
  cases k <;> cases j <;> simp only [tb_ad] <;> omega
theorem tb_ad_ge {b sz k : Nat} (h : k ≠ 0) : sz ≤ tb_ad b sz k := by
  cases k with
  | zero => exact absurd rfl h
  | succ k => exact Nat.le_add_right _ _
theorem tb_ad_len {b sz : Nat} {M : tb_MM} {H : Heap} {D : va_G} {U : State} (h : tb_Hp D b sz M U H) : H.size = tb_ad b sz M.1.length := by
  obtain ⟨-, h1, h2, -⟩ := h
  cases hl : M.1.length with
  | zero => omega
  | succ k => rw [hl] at h2; simp only [tb_ad]; omega
theorem tb_ad_lt {b sz k : Nat} {M : tb_MM} {H : Heap} {D : va_G} {U : State} (h : tb_Hp D b sz M U H) (hk : k < M.1.length) : tb_ad b sz k < H.size := by
  obtain ⟨h0, h1, h2, -⟩ := h
  cases k with
  | zero => simp only [tb_ad]; omega
  | succ k => simp only [tb_ad]; omega
/-- a place written -/
theorem tb_Hp.set {D : va_G} {U : State} {b sz k : Nat} {M : tb_MM} {H H1 : Heap} {t t' : Nat × List Nat} {S' : tb_St} (h : tb_Hp D b sz M U H) (hk : M.1[k]? = some t) (hz : H1.size = H.size) (ho : ∀ q, q ≠ tb_ad b sz k → H1[q]? = H[q]?) (hn : tb_at D U b sz k t' (S' k) H1) (h5 : t'.1 = t.1) (hS : ∀ j, j ≠ k → S' j = M.2 j) : tb_Hp D b sz (M.1.set k t', S') U H1 := by
  obtain ⟨a1, a2, a3, a4⟩ := h
  refine ⟨a1, by simpa using a2, by simpa [hz] using a3, fun j u hj => ?_⟩
  have hj : (M.1.set k t')[j]? = some u := hj
  show tb_at D U b sz j u (S' j) H1 ∧ _
  by_cases e : k = j
  · subst e
    rw [List.getElem?_set_self', hk] at hj
    cases hj
    refine ⟨hn, ?_⟩
    show k = 0 ↔ t'.1 = 54
    rw [h5]
    exact (a4 k t hk).2
  · rw [List.getElem?_set_ne e] at hj
    rw [hS j (fun q => e q.symm)]
    exact ⟨(a4 j u hj).1.kept (ho _ (tb_ad_ne a1 (fun q => e q.symm))), (a4 j u hj).2⟩
theorem tb_set_self {α : Type} {l : List α} {k : Nat} {t : α} (h : l[k]? = some t) : l.set k t = l := by
  apply List.ext_getElem?
  intro j
  by_cases e : k = j
  · subst e
    rw [List.getElem?_set_self', h]
    rfl
  · rw [List.getElem?_set_ne e]
/-- a place that comes -/
theorem tb_Hp.push {D : va_G} {U : State} {b sz : Nat} {M : tb_MM} {H H1 : Heap} {t' : Nat × List Nat} {S' : tb_St} (h : tb_Hp D b sz M U H) (hz : H1.size = H.size + 1) (ho : ∀ q, q < H.size → H1[q]? = H[q]?) (hn : tb_at D U b sz M.1.length t' (S' M.1.length) H1) (h5 : t'.1 ≠ 54) (hS : ∀ j, j ≠ M.1.length → S' j = M.2 j) : tb_Hp D b sz (M.1 ++ [t'], S') U H1 := by
  have hh := h
  obtain ⟨a1, a2, a3, a4⟩ := h
  refine ⟨a1, by simp, by simp [hz]; omega, fun j u hj => ?_⟩
  have hj : (M.1 ++ [t'])[j]? = some u := hj
  show tb_at D U b sz j u (S' j) H1 ∧ _
  by_cases e : j < M.1.length
  · rw [List.getElem?_append_left e] at hj
    rw [hS j (by omega)]
    exact ⟨(a4 j u hj).1.kept (ho _ (tb_ad_lt hh e)), (a4 j u hj).2⟩
  · rw [List.getElem?_append_right (by omega)] at hj
    have h0 : j - M.1.length < 1 := (List.getElem?_eq_some_iff.mp hj).1
    have h1 : j = M.1.length := by omega
    rw [show j - M.1.length = 0 by omega] at hj
    cases hj
    subst h1
    exact ⟨hn, ⟨fun q => by omega, fun q => absurd q h5⟩⟩
/-- the words that no list of words may hold: links to nest mates, the class of int[][] -/
def tb_NL (U : State) : Prop := (∀ q ∈ tb_mT, (q.2.2.1.1 = 2 ∨ q.2.2.1.1 = 4) → va_Nw (.methodLinkNest (tb_cn q.1) q.2.1 q.2.2.1.2.2.1 RX7) U) ∧ va_Nw (.arrayOver (.array .int)) U
theorem tb_over {u U : State} (h : u.vm.Alike U.vm) (hZ : va_Nw (.arrayOver (.array .int)) u) : va_Nw (.arrayOver (.array .int)) U := by
  have e := Cond.arrayOver_setVmC (args := #[]) (s := u) (vm' := U.vm) h (.array .int)
  have e2 : (Cond.arrayOver (.array .int)).before #[] (u.setVm U.vm) = (Cond.arrayOver (.array .int)).before #[] U := by simp only [Cond.before, Cond.holds, Cond.value, State.vm_setVm]; rfl
  show (Cond.arrayOver (.array .int)).before #[] U = true
  rw [← e2, e]
  exact hZ
theorem tb_NL.same {u U : State} (h : u.vm = U.vm) (hZ : tb_NL u) : tb_NL U := ⟨fun q hq hk => va_Nw.same rfl h (hZ.1 q hq hk), tb_over (by rw [h]; exact Vm.Alike.refl _) hZ.2⟩
theorem tb_NL.warm {s U : State} (hW : s.WarmedH U.vm) (hZ : tb_NL s) : tb_NL U := ⟨fun q hq hk => va_Nw.warmM hW (hZ.1 q hq hk), tb_over hW.alike hZ.2⟩
/-- a method's start and end -/
def tb_Pc (D : va_G) (b sz : Nat) (as : List Value) (M : tb_MM) : Array Value → State → Prop := fun v U => v = (as.map (tb_cv b sz)).toArray ∧ tb_Hp D b sz M U U.heap ∧ va_K D vwCl [] U ∧ tb_NL U
def tb_Qc (D : va_G) (b sz : Nat) (r : tb_XR) : Array Value → State → Outcome → State → Prop := fun _ st o t => o = .returned (r.1.map (tb_cv b sz)) ∧ tb_Hp D b sz r.2 t t.heap ∧ ∀ q, q < sz → t.heap[q]? = st.heap[q]?
def tb_rm (d mc ms : Nat) : Room := { frames := d, cells := mc, slots := ms, locals := 40 * d }
def tb_ws (y : tb_MD) : List Cond := Cond.code y.2.1 y.2.2.1 y.2.2.2.1 y.2.2.2.2.1 :: tb_gt
/-- what a call may be taken to be -/
def tb_Cok (l : Launch) (D : va_G) (b sz d : Nat) (call : tb_MD → List Value → tb_MM → Option tb_XR) : Prop := ∀ (z : tb_MD) (as : List Value) (M : tb_MM) (r : tb_XR), z.2.1.cls = tb_cn z.1 → plainName z.2.1.cls = true → call z as M = some r →
  Met l z.2.1 (tb_ws z) (tb_rm d (tb_cl r.2 - tb_cl M) (tb_sl r.2 - tb_sl M)) (tb_Pc D b sz as M) (tb_Qc D b sz r) (tb_cl r.2 - tb_cl M) (tb_sl r.2 - tb_sl M) (fun q => sz ≤ q)
theorem tb_blind (D : va_G) (b sz : Nat) (as : List Value) (M : tb_MM) : FrameBlind (tb_Pc D b sz as M) := fun a U g mk h => ⟨h.1, h.2.1.moved (u := U) (U := U.calling g mk a) (Vm.Alike.refl U.vm), va_K.moved (u := U) (U := U.calling g mk a) (Vm.Alike.refl U.vm) h.2.2.1, h.2.2.2.same rfl⟩
