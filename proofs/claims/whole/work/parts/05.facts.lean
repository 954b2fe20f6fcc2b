/-! Part 05: what the tables hold, decided -/
def tb_ty (c k : Nat) : FieldType := (parseFieldDescriptor ((tb_vc c).2.1 k).2.2.1).getD .int
/-- the tables' words by places: pieces of the list -/
def tb_tw (n : Nat) : Option Cond := if n < 66 then (k2_sels lw_privs)[n]? else if n < 306 then tables_1_1[n - 66]? else if n < 546 then tables_1_2[n - 306]? else if n < 786 then tables_1_3[n - 546]? else if n < 1026 then tables_1_4[n - 786]? else tables_1_5[n - 1026]?
theorem tb_tw_in {n : Nat} {w : Cond} (h : tb_tw n = some w) : w ∈ lw_tbl := by
  unfold tb_tw at h
  unfold lw_tbl tables_1
  split at h
  · exact List.mem_append_left _ (List.mem_of_getElem? h)
  refine List.mem_append_right _ ?_
  split at h
  · exact List.mem_append_left _ (List.mem_of_getElem? h)
  refine List.mem_append_right _ ?_
  split at h
  · exact List.mem_append_left _ (List.mem_of_getElem? h)
  refine List.mem_append_right _ ?_
  split at h
  · exact List.mem_append_left _ (List.mem_of_getElem? h)
  refine List.mem_append_right _ ?_
  split at h
  · exact List.mem_append_left _ (List.mem_of_getElem? h)
  exact List.mem_append_right _ (List.mem_of_getElem? h)
/-- the words that a callee may be given -/
def tb_gt : List Cond := lw_tbl.filter goodWord
theorem tb_gt_in {w : Cond} (h : w ∈ lw_tbl) (hg : goodWord w = true) : w ∈ tb_gt := List.mem_filter.mpr ⟨h, hg⟩
theorem tb_gt_good {w : Cond} (h : w ∈ tb_gt) : goodWord w = true := (List.mem_filter.mp h).2
theorem tb_gt_tbl {w : Cond} (h : w ∈ tb_gt) : w ∈ lw_tbl := (List.mem_filter.mp h).1
set_option maxRecDepth 100000 in
theorem tb_vcl : ∀ c, c < 9 → vwCl[c]? = some (tb_vc c) ∧ (tb_vc c).1 = tb_cn c := by
  intro c hc
  match c, hc with
  | 0, _ => exact ⟨rfl, rfl⟩
  | 1, _ => exact ⟨rfl, rfl⟩
  | 2, _ => exact ⟨rfl, rfl⟩
  | 3, _ => exact ⟨rfl, rfl⟩
  | 4, _ => exact ⟨rfl, rfl⟩
  | 5, _ => exact ⟨rfl, rfl⟩
  | 6, _ => exact ⟨rfl, rfl⟩
  | 7, _ => exact ⟨rfl, rfl⟩
  | 8, _ => exact ⟨rfl, rfl⟩
set_option maxRecDepth 100000 in
theorem tb_uws : ∀ c, c < 9 → ∀ w ∈ u_ws (tb_vc c).1 (tb_vc c).2.1 (tb_vc c).2.2, w ∈ lw_tbl ∧ goodWord w = true := by decide +kernel
set_option maxRecDepth 100000 in
theorem tb_tyok : ∀ c, c < 9 → ∀ k, k < (tb_vc c).2.2 → parseFieldDescriptor ((tb_vc c).2.1 k).2.2.1 = some (tb_ty c k) := by decide +kernel
set_option maxRecDepth 100000 in
theorem tb_apart : ∀ c, c < 9 → ∀ a, a < (tb_vc c).2.2 → ∀ b, b < (tb_vc c).2.2 → a ≠ b → ((tb_vc c).2.1 a).2.1 ≠ ((tb_vc c).2.1 b).2.1 := by decide +kernel
set_option maxRecDepth 100000 in
theorem tb_kdok : ∀ c, c < 9 → ∀ k, k < (tb_vc c).2.2 → ((tb_vc c).2.1 k).1 = tb_cn c ∧ (tb_kd c k = 0 → tb_ty c k = .int ∧ ((tb_vc c).2.1 k).2.2.2 = false) ∧ (tb_kd c k = 1 → tb_ty c k = .boolean ∧ ((tb_vc c).2.1 k).2.2.2 = false) ∧ (tb_kd c k = 2 → (tb_ty c k).isReference = true ∧ ((tb_vc c).2.1 k).2.2.2 = true) ∧ tb_kd c k < 3 := by decide +kernel
theorem tb_look_in {α : Type} {l : List (Nat × Nat × α)} {c i : Nat} {a : α} (h : tb_look l c i = some a) : (c, i, a) ∈ l := by
  unfold tb_look at h
  rw [Option.map_eq_some_iff] at h
  obtain ⟨q, h1, h2⟩ := h
  have h3 := List.find?_some h1
  have h4 := List.mem_of_find?_eq_some h1
  simp only [Bool.and_eq_true, beq_iff_eq] at h3
  obtain ⟨x, y, z⟩ := q
  simp only at h3 h2
  obtain ⟨rfl, rfl⟩ := h3
  subst h2
  exact h4
set_option maxRecDepth 100000 in
theorem tb_fok : ∀ q ∈ tb_fT, tb_tw (q.2.2.2) = some (Cond.fieldLink (tb_cn q.1) q.2.1 (tb_cn q.2.2.1.1) ((tb_vc q.2.2.1.1).2.1 q.2.2.1.2).2.1 ((tb_vc q.2.2.1.1).2.1 q.2.2.1.2).2.2.1) ∧ q.2.2.1.1 < 9 ∧ q.2.2.1.2 < (tb_vc q.2.2.1.1).2.2 := by decide +kernel
set_option maxRecDepth 100000 in
theorem tb_nok : ∀ q ∈ tb_nT, tb_tw (q.2.2.2.1) = some (Cond.classLink (tb_cn q.1) q.2.1 (tb_cn q.2.2.1)) ∧ tb_tw (q.2.2.2.2.1) = some (Cond.instantiable (tb_cn q.2.2.1) (tb_vc q.2.2.1).2.2) ∧ tb_tw (q.2.2.2.2.2) = some (Cond.initialized (tb_cn q.2.2.1)) ∧ q.2.2.1 < 9 := by decide +kernel
set_option maxRecDepth 100000 in
theorem tb_kok : ∀ q ∈ tb_kT, tb_tw (q.2.2.2) = some (Cond.constant (tb_cn q.1) q.2.1 q.2.2.1) := by decide +kernel
set_option maxRecDepth 100000 in
theorem tb_lgok : ∀ q ∈ tb_lT, tb_tw (q.2.2.2) = some (Cond.constantLong (tb_cn q.1) q.2.1 q.2.2.1) := by decide +kernel
set_option maxRecDepth 100000 in
theorem tb_xok : ∀ q ∈ tb_xT, tb_tw (q.2.2.2) = some (Cond.methodLink (tb_cn q.1) q.2.1 (if q.2.2.1 = 0 then Lib.Math.max.name else Lib.Math.min.name)) := by decide +kernel
set_option maxRecDepth 100000 in
theorem tb_xc : Cond.static Lib.Math.max.name ∈ lw_tbl ∧ Cond.static Lib.Math.min.name ∈ lw_tbl ∧ Cond.initialized "java/lang/Math" ∈ lw_tbl ∧ Cond.code Lib.Math.max.name Lib.Math.max.code 2 (some .int) ∈ lw_tbl ∧ Cond.code Lib.Math.min.name Lib.Math.min.code 2 (some .int) ∈ lw_tbl := by decide +kernel
set_option maxRecDepth 100000 in
theorem tb_ook : (∀ q ∈ tb_oT, tb_tw (q.2.2.2) = some (Cond.methodLink (tb_cn q.1) q.2.1 Lib.objectInit)) ∧ Cond.instanceMethod Lib.objectInit ∈ lw_tbl ∧ Cond.code Lib.objectInit ⟨#[0xb1]⟩ 1 none ∈ lw_tbl := by decide +kernel
set_option maxRecDepth 100000 in
theorem tb_ac : Cond.arrayClass .int ∈ lw_tbl ∧ Cond.arrayClass .boolean ∈ lw_tbl ∧ Cond.arrayClass .byte ∈ lw_tbl ∧ Cond.arrayOver (.array .int) ∈ lw_tbl ∧ Cond.classLink RX3 9 "[[I" ∈ lw_tbl := by decide +kernel
/-- what a row of the calls' table says: kinds 0 virtual, 1 static of the class itself, 2 static of a nest mate, 3 a constructor, 4 a nest mate's -/
def tb_mokB (q : Nat × Nat × (Nat × tb_MD) × List Nat) : Bool :=
  let k := q.2.2.1.1
  let y := q.2.2.1.2
  let ps := q.2.2.2
  decide (tb_tw (ps.getD 0 0) = some (if k = 2 ∨ k = 4 then Cond.methodLinkNest (tb_cn q.1) q.2.1 y.2.1 RX7 else Cond.methodLink (tb_cn q.1) q.2.1 y.2.1))
  && decide (tb_tw (ps.getD 1 0) = some (if k = 1 ∨ k = 2 then Cond.static y.2.1 else Cond.instanceMethod y.2.1))
  && (decide (tb_tw (ps.getD 2 0) = some (Cond.selects y.2.1.cls y.2.1 y.2.1)) || decide (k ≠ 0))
  && decide (tb_tw (ps.getD 3 0) = some (Cond.initialized y.2.1.cls))
  && decide (tb_tw (ps.getD 4 0) = some (Cond.code y.2.1 y.2.2.1 y.2.2.2.1 y.2.2.2.2.1))
  && decide (y.2.1.cls = tb_cn y.1) && decide (k < 5) && decide (k = 1 → y.1 = q.1) && decide (y.1 < 9)
  && decide (y.2.1.cls ≠ "java/lang/invoke/MethodHandle" ∧ y.2.1.cls ≠ "java/lang/invoke/VarHandle" ∧ (parseMethodDescriptor y.2.1.desc).map (fun d => d.parameters.length) = some y.2.2.2.2.2)
  && plainName y.2.1.cls && decide (y.2.2.2.1 ≤ 21) && decide ((k = 3 ∨ k = 4) → y.2.1.name = "<init>" ∧ y.2.2.2.2.1 = none)
set_option maxRecDepth 100000 in
theorem tb_inst : ∀ c, c < 9 → ∃ n, Cond.instantiable (tb_vc c).1 n ∈ lw_tbl := by
  intro c hc
  have h : ∀ c, c < 9 → ∃ q ∈ tb_nT, q.2.2.1 = c := by decide +kernel
  obtain ⟨q, hq, rfl⟩ := h c hc
  have h2 := (tb_nok q hq).2.1
  exact ⟨_, by rw [(tb_vcl _ hc).2]; exact tb_tw_in h2⟩
