/-! Part 16: every run, every method -/
section Met
variable {p : Program} {l : Launch} {e : Env} {R : Room} {s : State} {m : MethodId} {args : Array Value} {below : List Frame} {meth : Method} {c : Code} {Q : State → Prop} {D : va_G} {b sz c0 s0 d : Nat} {y : tb_MD} {call : tb_MD → List Value → tb_MM → Option tb_XR}
variable {M : tb_MM} {pc n : Nat} {ls st : List Value} {x' : tb_XS}
set_option maxHeartbeats 4000000 in
theorem tb_one (hMul : tb_Mul) (C : tb_Cx p l R s m args meth c D b sz d y call) {i : Jvm.ClassFile.Instr} (hs : tb_sti call y i n pc ls st M = some (.inl x')) (hd : decode y.2.2.1 pc = .ok (i, n)) (hm : tb_cl M ≤ tb_cl x'.2.2.2 ∧ tb_sl M ≤ tb_sl x'.2.2.2) (hR : tb_cl x'.2.2.2 ≤ R.cells + c0 ∧ tb_sl x'.2.2.2 ≤ R.slots + s0)
    (k : tb_WA p l e R s m args below meth c Q D b sz c0 s0 y x'.1 x'.2.1 x'.2.2.1 x'.2.2.2) : tb_WA p l e R s m args below meth c Q D b sz c0 s0 y pc ls st M := by
  cases i with
  | iconst v => exact tb_s_iconst hMul C hs hd hm hR k
  | bipush v => exact tb_s_bipush hMul C hs hd hm hR k
  | sipush v => exact tb_s_sipush hMul C hs hd hm hR k
  | ldc v => exact tb_s_ldc hMul C hs hd hm hR k
  | ldc_w v => exact tb_s_ldcw hMul C hs hd hm hR k
  | ldc2_w v => exact tb_s_ldc2 hMul C hs hd hm hR k
  | iload_n v => exact tb_s_iload_n hMul C hs hd hm hR k
  | iload v => exact tb_s_iload hMul C hs hd hm hR k
  | aload_n v => exact tb_s_aload_n hMul C hs hd hm hR k
  | istore_n v => exact tb_s_istore_n hMul C hs hd hm hR k
  | istore v => exact tb_s_istore hMul C hs hd hm hR k
  | astore_n v => exact tb_s_astore_n hMul C hs hd hm hR k
  | iinc v w => exact tb_s_iinc hMul C hs hd hm hR k
  | dup => exact tb_s_dup hMul C hs hd hm hR k
  | dup_x1 => exact tb_s_dup_x1 hMul C hs hd hm hR k
  | iadd => exact tb_s_iadd hMul C hs hd hm hR k
  | isub => exact tb_s_isub hMul C hs hd hm hR k
  | imul => exact tb_s_imul hMul C hs hd hm hR k
  | iand => exact tb_s_iand hMul C hs hd hm hR k
  | idiv => exact tb_s_idiv hMul C hs hd hm hR k
  | irem => exact tb_s_irem hMul C hs hd hm hR k
  | i2b => exact tb_s_i2b hMul C hs hd hm hR k
  | i2l => exact tb_s_i2l hMul C hs hd hm hR k
  | lcmp => exact tb_s_lcmp hMul C hs hd hm hR k
  | goto v => exact tb_s_goto hMul C hs hd hm hR k
  | ifCond q v =>
    cases q with
    | eq => exact tb_s_ifCond_eq hMul C hs hd hm hR k
    | ne => exact tb_s_ifCond_ne hMul C hs hd hm hR k
    | lt => exact tb_s_ifCond_lt hMul C hs hd hm hR k
    | ge => exact tb_s_ifCond_ge hMul C hs hd hm hR k
    | gt => exact tb_s_ifCond_gt hMul C hs hd hm hR k
    | le => exact tb_s_ifCond_le hMul C hs hd hm hR k
  | if_icmp q v =>
    cases q with
    | eq => exact tb_s_if_icmp_eq hMul C hs hd hm hR k
    | ne => exact tb_s_if_icmp_ne hMul C hs hd hm hR k
    | lt => exact tb_s_if_icmp_lt hMul C hs hd hm hR k
    | ge => exact tb_s_if_icmp_ge hMul C hs hd hm hR k
    | gt => exact tb_s_if_icmp_gt hMul C hs hd hm hR k
    | le => exact tb_s_if_icmp_le hMul C hs hd hm hR k
  | tableswitch a1 a2 a3 a4 => exact tb_s_tableswitch hMul C hs hd hm hR k
  | lookupswitch a1 a2 => exact tb_s_lookupswitch hMul C hs hd hm hR k
  | getfield v => exact tb_s_getfield hMul C hs hd hm hR k
  | putfield v => exact tb_s_putfield hMul C hs hd hm hR k
  | iaload => exact tb_s_iaload hMul C hs hd hm hR k
  | baload => exact tb_s_baload hMul C hs hd hm hR k
  | aaload => exact tb_s_aaload hMul C hs hd hm hR k
  | iastore => exact tb_s_iastore hMul C hs hd hm hR k
  | bastore => exact tb_s_bastore hMul C hs hd hm hR k
  | arraylength => exact tb_s_arraylength hMul C hs hd hm hR k
  | new v => exact tb_s_new hMul C hs hd hm hR k
  | newarray v => exact tb_s_newarray hMul C hs hd hm hR k
  | multianewarray v w => exact tb_s_multi hMul C hs hd hm hR k
  | invokevirtual v => exact tb_s_virt hMul C hs hd hm hR k
  | invokestatic v => exact tb_s_stat hMul C hs hd hm hR k
  | invokespecial v => exact tb_s_spec hMul C hs hd hm hR k
  | ireturn => exfalso; simp only [tb_sti] at hs; (repeat' split at hs) <;> cases hs
  | lreturn => exfalso; simp only [tb_sti] at hs; (repeat' split at hs) <;> cases hs
  | return_ => exfalso; simp only [tb_sti] at hs; (repeat' split at hs) <;> cases hs
  | _ => cases hs
theorem tb_nx_inr {g : Bool} {r : tb_XR} (h : tb_nx g pc ls st M = some (.inr r)) : False := by
  unfold tb_nx at h
  split at h <;> cases h
set_option maxHeartbeats 4000000 in
theorem tb_ret {i : Jvm.ClassFile.Instr} {r : tb_XR} (hs : tb_sti call y i n pc ls st M = some (.inr r)) :
    (∃ v, i = .ireturn ∧ n = 1 ∧ st = [.int v] ∧ r = (some (.int v), M) ∧ (y.2.2.2.2.1 = some .int ∨ y.2.2.2.2.1 = some .boolean ∧ (v = 0 ∨ v = 1))) ∨ (∃ v, i = .lreturn ∧ n = 1 ∧ st = [.long v] ∧ r = (some (.long v), M) ∧ y.2.2.2.2.1 = some .long) ∨ (i = .return_ ∧ n = 1 ∧ st = [] ∧ r = (none, M) ∧ y.2.2.2.2.1 = none) := by
  cases i with
  | ireturn =>
    simp only [tb_sti] at hs
    split at hs
    · split at hs
      · rename_i v h
        cases hs
        exact Or.inl ⟨v, rfl, h.1, rfl, rfl, h.2⟩
      · cases hs
    · cases hs
  | lreturn =>
    simp only [tb_sti] at hs
    split at hs
    · split at hs
      · rename_i v h
        cases hs
        exact Or.inr (Or.inl ⟨v, rfl, h.1, rfl, rfl, h.2⟩)
      · cases hs
    · cases hs
  | return_ =>
    simp only [tb_sti] at hs
    split at hs
    · split at hs
      · rename_i h
        cases hs
        exact Or.inr (Or.inr ⟨rfl, h.1, rfl, rfl, h.2⟩)
      · cases hs
    · cases hs
  | _ =>
    exfalso
    first
    | (cases hs; done)
    | (simp only [tb_sti] at hs
       (repeat' split at hs) <;> first | exact tb_nx_inr hs | (cases hs; done) | (obtain ⟨_, _, hs⟩ := Option.bind_eq_some_iff.mp hs; exact tb_nx_inr hs))
theorem tb_stp_some {x : tb_XS} {q : tb_XS ⊕ tb_XR} (h : tb_stp call y x = some q) : ∃ i n, decode y.2.2.1 x.1 = .ok (i, n) ∧ tb_sti call y i n x.1 x.2.1 x.2.2.1 x.2.2.2 = some q ∧ tb_mono x.2.2.2 q = true := by
  unfold tb_stp at h
  split at h
  · rename_i i n hd
    obtain ⟨r, h1, h2⟩ := Option.bind_eq_some_iff.mp h
    split at h2
    · rename_i hm
      cases h2
      exact ⟨i, n, hd, h1, hm⟩
    · cases h2
  · cases h
theorem tb_exec_cl {r : tb_XR} : ∀ (f : Nat) (x : tb_XS), tb_exec call y f x = some r → tb_cl x.2.2.2 ≤ tb_cl r.2 ∧ tb_sl x.2.2.2 ≤ tb_sl r.2 := by
  intro f
  induction f with
  | zero => intro x h; cases h
  | succ f ih =>
    intro x h
    unfold tb_exec at h
    cases hq : tb_stp call y x with
    | none => rw [hq] at h; cases h
    | some q =>
      rw [hq] at h
      obtain ⟨i, n, -, -, hm⟩ := tb_stp_some hq
      cases q with
      | inl x' =>
        have h2 := ih x' h
        unfold tb_mono at hm
        have hm := of_decide_eq_true hm
        exact ⟨Nat.le_trans hm.1 h2.1, Nat.le_trans hm.2 h2.2⟩
      | inr r' =>
        cases h
        unfold tb_mono at hm
        exact of_decide_eq_true hm
theorem tb_run (hMul : tb_Mul) (C : tb_Cx p l R s m args meth c D b sz d y call) {r : tb_XR} (hB : tb_cl r.2 ≤ R.cells + c0 ∧ tb_sl r.2 ≤ R.slots + s0) (hend : ∀ pc ls st M i n, decode y.2.2.1 pc = .ok (i, n) → tb_sti call y i n pc ls st M = some (.inr r) → tb_WA p l e R s m args below meth c Q D b sz c0 s0 y pc ls st M) :
    ∀ (f : Nat) (x : tb_XS), tb_exec call y f x = some r → tb_WA p l e R s m args below meth c Q D b sz c0 s0 y x.1 x.2.1 x.2.2.1 x.2.2.2 := by
  intro f
  induction f with
  | zero => intro x h; cases h
  | succ f ih =>
    intro x h
    unfold tb_exec at h
    cases hq : tb_stp call y x with
    | none => rw [hq] at h; cases h
    | some q =>
      rw [hq] at h
      obtain ⟨i, n, hd, hs, hm⟩ := tb_stp_some hq
      cases q with
      | inl x' =>
        have h2 := tb_exec_cl f x' h
        unfold tb_mono at hm
        exact tb_one hMul C hs hd (of_decide_eq_true hm) ⟨Nat.le_trans h2.1 hB.1, Nat.le_trans h2.2 hB.2⟩ (ih x' h)
      | inr r' =>
        cases h
        exact hend _ _ _ _ i n hd hs
theorem tb_args_mem : ∀ (vs : List Value) (i j : Nat) (v : Value), (∀ w ∈ vs, w.category = 1) → vs[j]? = some v → (i + j, v) ∈ lv_args i vs := by
  intro vs
  induction vs with
  | nil => intro i j v _ h; cases h
  | cons a vs ih =>
    intro i j v hc h
    have ha : a.category = 1 := hc a List.mem_cons_self
    unfold lv_args
    rw [if_neg (by rw [ha]; decide)]
    cases j with
    | zero =>
      cases h
      exact List.mem_cons_self
    | succ j =>
      refine List.mem_cons_of_mem _ ?_
      have h2 := ih (i + 1) j v (fun w hw => hc w (List.mem_cons_of_mem _ hw)) h
      rw [show i + (j + 1) = i + 1 + j by omega]
      exact h2
theorem tb_sl_len : ∀ (vs : List Value), (∀ w ∈ vs, w.category = 1) → (lg_sl vs).length = vs.length := by
  intro vs
  induction vs with
  | nil => intro _; rfl
  | cons a vs ih =>
    intro hc
    have ha : a.category = 1 := hc a List.mem_cons_self
    have h2 := ih (fun w hw => hc w (List.mem_cons_of_mem _ hw))
    show ((if a.category = 2 then [Slot.val a, .second] else [.val a]) ++ lg_sl vs).length = _
    rw [if_neg (by rw [ha]; decide), List.length_append, h2]
    simp
    omega
/-- the locals at a method's entry -/
theorem tb_entry {as : List Value} {nL : Nat} (h1 : as.length ≤ nL) (h2 : (as.all fun v => tb_cat v == 1 && !tb_isJ v) = true) : tb_LR b sz nL (as ++ List.replicate (nL - as.length) tb_jk) ((lg_sl (as.map (tb_cv b sz)) ++ List.replicate (nL - (lg_sl (as.map (tb_cv b sz))).length) Slot.unset).toArray) := by
  have hc : ∀ v ∈ as, tb_cat v = 1 := fun v hv => by
    have := List.all_eq_true.mp h2 v hv
    simp only [Bool.and_eq_true, beq_iff_eq] at this
    exact this.1
  have hcm : ∀ w ∈ as.map (tb_cv b sz), w.category = 1 := fun w hw => by
    obtain ⟨v, hv, rfl⟩ := List.mem_map.mp hw
    rw [tb_cv_cat]
    exact hc v hv
  have hlen : (lg_sl (as.map (tb_cv b sz))).length = as.length := by rw [tb_sl_len _ hcm, List.length_map]
  have hen := lv_entry (as.map (tb_cv b sz)) (n := nL) (by rw [hlen]; exact h1)
  refine ⟨by simp; omega, ⟨hen.1, hen.2.1, fun q hq => hen.2.2 q ?_⟩, fun v hv => ?_⟩
  · obtain ⟨j, w⟩ := q
    obtain ⟨v, g1, g2, rfl⟩ := tb_asc_mem.mp hq
    by_cases hj : j < as.length
    · rw [List.getElem?_append_left hj] at g1
      have := tb_args_mem (as.map (tb_cv b sz)) 0 j (tb_cv b sz v) hcm (by rw [List.getElem?_map, g1]; rfl)
      rw [Nat.zero_add] at this
      exact this
    · rw [List.getElem?_append_right (by omega)] at g1
      have g3 := List.mem_of_getElem? g1
      have g4 := List.eq_of_mem_replicate g3
      subst g4
      cases g2
  · rcases List.mem_append.mp hv with h | h
    · exact hc v h
    · rw [List.eq_of_mem_replicate h]
      rfl
set_option maxHeartbeats 4000000 in
/-- EVERY METHOD: what the abstract machine answers, the machine answers -/
theorem tb_met (hMul : tb_Mul) (l : Launch) (D : va_G) (b sz : Nat) : ∀ d, tb_Cok l D b sz d (tb_rn d) := by
  intro d
  induction d with
  | zero => intro z as M r _ _ h; cases h
  | succ d ih =>
    intro z as M r hcls hpl h
    unfold tb_rn at h
    split at h
    · rename_i hg
      obtain ⟨f, hf⟩ := tb_ex_some.mp h
      have hcl := tb_exec_cl f _ hf
      dsimp only at hcl
      refine Met.ofW (cc := z.2.2.1) (maxL := z.2.2.2.1) (ret := z.2.2.2.2.1) hpl rfl ?_
      intro p e s m args below meth c s₁ B hml hv
      obtain ⟨rfl, hH, hK, hNL⟩ := hv
      have hts := atoms_spec (ws := tb_ws z) B.pre
      have hown : s.vm.findClass (tb_cn z.1) = some m.cls := by rw [← hcls]; exact findClass_of_methodNamed B.named
      have hlocks := B.notSynchronized
      have hnm : meth.name = z.2.1.name := (name_of_methodNamed B.named B.method).1
      have hret := B.returns
      have hx := B.exec
      have hb := B.bytes
      have C : tb_Cx p l (tb_rm (d + 1) (tb_cl r.2 - tb_cl M) (tb_sl r.2 - tb_sl M)) s m (as.map (tb_cv b sz)).toArray meth c D b sz d z (tb_rn d) :=
        ⟨hx, hb, hml, hown, fun w hw => hts w (List.mem_cons_of_mem _ hw), hK, fun q => hnm.trans q, ⟨Nat.le_refl _, Nat.le_refl _⟩, ih, hNL⟩
      rw [lg_entry_eq]
      refine tb_run hMul C (c0 := tb_cl M) (s0 := tb_sl M) (r := r) ⟨by show _ ≤ tb_cl r.2 - tb_cl M + tb_cl M; omega, by show _ ≤ tb_sl r.2 - tb_sl M + tb_sl M; omega⟩ ?_ f _ hf _ s.heap [] 0 0 (tb_entry hg.1 hg.2) hH (fun q h => by cases h) (fun _ _ => rfl) (Nat.zero_add _) (Nat.zero_add _)
      intro pc ls st M' i n hd hs arr H locs cells slots hL hH' hl hfr hc1 hc2
      rcases tb_ret hs with ⟨v, rfl, rfl, rfl, rfl, hr⟩ | ⟨v, rfl, rfl, rfl, rfl, hr⟩ | ⟨rfl, rfl, rfl, rfl, hr⟩
      · have e1 : tb_cl (some (Value.int v), M').2 - tb_cl M = cells := by dsimp only; omega
        have e2 : tb_sl (some (Value.int v), M').2 - tb_sl M = slots := by dsimp only; omega
        rw [e1, e2]
        rcases hr with hr | ⟨hr, hv⟩
        · exact W.zret (ty := .int) hx hb (by rw [hret, hr]) rfl (fun t ht hW => ⟨rfl, by rw [ht]; exact hH'.moved hW.alike, fun q hq => by rw [ht]; exact hfr q hq⟩) hl hd
        · exact W.zret (ty := .boolean) hx hb (by rw [hret, hr]) (by rcases hv with rfl | rfl <;> decide +kernel) (fun t ht hW => ⟨rfl, by rw [ht]; exact hH'.moved hW.alike, fun q hq => by rw [ht]; exact hfr q hq⟩) hl hd
      · have e1 : tb_cl (some (Value.long v), M').2 - tb_cl M = cells := by dsimp only; omega
        have e2 : tb_sl (some (Value.long v), M').2 - tb_sl M = slots := by dsimp only; omega
        rw [e1, e2]
        exact W.lret hx hb (by rw [hret, hr]) (fun t ht hW => ⟨rfl, by rw [ht]; exact hH'.moved hW.alike, fun q hq => by rw [ht]; exact hfr q hq⟩) hl hd
      · have e1 : tb_cl ((none : Option Value), M').2 - tb_cl M = cells := by dsimp only; omega
        have e2 : tb_sl ((none : Option Value), M').2 - tb_sl M = slots := by dsimp only; omega
        rw [e1, e2]
        exact W.vret hx hb (by rw [hret, hr]) (fun t ht hW => ⟨rfl, by rw [ht]; exact hH'.moved hW.alike, fun q hq => by rw [ht]; exact hfr q hq⟩) hl hd
    · cases h
end Met
