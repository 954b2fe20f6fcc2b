/-! Part 12: a step of the abstract machine is a step of the machine -/
section Step
variable {p : Program} {l : Launch} {e : Env} {R : Room} {s : State} {m : MethodId} {args : Array Value} {below : List Frame} {meth : Method} {c : Code} {Q : State → Prop} {D : va_G} {b sz c0 s0 d : Nat} {y : tb_MD} {call : tb_MD → List Value → tb_MM → Option tb_XR}
/-- what stands at every point of a method's run -/
def tb_Cx (p : Program) (l : Launch) (R : Room) (s : State) (m : MethodId) (args : Array Value) (meth : Method) (c : Code) (D : va_G) (b sz d : Nat) (y : tb_MD) (call : tb_MD → List Value → tb_MM → Option tb_XR) : Prop :=
  p.tables.exec = Jvm.exec ∧ c.code = y.2.2.1 ∧ c.maxLocals = y.2.2.2.1 ∧ s.vm.findClass (tb_cn y.1) = some m.cls ∧ (∀ w ∈ tb_gt, w.before args s = true) ∧ va_K D vwCl [] s ∧ (y.2.1.name = "<init>" → meth.name = "<init>") ∧ (d + 1 ≤ R.frames ∧ 40 * (d + 1) ≤ R.locals) ∧ tb_Cok l D b sz d call ∧ tb_NL s
def tb_WA (p : Program) (l : Launch) (e : Env) (R : Room) (s : State) (m : MethodId) (args : Array Value) (below : List Frame) (meth : Method) (c : Code) (Q : State → Prop) (D : va_G) (b sz c0 s0 : Nat) (y : tb_MD) (pc : Nat) (ls st : List Value) (M : tb_MM) : Prop :=
  ∀ (arr : Array Slot) (H : Heap) (locs : List Loc) (cells slots : Nat), tb_LR b sz y.2.2.2.1 ls arr → tb_Hp D b sz M s H → (∀ q ∈ locs, sz ≤ q.base) → (∀ q, q < sz → H[q]? = s.heap[q]?) → cells + c0 = tb_cl M → slots + s0 = tb_sl M → W p l e R s m args below meth c H locs cells slots Q (F0 m pc arr (st.map (tb_cv b sz)))
theorem tb_nx_some {g : Bool} {pc : Nat} {ls st : List Value} {M : tb_MM} {x' : tb_XS} (h : tb_nx g pc ls st M = some (.inl x')) : g = true ∧ x' = (pc, ls, st, M) := by
  unfold tb_nx at h
  split at h
  · rename_i hg
    cases h
    exact ⟨hg, rfl⟩
  · cases h
theorem tb_ix_some {i : Int32} {n j : Nat} (h : tb_ix i n = some j) : vp_in i n ∧ j = i.toNatClampNeg := by
  unfold tb_ix at h
  split at h
  · cases h
  · rename_i q
    cases h
    exact ⟨q, rfl⟩
theorem tb_tg_eq {pc : Nat} {off : Int} (h : 0 ≤ (pc : Int) + off) : (pc : Int) + off = (tb_tg pc off : Int) := by
  unfold tb_tg
  omega
theorem tb_ldc1 (C : tb_Cx p l R s m args meth c D b sz d y call) {k : Nat} {v : Int32} {w : Nat} (h : tb_look tb_kT y.1 k = some (v, w)) : (Cond.constant (tb_cn y.1) k v).before args s = true := by
  have h1 := tb_kok _ (tb_look_in h)
  exact C.2.2.2.2.1 _ (tb_gt_in (tb_tw_in h1) rfl)
theorem tb_fld (C : tb_Cx p l R s m args meth c D b sz d y call) {k ci f w : Nat} (h : tb_look tb_fT y.1 k = some ((ci, f), w)) : (Cond.fieldLink (tb_cn y.1) k (tb_cn ci) ((tb_vc ci).2.1 f).2.1 ((tb_vc ci).2.1 f).2.2.1).before args s = true ∧ ci < 9 ∧ f < (tb_vc ci).2.2 := by
  have h1 := tb_fok _ (tb_look_in h)
  exact ⟨C.2.2.2.2.1 _ (tb_gt_in (tb_tw_in h1.1) rfl), h1.2⟩
theorem tb_obj {M : tb_MM} {H : Heap} {k ci : Nat} {t : Nat × List Nat} (hH : tb_Hp D b sz M s H) (hk : M.1[k]? = some t) (hc : t.1 = ci) (h9 : ci < 9) : va_at D vwCl (tb_ad b sz k, .inr (ci, tb_fs ci t.2 b sz (M.2 k))) H ∧ t.2.length = (tb_vc ci).2.2 ∧ k ≠ 0 := by
  obtain ⟨h1, h2⟩ := hH.2.2.2 k t hk
  subst hc
  unfold tb_at at h1
  rw [if_neg (by omega), if_neg (by omega), if_neg (by omega), if_neg (by omega), if_neg (by omega)] at h1
  exact ⟨h1.1, h1.2.2, fun q => by have := h2.mp q; omega⟩
theorem tb_atP {q : Nat × va_E} {H : Heap} (h : va_at D vwCl q H) : va_P D vwCl [q] H := by
  intro k x hx
  have h0 : k < 1 := (List.getElem?_eq_some_iff.mp hx).1
  rw [show k = 0 by omega] at hx
  cases hx
  exact h
theorem tb_fs_at {ci f : Nat} {rs : List Nat} {G : Nat → Int32} (hf : f < rs.length) : (tb_fs ci rs b sz G)[f]? = some (tb_cv b sz (if tb_kd ci f = 2 then tb_rv (rs.getD f 0) else .int (G f))) := by
  unfold tb_fs
  rw [List.getElem?_map, List.getElem?_range hf]
  show some _ = some _
  congr 1
  dsimp only
  split <;> rfl
theorem tb_getf (C : tb_Cx p l R s m args meth c D b sz d y call) {k ci f w o pc : Nat} {t : Nat × List Nat} {M : tb_MM} {H : Heap} {locs : List Loc} {cells slots : Nat} {arr : Array Slot} {st : List Value} (h : tb_look tb_fT y.1 k = some ((ci, f), w)) (hH : tb_Hp D b sz M s H) (ht : M.1[o]? = some t) (hc : t.1 = ci) (hd : decode y.2.2.1 pc = .ok (.getfield k, 3))
    (kk : W p l e R s m args below meth c H locs cells slots Q (F0 m (pc + 3) arr (tb_cv b sz (if tb_kd ci f = 2 then tb_rv (t.2.getD f 0) else .int (M.2 o f)) :: st))) : W p l e R s m args below meth c H locs cells slots Q (F0 m pc arr (.ref (tb_ad b sz o) :: st)) := by
  obtain ⟨h1, h2, h3⟩ := tb_fld C h
  obtain ⟨g1, g2, g3⟩ := tb_obj hH ht hc h2
  obtain ⟨hx, hb, -, hown, hts, hK, -⟩ := C
  have hcl := (tb_vcl ci h2).1
  exact va_get (C := (tb_vc ci).1) (T := (tb_vc ci).2.1) (N := (tb_vc ci).2.2) (Ts := tb_gt) hx hb hts (fun w hw => tb_gt_in (tb_uws ci h2 w hw).1 (tb_uws ci h2 w hw).2) hown hK (tb_atP g1) 0 rfl hcl f h3 h1 (by rw [(tb_kdok ci h2 f h3).1]; exact fun _ q => q) (tb_fs_at (by rw [g2]; exact h3)) hd kk
theorem tb_fs_up {ci f : Nat} {rs : List Nat} {G : Nat → Int32} {v : Int32} (h : tb_kd ci f ≠ 2) : (tb_fs ci rs b sz G).set f (.int v) = tb_fs ci rs b sz (upd G f v) := by
  unfold tb_fs
  apply List.ext_getElem?
  intro j
  by_cases e : f = j
  · subst e
    rw [List.getElem?_set_self', List.getElem?_map, List.getElem?_map]
    by_cases hl : f < rs.length
    · rw [List.getElem?_range hl]
      simp [h, upd]
    · rw [List.getElem?_eq_none (by simpa using hl)]
      rfl
  · rw [List.getElem?_set_ne e, List.getElem?_map, List.getElem?_map]
    by_cases hl : j < rs.length
    · rw [List.getElem?_range hl]
      have e' : ¬ j = f := fun q => e q.symm
      simp [upd, e']
    · rw [List.getElem?_eq_none (by simpa using hl)]
      rfl
theorem tb_fs_upR {ci f : Nat} {rs : List Nat} {G : Nat → Int32} {v : Nat} (h : tb_kd ci f = 2) (hf : f < rs.length) : (tb_fs ci rs b sz G).set f (tb_cv b sz (.ref v)) = tb_fs ci (rs.set f (v + 1)) b sz G := by
  unfold tb_fs
  apply List.ext_getElem?
  intro j
  rw [List.length_set]
  by_cases e : f = j
  · subst e
    rw [List.getElem?_set_self', List.getElem?_map, List.getElem?_map, List.getElem?_range hf]
    simp [h, hf, tb_rv]
  · rw [List.getElem?_set_ne e, List.getElem?_map, List.getElem?_map]
    by_cases hl : j < rs.length
    · rw [List.getElem?_range hl]
      simp [e]
    · rw [List.getElem?_eq_none (by simpa using hl)]
      rfl
theorem tb_hap (C : tb_Cx p l R s m args meth c D b sz d y call) {ci : Nat} (h9 : ci < 9) : ∀ a x, a < (tb_vc ci).2.2 → x < (tb_vc ci).2.2 → a ≠ x → (D.2 ci) a ≠ (D.2 ci) x := by
  obtain ⟨hx, hb, -, hown, hts, hK, -⟩ := C
  exact va_apart (own := tb_cn y.1) (C := (tb_vc ci).1) (T := (tb_vc ci).2.1) (N := (tb_vc ci).2.2) (Ts := tb_gt) hts (fun w hw => tb_gt_in (tb_uws ci h9 w hw).1 (tb_uws ci h9 w hw).2) (tb_ty ci) (tb_tyok ci h9) (tb_apart ci h9) hK (tb_vcl ci h9).1
theorem tb_putf (C : tb_Cx p l R s m args meth c D b sz d y call) {k ci f w o pc : Nat} {v : Int32} {t : Nat × List Nat} {M : tb_MM} {H : Heap} {locs : List Loc} {cells slots : Nat} {arr : Array Slot} {st : List Value} (h : tb_look tb_fT y.1 k = some ((ci, f), w)) (hH : tb_Hp D b sz M s H) (ht : M.1[o]? = some t) (hc : t.1 = ci) (hv : tb_kd ci f = 0 ∨ tb_kd ci f = 1 ∧ (v = 0 ∨ v = 1)) (hd : decode y.2.2.1 pc = .ok (.putfield k, 3))
    (kk : ∀ (H1 : Heap), tb_Hp D b sz (M.1, tb_up M.2 o f v) s H1 → (∀ q, q < sz → H1[q]? = H[q]?) → W p l e R s m args below meth c H1 (locs ++ [⟨tb_ad b sz o, (D.2 ci) f⟩]) cells slots Q (F0 m (pc + 3) arr st)) : W p l e R s m args below meth c H locs cells slots Q (F0 m pc arr (.int v :: .ref (tb_ad b sz o) :: st)) := by
  obtain ⟨h1, h2, h3⟩ := tb_fld C h
  obtain ⟨g1, g2, g3⟩ := tb_obj hH ht hc h2
  have hap := tb_hap C h2
  obtain ⟨hx, hb, -, hown, hts, hK, -⟩ := C
  have hcl := (tb_vcl ci h2).1
  have hkd := tb_kdok ci h2 f h3
  obtain ⟨r, r1, cell, q1, q2, q3, q4⟩ := g1
  have hr : r = tb_vc ci := Option.some.inj (r1.symm.trans hcl)
  subst hr
  obtain ⟨hS, hfc, kC, hkC, hkind⟩ := hK.1 ci _ hcl
  obtain ⟨cf, kf, fi, fd, hi, hsl⟩ := hS f h3
  have hin : ∀ w ∈ u_ws (tb_vc ci).1 (tb_vc ci).2.1 (tb_vc ci).2.2, w ∈ tb_gt := fun w hw => tb_gt_in (tb_uws ci h2 w hw).1 (tb_uws ci h2 w hw).2
  have hfin : ((tb_vc ci).2.1 f).2.2.2 = false := by rcases hv with q | q; exact (hkd.2.1 q).2; exact (hkd.2.2.1 q.1).2
  have hlay := hts _ (hin _ (u_in_lay h3))
  unfold u_lay at hlay
  rw [if_neg (by rw [hfin]; decide)] at hlay
  have hst := (u_facts hfc hkC (u_lays hts hin h3) hi).1
  have hnf : narrow (tb_ty ci f) (.int v) = .int v ∧ fits (tb_ty ci f) (.int v) = true := by
    rcases hv with q | ⟨q, q'⟩
    · rw [(hkd.2.1 q).1]; exact ⟨rfl, rfl⟩
    · rw [(hkd.2.2.1 q).1]
      rcases q' with rfl | rfl
      · decide +kernel
      · decide +kernel
  have h6 := u_store hfc hkC hkind hlay hi (tb_tyok ci h2 f h3) hnf.1 hnf.2
  have hlink2 : s.fieldFound? (tb_cn ci) ((tb_vc ci).2.1 f).2.1 ((tb_vc ci).2.1 f).2.2.1 = some (cf, kf, fi, fd) := by rw [← hkd.1]; exact hi
  refine W.putK hx hb (f := fd) ⟨hown, h1, ⟨_, _, _, hlink2⟩, hst⟩ (by rw [q2]; exact h6) q1 q3 (by rw [hsl]; exact k2_hasslot (q4 f h3)) rfl rfl hd fun H' e1 e2 e3 => ?_
  rw [hsl] at e1 ⊢
  refine kk H' ?_ (fun q hq => e3 q (fun z => by have := tb_ad_ge (b := b) (sz := sz) g3; have z' : q = tb_ad b sz o := z; omega))
  have hset := tb_Hp.set (t' := t) (S' := tb_up M.2 o f v) hH ht e2 e3 ?_ rfl (fun j hj => by unfold tb_up; rw [if_neg hj])
  · rw [tb_set_self ht] at hset
    exact hset
  · unfold tb_at
    rw [if_neg (by omega), if_neg (by omega), if_neg (by omega), if_neg (by omega), if_neg (by omega)]
    refine ⟨?_, by omega, by rw [hc]; exact g2⟩
    refine ⟨tb_vc ci, by rw [hc]; exact hcl, ?_⟩
    show t_OB (tb_ad b sz o) (D.1 t.1) _ (D.2 t.1) H' (vp_V (tb_fs t.1 t.2 b sz (tb_up M.2 o f v o)))
    rw [show tb_up M.2 o f v o = upd (M.2 o) f v from if_pos rfl, hc, ← tb_fs_up (by rcases hv with q | q <;> omega)]
    refine t_OB.to (V := updV (vp_V (tb_fs ci t.2 b sz (M.2 o))) f (.int v)) ⟨_, e1, q2, q3, t_set q4 hap h3 _⟩ (fun j _ => vp_updV_set ?_ _ j)
    unfold tb_fs
    rw [List.length_map, List.length_range, g2]
    exact h3
theorem tb_putr (C : tb_Cx p l R s m args meth c D b sz d y call) {k ci f w o pc v : Nat} {t : Nat × List Nat} {M : tb_MM} {H : Heap} {locs : List Loc} {cells slots : Nat} {arr : Array Slot} {st : List Value} (h : tb_look tb_fT y.1 k = some ((ci, f), w)) (hH : tb_Hp D b sz M s H) (ht : M.1[o]? = some t) (hc : t.1 = ci) (hv : tb_kd ci f = 2) (hy : y.1 = ci) (hini : y.2.1.name = "<init>") (hd : decode y.2.2.1 pc = .ok (.putfield k, 3))
    (kk : ∀ (H1 : Heap), tb_Hp D b sz (M.1.set o (ci, t.2.set f (v + 1)), M.2) s H1 → (∀ q, q < sz → H1[q]? = H[q]?) → W p l e R s m args below meth c H1 (locs ++ [⟨tb_ad b sz o, (D.2 ci) f⟩]) cells slots Q (F0 m (pc + 3) arr st)) : W p l e R s m args below meth c H locs cells slots Q (F0 m pc arr (tb_cv b sz (.ref v) :: .ref (tb_ad b sz o) :: st)) := by
  obtain ⟨h1, h2, h3⟩ := tb_fld C h
  obtain ⟨g1, g2, g3⟩ := tb_obj hH ht hc h2
  have hap := tb_hap C h2
  obtain ⟨hx, hb, -, hown, hts, hK, hin2, -⟩ := C
  have hcl := (tb_vcl ci h2).1
  have hkd := tb_kdok ci h2 f h3
  obtain ⟨r, r1, cell, q1, q2, q3, q4⟩ := g1
  have hr : r = tb_vc ci := Option.some.inj (r1.symm.trans hcl)
  subst hr
  obtain ⟨hS, hfc, kC, hkC, hkind⟩ := hK.1 ci _ hcl
  obtain ⟨cf, kf, fi, fd, hi, hsl⟩ := hS f h3
  have hin : ∀ w ∈ u_ws (tb_vc ci).1 (tb_vc ci).2.1 (tb_vc ci).2.2, w ∈ tb_gt := fun w hw => tb_gt_in (tb_uws ci h2 w hw).1 (tb_uws ci h2 w hw).2
  have hfin : ((tb_vc ci).2.1 f).2.2.2 = true := (hkd.2.2.2.1 hv).2
  have hlay := hts _ (hin _ (u_in_lay h3))
  unfold u_lay at hlay
  rw [if_pos hfin] at hlay
  have hst := (u_facts hfc hkC (u_lays hts hin h3) hi).1
  have hcf : m.cls = cf := by
    obtain ⟨_, _, c', _, _, _, -, -, hf', -, -, -, hown2, -⟩ := Cond.laysFinal_spec hlay
    have e1 : c' = cf := by have := hi.symm.trans hf'; simp at this; exact this.1.symm
    rw [hkd.1, ← hy] at hown2
    rw [← e1]; exact Option.some.inj (hown.symm.trans hown2)
  have hnf : narrow (tb_ty ci f) (tb_cv b sz (.ref v)) = tb_cv b sz (.ref v) ∧ fits (tb_ty ci f) (tb_cv b sz (.ref v)) = true := by
    have h7 := (hkd.2.2.2.1 hv).1
    show narrow _ (.ref (tb_ad b sz v)) = .ref (tb_ad b sz v) ∧ fits _ (.ref (tb_ad b sz v)) = true
    cases hT : tb_ty ci f <;> rw [hT] at h7 <;> first | exact ⟨rfl, rfl⟩ | cases h7
  have h6 := u_fits hfc hkC hkind (Or.inr hlay) hi (tb_tyok ci h2 f h3) hnf.1 hnf.2
  have hlink2 : s.fieldFound? (tb_cn ci) ((tb_vc ci).2.1 f).2.1 ((tb_vc ci).2.1 f).2.2.1 = some (cf, kf, fi, fd) := by rw [← hkd.1]; exact hi
  refine W.putFinK hx hb hown h1 hlink2 hst hcf (hin2 hini) (by rw [q2]; exact h6) q1 q3 (by rw [hsl]; exact k2_hasslot (q4 f h3)) rfl rfl hd fun H' e1 e2 e3 => ?_
  rw [hsl] at e1 ⊢
  refine kk H' ?_ (fun q hq => e3 q (fun z => by have := tb_ad_ge (b := b) (sz := sz) g3; have z' : q = tb_ad b sz o := z; omega))
  refine tb_Hp.set (t' := (ci, t.2.set f (v + 1))) (S' := M.2) hH ht e2 e3 ?_ hc.symm (fun j hj => rfl)
  unfold tb_at
  show (if ci = 50 then _ else _)
  rw [if_neg (by omega), if_neg (by omega), if_neg (by omega), if_neg (by omega), if_neg (by omega)]
  refine ⟨⟨tb_vc ci, hcl, ?_⟩, h2, by rw [List.length_set]; exact g2⟩
  show t_OB (tb_ad b sz o) (D.1 ci) _ (D.2 ci) H' (vp_V (tb_fs ci (t.2.set f (v + 1)) b sz (M.2 o)))
  rw [← tb_fs_upR hv (by rw [g2]; exact h3)]
  refine t_OB.to (V := updV (vp_V (tb_fs ci t.2 b sz (M.2 o))) f _) ⟨_, e1, q2, q3, t_set q4 hap h3 _⟩ (fun j _ => vp_updV_set ?_ _ j)
  unfold tb_fs
  rw [List.length_map, List.length_range, g2]
  exact h3
end Step
