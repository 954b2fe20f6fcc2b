/-! THE CLAIM OUT OF ONE WALK OF THE LAW'S BODY. Your part is whole_start (and what it stands on); all else here is the same for every law, but numbers. -/
def R_law : String := "TariffBoxesLaw"
def lw_P (b : Addr) (xs : List Int32) (args : Array Value) (s : State) : Prop := args = #[.ref b] ∧ s.IntsAt b xs ∧ xs.length ≤ 2560 ∧ (Jvm.Cond.and given_1 narrow_1).before args s = true
def lw_Q (_ : Array Value) (s : State) (o : Outcome) (t : State) : Prop := o = .returned (some (.int 1)) ∧ Framed s o t [] 600000 7302250
def lw_Z (below : List Frame) (a : Array Value) (s : State) : State → Prop := fun t => ∃ o, t.status = .running ∧ Ended t below o ∧ lw_Q a s o t
/-- the law's own end, with 1 on the stack, nothing written that was there before, its room as the claim has it -/
theorem lw_ret {p : Program} {l : Launch} {e : Env} {s : State} {m : MethodId} {below : List Frame} {meth : Method} {c : Code} {b : Nat} (hx : p.tables.exec = Jvm.exec) (hb : c.code = code) (hr : meth.sig.returnType = ret) (hlocks : meth.locks = false) {pc : Nat} {H : Heap} {ls : Array Slot} (hdg : decode code pc = .ok (.ireturn, 1)) : W p l e room_1 s m #[Value.ref b] below meth c H [] 600000 7302250 (lw_Z below #[Value.ref b] s) (F0 m pc ls [.int 1]) := by
  intro T hT X
  obtain ⟨fs, hret, hrun, hended, hW, hframe⟩ := X.leave (v := some (.int 1)) (hlocks := hlocks) (fun h => by rw [hr] at h; cases h)
  have hmeth' : T.vm.method? m = some meth := X.method'
  refine ⟨T.setFrames fs, ?_, .returned (some (.int 1)), hrun, hended, rfl, ⟨_, rfl⟩, hW, hframe⟩
  jvm_step X.here [X.here.top, hx, hb, hdg, hmeth', hr, ret, narrow_b1]
  (try refine ⟨rfl, ?_⟩); (try refine ⟨rfl, ?_⟩)
  first | (intro acts; rw [hret _ acts rfl rfl rfl]) | rw [hret _ _ rfl rfl rfl]
  exact Steps.refl _
/-- what holds at the law's entry: the machine, the code, the tables' words (any of lw_tbl by 'hts w (by decide +kernel)'), the script of L ints xs at the cell b, what the Statement gives of the start (any of its parts by flat_of_before) -/
def lw_At (p : Program) (s : State) (m : MethodId) (meth : Method) (c : Code) (b L : Nat) (xs : Nat → Int32) : Prop :=
  p.tables.exec = Jvm.exec ∧ c.code = code ∧ meth.sig.returnType = ret ∧ c.maxLocals = 4 ∧ s.vm.findClass R_law = some m.cls ∧ (∀ w ∈ lw_tbl, w.before #[Value.ref b] s = true) ∧ va_X b L xs s s.heap ∧ b < s.heap.size ∧ meth.locks = false ∧ (Jvm.Cond.and given_1 narrow_1).before #[Value.ref b] s = true
/-- what is owed of the abstract machine: on every script the law's run ends, answers 1, and takes no more cells than the claim has -/
def tb_Owed : Prop := ∀ (L : Nat) (xs : Nat → Int32), L ≤ 2560 → ∃ Mf : tb_MM, tb_ex (tb_rn 100) mL_law (0, [.ref 0, tb_jk, tb_jk, tb_jk], [], ([(54, [])], fun k j => if k = 0 then (if j = 2560 then nI L else xs j) else 0)) = some (some (.int 1), Mf) ∧ tb_cl Mf ≤ 600001 ∧ tb_sl Mf ≤ 7302250
set_option maxHeartbeats 4000000 in
set_option maxRecDepth 100000 in
theorem tb_start (hMul : tb_Mul) (hOwed : tb_Owed) {p : Program} {e : Env} {s : State} {m : MethodId} {below : List Frame} {meth : Method} {c : Code} (l : Launch) {b L : Nat} {xs : Nat → Int32} (hL : L ≤ 2560) (C0 : lw_At p s m meth c b L xs) : W p l e room_1 s m #[Value.ref b] below meth c s.heap [] 0 0 (lw_Z below #[Value.ref b] s) (entryFrame m ([Value.ref b] : List Value).toArray 4) := by
  obtain ⟨hx, hb, hr, hml, hown, hts, hX, hbl, hlocks, hgv⟩ := id C0
  have hgt : ∀ w ∈ tb_gt, w.before #[Value.ref b] s = true := fun w hw => hts w (tb_gt_tbl hw)
  have hKn : ∀ ci, ci < 9 → ∃ (cC : ClassId) (iS : Nat → Nat), u_Kn s (tb_vc ci).1 (tb_vc ci).2.1 (tb_vc ci).2.2 cC iS := by
    intro ci h9
    have hin : ∀ w ∈ u_ws (tb_vc ci).1 (tb_vc ci).2.1 (tb_vc ci).2.2, w ∈ tb_gt := fun w hw => tb_gt_in (tb_uws ci h9 w hw).1 (tb_uws ci h9 w hw).2
    obtain ⟨n, hn⟩ := tb_inst ci h9
    obtain ⟨cC, iS, h⟩ := u_known (C := (tb_vc ci).1) (T := (tb_vc ci).2.1) (N := (tb_vc ci).2.2) (n := n) hgt hin (hts _ hn)
    exact ⟨cC, iS, h⟩
  obtain ⟨dC, dI, hKc⟩ : ∃ (dC : Nat → ClassId) (dI : Nat → Nat → Nat), ∀ (k : Nat) (q : vw_C), vwCl[k]? = some q → u_Kn s q.1 q.2.1 q.2.2 (dC k) (dI k) := by
    classical
    refine ⟨fun k => if h : k < 9 then Classical.choose (hKn k h) else 0, fun k => if h : k < 9 then Classical.choose (Classical.choose_spec (hKn k h)) else fun _ => 0, ?_⟩
    intro k q hq
    have hk : k < 9 := (List.getElem?_eq_some_iff.mp hq).1
    have h2 := (tb_vcl k hk).1
    have h3 : q = tb_vc k := Option.some.inj (hq.symm.trans h2)
    subst h3
    dsimp only
    rw [dif_pos hk, dif_pos hk]
    exact Classical.choose_spec (Classical.choose_spec (hKn k hk))
  have hK : va_K (dC, dI) vwCl [] s := ⟨hKc, fun k q h => by simp at h⟩
  have hNL : tb_NL s := by
    refine ⟨fun q hq hk => ?_, ?_⟩
    · have h1 := tb_mok q hq
      unfold tb_mokB at h1
      simp only [Bool.and_eq_true, Bool.or_eq_true, decide_eq_true_eq] at h1
      obtain ⟨⟨⟨⟨⟨⟨⟨⟨⟨⟨⟨⟨a1, -⟩, -⟩, -⟩, -⟩, -⟩, -⟩, -⟩, -⟩, -⟩, -⟩, -⟩, -⟩ := h1
      rw [if_pos hk] at a1
      exact va_Nw.of rfl (hts _ (tb_tw_in a1))
    · exact hts _ tb_ac.2.2.2.1
  obtain ⟨Mf, hrun, hcl, hsl⟩ := hOwed L xs hL
  obtain ⟨f, hf⟩ := tb_ex_some.mp hrun
  have hH : tb_Hp (dC, dI) b s.heap.size ([(54, [])], fun k j => if k = 0 then (if j = 2560 then nI L else xs j) else 0) s s.heap := by
    refine ⟨hbl, by simp, by simp, fun k t hk => ?_⟩
    have h0 : k < 1 := (List.getElem?_eq_some_iff.mp hk).1
    obtain rfl : k = 0 := by omega
    cases hk
    refine ⟨?_, by simp⟩
    unfold tb_at
    rw [if_neg (show ¬ (54 : Nat) = 50 by decide), if_neg (show ¬ (54 : Nat) = 51 by decide), if_neg (show ¬ (54 : Nat) = 52 by decide), if_neg (show ¬ (54 : Nat) = 53 by decide), if_pos (show (54 : Nat) = 54 from rfl)]
    obtain ⟨scr, e1, e2, e3, e4, e5⟩ := hX
    have hLn : (nI L).toNatClampNeg = L := nI_clamp (by omega)
    refine ⟨scr, e1, e2, e3, ?_, fun j hj => ?_⟩
    · show scr.slots.size = (if (0 : Nat) = 0 then (if (2560 : Nat) = 2560 then nI L else xs 2560) else 0).toNatClampNeg
      rw [if_pos rfl, if_pos rfl, hLn]
      exact e4
    · have hj' : j < (if (0 : Nat) = 0 then (if (2560 : Nat) = 2560 then nI L else xs 2560) else 0).toNatClampNeg := hj
      rw [if_pos rfl, if_pos rfl, hLn] at hj'
      show scr.slots[j]? = some (.int (if (0 : Nat) = 0 then (if j = 2560 then nI L else xs j) else 0))
      rw [if_pos rfl, if_neg (by omega)]
      exact e5 j hj'
  have C : tb_Cx p l room_1 s m #[Value.ref b] meth c (dC, dI) b s.heap.size 100 mL_law (tb_rn 100) :=
    ⟨hx, hb, hml, hown, hgt, hK, fun q => absurd q (by decide), ⟨by decide, by decide⟩, tb_met hMul l (dC, dI) b s.heap.size 100, hNL⟩
  have hent := tb_entry (b := b) (sz := s.heap.size) (as := [.ref 0]) (nL := 4) (by decide) (by decide)
  rw [lg_entry_eq]
  refine tb_run hMul C (c0 := 1) (s0 := 0) (r := (some (.int 1), Mf)) ⟨by show tb_cl Mf ≤ 600000 + 1; omega, by show tb_sl Mf ≤ 7302250 + 0; omega⟩ ?_ f _ hf _ s.heap [] 0 0 hent hH (fun q h => by cases h) (fun _ _ => rfl) rfl rfl
  intro pc ls st M' i n hd hs arr H locs cells slots hL hH' hl hfr hc1 hc2
  rcases tb_ret hs with ⟨v, rfl, rfl, rfl, hv, -⟩ | ⟨v, rfl, rfl, rfl, hv, -⟩ | ⟨rfl, rfl, rfl, hv, -⟩
  · cases hv
    refine va_forget hl (W.widen (k := 600000) (n := 7302250) (by omega) (by omega) ?_)
    exact lw_ret hx hb hr hlocks hd
  · cases hv
  · cases hv
