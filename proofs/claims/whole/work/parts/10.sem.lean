/-! Part 10: an abstract machine for the claim's bytecode. A memory is a shape (of each place: its kind, and the places
that it refers to) and a function from place and index to int. Kinds: below 50 an object of that class in vwCl;
50, 51, 52: arrays of int, boolean, byte (their length is the shape's head); 53: an array of int arrays; 54: the law's script
(its length is the int at index 2560). -/
/-- a local that nothing is known of -/
def tb_jk : Value := .float 0
def tb_isJ : Value → Bool
  | .float _ => true
  | _ => false
/-- a reference by its number in the shape: 0 is null -/
def tb_rv : Nat → Value
  | 0 => .null
  | k + 1 => .ref k
def tb_up (S : tb_St) (k j : Nat) (v : Int32) : tb_St := fun q => if q = k then upd (S k) j v else S q
def tb_zr (S : tb_St) (k : Nat) : tb_St := fun q => if q = k then fun _ => 0 else S q
/-- an index into n places -/
def tb_ix (i : Int32) (n : Nat) : Option Nat := if i < 0 ∨ n ≤ i.toNatClampNeg then none else some i.toNatClampNeg
def tb_tg (pc : Nat) (off : Int) : Nat := ((pc : Int) + off).toNat
/-- how many slots a place takes -/
def tb_sz1 (t : Nat × List Nat) : Nat := if 50 ≤ t.1 ∧ t.1 ≤ 52 then t.2.headD 0 else if t.1 = 54 then 0 else t.2.length
def tb_cl (M : tb_MM) : Nat := M.1.length
def tb_sl (M : tb_MM) : Nat := (M.1.map tb_sz1).sum
def tb_nx (g : Bool) (pc : Nat) (ls st : List Value) (M : tb_MM) : Option (tb_XS ⊕ tb_XR) := if g = true then some (.inl (pc, ls, st, M)) else none
def tb_kind (t : ArrayType) : Option Nat := match t with
  | .int => some 50
  | .boolean => some 51
  | .byte => some 52
  | _ => none
def tb_cat (v : Value) : Nat := v.category
/-- what an instruction does; 'call' is what a method called answers -/
def tb_sti (call : tb_MD → List Value → tb_MM → Option tb_XR) (y : tb_MD) (i : Jvm.ClassFile.Instr) (n pc : Nat) (ls st : List Value) (M : tb_MM) : Option (tb_XS ⊕ tb_XR) :=
  match i with
  | .iconst v => tb_nx (n == 1) (pc + 1) ls (.int (Int32.ofInt v) :: st) M
  | .bipush v => tb_nx (n == 2) (pc + 2) ls (.int (Int8.ofInt v).toInt32 :: st) M
  | .sipush v => tb_nx (n == 3) (pc + 3) ls (.int (Int16.ofInt v).toInt32 :: st) M
  | .ldc k => match tb_look tb_kT y.1 k with
    | some (v, _) => tb_nx (n == 2) (pc + 2) ls (.int v :: st) M
    | none => none
  | .ldc_w k => match tb_look tb_kT y.1 k with
    | some (v, _) => tb_nx (n == 3) (pc + 3) ls (.int v :: st) M
    | none => none
  | .ldc2_w k => match tb_look tb_lT y.1 k with
    | some (v, _) => tb_nx (n == 3) (pc + 3) ls (.long v :: st) M
    | none => none
  | .iload_n k => match ls[(k : Nat)]? with
    | some (.int x) => tb_nx (n == 1) (pc + 1) ls (.int x :: st) M
    | _ => none
  | .iload k => match ls[k]? with
    | some (.int x) => tb_nx (n == 2) (pc + 2) ls (.int x :: st) M
    | _ => none
  | .aload_n k => match ls[(k : Nat)]? with
    | some (.ref x) => tb_nx (n == 1) (pc + 1) ls (.ref x :: st) M
    | _ => none
  | .istore_n k => match st with
    | .int x :: st => tb_nx (n == 1 && decide ((k : Nat) < ls.length)) (pc + 1) (ls.set k (.int x)) st M
    | _ => none
  | .istore k => match st with
    | .int x :: st => tb_nx (n == 2 && decide (k < ls.length)) (pc + 2) (ls.set k (.int x)) st M
    | _ => none
  | .astore_n k => match st with
    | .ref x :: st => tb_nx (n == 1 && decide ((k : Nat) < ls.length)) (pc + 1) (ls.set k (.ref x)) st M
    | _ => none
  | .iinc k v => match ls[k]? with
    | some (.int x) => tb_nx (n == 3) (pc + 3) (ls.set k (.int (x + Int32.ofInt v))) st M
    | _ => none
  | .dup => match st with
    | a :: st => tb_nx (n == 1 && tb_cat a == 1) (pc + 1) ls (a :: a :: st) M
    | _ => none
  | .dup_x1 => match st with
    | a :: b :: st => tb_nx (n == 1 && tb_cat a == 1 && tb_cat b == 1) (pc + 1) ls (a :: b :: a :: st) M
    | _ => none
  | .iadd => match st with
    | .int b :: .int a :: st => tb_nx (n == 1) (pc + 1) ls (.int (a + b) :: st) M
    | _ => none
  | .isub => match st with
    | .int b :: .int a :: st => tb_nx (n == 1) (pc + 1) ls (.int (a - b) :: st) M
    | _ => none
  | .imul => match st with
    | .int b :: .int a :: st => tb_nx (n == 1) (pc + 1) ls (.int (a * b) :: st) M
    | _ => none
  | .iand => match st with
    | .int b :: .int a :: st => tb_nx (n == 1) (pc + 1) ls (.int (a &&& b) :: st) M
    | _ => none
  | .idiv => match st with
    | .int b :: .int a :: st => if b = 0 then none else tb_nx (n == 1) (pc + 1) ls (.int (a / b) :: st) M
    | _ => none
  | .irem => match st with
    | .int b :: .int a :: st => if b = 0 then none else tb_nx (n == 1) (pc + 1) ls (.int (a - a / b * b) :: st) M
    | _ => none
  | .i2b => match st with
    | .int a :: st => tb_nx (n == 1) (pc + 1) ls (.int a.toInt8.toInt32 :: st) M
    | _ => none
  | .i2l => match st with
    | .int a :: st => tb_nx (n == 1) (pc + 1) ls (.long a.toInt64 :: st) M
    | _ => none
  | .lcmp => match st with
    | .long b :: .long a :: st => tb_nx (n == 1) (pc + 1) ls (.int (lg_cmp a b) :: st) M
    | _ => none
  | .goto off => tb_nx (n == 3 && decide (0 ≤ (pc : Int) + off)) (tb_tg pc off) ls st M
  | .ifCond k off => match st with
    | .int x :: st =>
      if 0 ≤ (pc : Int) + off then
        match k with
        | .eq => if x = 0 then tb_nx (n == 3) (tb_tg pc off) ls st M else tb_nx (n == 3) (pc + 3) ls st M
        | .ne => if ¬ x = 0 then tb_nx (n == 3) (tb_tg pc off) ls st M else tb_nx (n == 3) (pc + 3) ls st M
        | .lt => if x < 0 then tb_nx (n == 3) (tb_tg pc off) ls st M else tb_nx (n == 3) (pc + 3) ls st M
        | .ge => if 0 ≤ x then tb_nx (n == 3) (tb_tg pc off) ls st M else tb_nx (n == 3) (pc + 3) ls st M
        | .gt => if 0 < x then tb_nx (n == 3) (tb_tg pc off) ls st M else tb_nx (n == 3) (pc + 3) ls st M
        | .le => if x ≤ 0 then tb_nx (n == 3) (tb_tg pc off) ls st M else tb_nx (n == 3) (pc + 3) ls st M
      else none
    | _ => none
  | .if_icmp k off => match st with
    | .int b :: .int a :: st =>
      if 0 ≤ (pc : Int) + off then
        match k with
        | .eq => if a = b then tb_nx (n == 3) (tb_tg pc off) ls st M else tb_nx (n == 3) (pc + 3) ls st M
        | .ne => if ¬ a = b then tb_nx (n == 3) (tb_tg pc off) ls st M else tb_nx (n == 3) (pc + 3) ls st M
        | .lt => if a < b then tb_nx (n == 3) (tb_tg pc off) ls st M else tb_nx (n == 3) (pc + 3) ls st M
        | .ge => if b ≤ a then tb_nx (n == 3) (tb_tg pc off) ls st M else tb_nx (n == 3) (pc + 3) ls st M
        | .gt => if b < a then tb_nx (n == 3) (tb_tg pc off) ls st M else tb_nx (n == 3) (pc + 3) ls st M
        | .le => if a ≤ b then tb_nx (n == 3) (tb_tg pc off) ls st M else tb_nx (n == 3) (pc + 3) ls st M
      else none
    | _ => none
  | .tableswitch d lo hi offs => match st with
    | .int x :: st =>
      if x.toInt < lo ∨ hi < x.toInt then tb_nx (decide (0 ≤ (pc : Int) + d)) (tb_tg pc d) ls st M
      else match offs[(x.toInt - lo).toNat]? with
        | some off => tb_nx (decide (0 ≤ (pc : Int) + off)) (tb_tg pc off) ls st M
        | none => none
    | _ => none
  | .lookupswitch d ps => match st with
    | .int x :: st => tb_nx ((ps.toList.zip (ps.toList.drop 1)).all (fun (a, next) => a.1 < next.1) && decide (0 ≤ (pc : Int) + Op.lookupswitch.offset ps.toList d x.toInt)) (tb_tg pc (Op.lookupswitch.offset ps.toList d x.toInt)) ls st M
    | _ => none
  | .getfield k => match tb_look tb_fT y.1 k with
    | some ((c, f), _) => match st with
      | .ref o :: st => match M.1[o]? with
        | some t => if t.1 = c then tb_nx (n == 3) (pc + 3) ls ((if tb_kd c f = 2 then tb_rv (t.2.getD f 0) else .int (M.2 o f)) :: st) M else none
        | none => none
      | _ => none
    | none => none
  | .putfield k => match tb_look tb_fT y.1 k with
    | some ((c, f), _) => match st with
      | .int v :: .ref o :: st => match M.1[o]? with
        | some t => if t.1 = c ∧ (tb_kd c f = 0 ∨ tb_kd c f = 1 ∧ (v = 0 ∨ v = 1)) then tb_nx (n == 3) (pc + 3) ls st (M.1, tb_up M.2 o f v) else none
        | none => none
      | .ref v :: .ref o :: st => match M.1[o]? with
        | some t => if t.1 = c ∧ tb_kd c f = 2 ∧ f < t.2.length ∧ y.1 = c ∧ y.2.1.name = "<init>" then tb_nx (n == 3) (pc + 3) ls st (M.1.set o (c, t.2.set f (v + 1)), M.2) else none
        | none => none
      | _ => none
    | none => none
  | .iaload => match st with
    | .int i :: .ref o :: st => match M.1[o]? with
      | some t => if t.1 = 50 ∨ t.1 = 54 then (tb_ix i (if t.1 = 50 then t.2.headD 0 else (M.2 o 2560).toNatClampNeg)).bind fun j => tb_nx (n == 1) (pc + 1) ls (.int (M.2 o j) :: st) M else none
      | none => none
    | _ => none
  | .baload => match st with
    | .int i :: .ref o :: st => match M.1[o]? with
      | some t => if t.1 = 51 ∨ t.1 = 52 then (tb_ix i (t.2.headD 0)).bind fun j => tb_nx (n == 1) (pc + 1) ls (.int (M.2 o j) :: st) M else none
      | none => none
    | _ => none
  | .aaload => match st with
    | .int i :: .ref o :: st => match M.1[o]? with
      | some t => if t.1 = 53 then (tb_ix i t.2.length).bind fun j => tb_nx (n == 1) (pc + 1) ls (tb_rv (t.2.getD j 0) :: st) M else none
      | none => none
    | _ => none
  | .iastore => match st with
    | .int v :: .int i :: .ref o :: st => match M.1[o]? with
      | some t => if t.1 = 50 then (tb_ix i (t.2.headD 0)).bind fun j => tb_nx (n == 1) (pc + 1) ls st (M.1, tb_up M.2 o j v) else none
      | none => none
    | _ => none
  | .bastore => match st with
    | .int v :: .int i :: .ref o :: st => match M.1[o]? with
      | some t => if t.1 = 51 ∨ t.1 = 52 then (tb_ix i (t.2.headD 0)).bind fun j => tb_nx (n == 1) (pc + 1) ls st (M.1, tb_up M.2 o j (vp_nar (if t.1 = 51 then .boolean else .byte) v)) else none
      | none => none
    | _ => none
  | .arraylength => match st with
    | .ref o :: st => match M.1[o]? with
      | some t => if t.1 = 54 ∧ Int32.ofNat (M.2 o 2560).toNatClampNeg = M.2 o 2560 then tb_nx (n == 1) (pc + 1) ls (.int (M.2 o 2560) :: st) M else none
      | none => none
    | _ => none
  | .new k => match tb_look tb_nT y.1 k with
    | some (c, _) => tb_nx (n == 3 && decide (0 < M.1.length)) (pc + 3) ls (.ref M.1.length :: st) (M.1 ++ [(c, List.replicate (tb_vc c).2.2 0)], tb_zr M.2 M.1.length)
    | none => none
  | .newarray a => match st with
    | .int v :: st => match tb_kind a with
      | some k => tb_nx (n == 2 && decide (0 < M.1.length) && decide (0 ≤ v) && decide (v ≤ 10000)) (pc + 2) ls (.ref M.1.length :: st) (M.1 ++ [(k, [v.toNatClampNeg])], tb_zr M.2 M.1.length)
      | none => none
    | _ => none
  | .multianewarray k dm => match st with
    | .int b :: .int a :: st =>
      if y.1 = 3 ∧ k = 9 ∧ dm = 2 ∧ n = 4 ∧ a = 4 ∧ b = 70 ∧ 0 < M.1.length then
        some (.inl (pc + 4, ls, .ref M.1.length :: st, (M.1 ++ [(53, [M.1.length + 2, M.1.length + 3, M.1.length + 4, M.1.length + 5]), (50, [70]), (50, [70]), (50, [70]), (50, [70])],
          tb_zr (tb_zr (tb_zr (tb_zr (tb_zr M.2 M.1.length) (M.1.length + 1)) (M.1.length + 2)) (M.1.length + 3)) (M.1.length + 4))))
      else none
    | _ => none
  | .invokevirtual k => match tb_look tb_mT y.1 k with
    | some ((0, z), _) => match st.drop z.2.2.2.2.2 with
      | .ref o :: rest => match M.1[o]? with
        | some t => if t.1 = z.1 ∧ (rest.map tb_cat).sum ≤ 8 ∧ (st.take z.2.2.2.2.2).length = z.2.2.2.2.2 then (call z (.ref o :: (st.take z.2.2.2.2.2).reverse) M).bind fun r => tb_nx (n == 3) (pc + 3) ls (r.1.toList ++ rest) r.2 else none
        | none => none
      | _ => none
    | _ => none
  | .invokestatic k => match tb_look tb_mT y.1 k with
    | some ((c, z), _) => if (c = 1 ∨ c = 2) ∧ ((st.drop z.2.2.2.2.2).map tb_cat).sum ≤ 8 ∧ (st.take z.2.2.2.2.2).length = z.2.2.2.2.2 then (call z (st.take z.2.2.2.2.2).reverse M).bind fun r => tb_nx (n == 3) (pc + 3) ls (r.1.toList ++ st.drop z.2.2.2.2.2) r.2 else none
    | none => match tb_look tb_xT y.1 k with
      | some (w, _) => match st with
        | .int b :: .int a :: st => if (st.map tb_cat).sum ≤ 8 then tb_nx (n == 3) (pc + 3) ls (.int (if w = 0 then (if a < b then b else a) else (if b < a then b else a)) :: st) M else none
        | _ => none
      | none => none
  | .invokespecial k => match tb_look tb_mT y.1 k with
    | some ((c, z), _) => match st.drop z.2.2.2.2.2 with
      | .ref o :: rest => if (c = 3 ∨ c = 4) ∧ (rest.map tb_cat).sum ≤ 8 ∧ (st.take z.2.2.2.2.2).length = z.2.2.2.2.2 then (call z (.ref o :: (st.take z.2.2.2.2.2).reverse) M).bind fun r => tb_nx (n == 3) (pc + 3) ls (r.1.toList ++ rest) r.2 else none
      | _ => none
    | none => match tb_look tb_oT y.1 k with
      | some _ => match st with
        | .ref _ :: st => if (st.map tb_cat).sum ≤ 8 then tb_nx (n == 3) (pc + 3) ls st M else none
        | _ => none
      | none => none
  | .ireturn => match st with
    | [.int v] => if n = 1 ∧ (y.2.2.2.2.1 = some .int ∨ y.2.2.2.2.1 = some .boolean ∧ (v = 0 ∨ v = 1)) then some (.inr (some (.int v), M)) else none
    | _ => none
  | .lreturn => match st with
    | [.long v] => if n = 1 ∧ y.2.2.2.2.1 = some .long then some (.inr (some (.long v), M)) else none
    | _ => none
  | .return_ => match st with
    | [] => if n = 1 ∧ y.2.2.2.2.1 = none then some (.inr (none, M)) else none
    | _ => none
  | _ => none
/-- no step takes cells away -/
def tb_mono (M : tb_MM) (r : tb_XS ⊕ tb_XR) : Bool := match r with
  | .inl x => decide (tb_cl M ≤ tb_cl x.2.2.2 ∧ tb_sl M ≤ tb_sl x.2.2.2)
  | .inr x => decide (tb_cl M ≤ tb_cl x.2 ∧ tb_sl M ≤ tb_sl x.2)
def tb_stp (call : tb_MD → List Value → tb_MM → Option tb_XR) (y : tb_MD) (x : tb_XS) : Option (tb_XS ⊕ tb_XR) :=
  match decode y.2.2.1 x.1 with
  | .ok (i, n) => (tb_sti call y i n x.1 x.2.1 x.2.2.1 x.2.2.2).bind fun r => if tb_mono x.2.2.2 r = true then some r else none
  | .error _ => none
def tb_exec (call : tb_MD → List Value → tb_MM → Option tb_XR) (y : tb_MD) : Nat → tb_XS → Option tb_XR
  | 0, _ => none
  | f + 1, x => match tb_stp call y x with
    | some (.inl x') => tb_exec call y f x'
    | some (.inr r) => some r
    | none => none
noncomputable def tb_ex (call : tb_MD → List Value → tb_MM → Option tb_XR) (y : tb_MD) (x : tb_XS) : Option tb_XR := by
  classical exact if h : ∃ f, (tb_exec call y f x).isSome = true then tb_exec call y (Classical.choose h) x else none
/-- a method's run, calls at most d deep -/
noncomputable def tb_rn : Nat → tb_MD → List Value → tb_MM → Option tb_XR
  | 0, _, _, _ => none
  | d + 1, y, as, M => if as.length ≤ y.2.2.2.1 ∧ (as.all fun v => tb_cat v == 1 && !tb_isJ v) = true then tb_ex (tb_rn d) y (0, as ++ List.replicate (y.2.2.2.1 - as.length) tb_jk, [], M) else none
theorem tb_exec_mono {call : tb_MD → List Value → tb_MM → Option tb_XR} {y : tb_MD} : ∀ (f : Nat) (x : tb_XS) (r : tb_XR), tb_exec call y f x = some r → ∀ g, f ≤ g → tb_exec call y g x = some r := by
  intro f
  induction f with
  | zero => intro x r h; cases h
  | succ f ih =>
    intro x r h g hg
    obtain ⟨g', rfl⟩ : ∃ g', g = g' + 1 := ⟨g - 1, by omega⟩
    unfold tb_exec at h ⊢
    cases hs : tb_stp call y x with
    | none => rw [hs] at h; cases h
    | some q =>
      rw [hs] at h
      cases q with
      | inl x' => exact ih x' r h g' (by omega)
      | inr r' => exact h
theorem tb_ex_some {call : tb_MD → List Value → tb_MM → Option tb_XR} {y : tb_MD} {x : tb_XS} {r : tb_XR} : tb_ex call y x = some r ↔ ∃ f, tb_exec call y f x = some r := by
  unfold tb_ex
  constructor
  · intro h
    split at h
    · exact ⟨_, h⟩
    · cases h
  · rintro ⟨f, hf⟩
    have hE : ∃ f, (tb_exec call y f x).isSome = true := ⟨f, by rw [hf]; rfl⟩
    rw [dif_pos hE]
    have hc := Classical.choose_spec hE
    generalize Classical.choose hE = g at hc
    obtain ⟨r', hr'⟩ := Option.isSome_iff_exists.mp hc
    rw [hr']
    have h1 := tb_exec_mono _ _ _ hf (max f g) (Nat.le_max_left _ _)
    have h2 := tb_exec_mono _ _ _ hr' (max f g) (Nat.le_max_right _ _)
    rw [← h1, ← h2]
theorem tb_ex_step {call : tb_MD → List Value → tb_MM → Option tb_XR} {y : tb_MD} {x x' : tb_XS} {r : tb_XR} (h : tb_stp call y x = some (.inl x')) (k : tb_ex call y x' = some r) : tb_ex call y x = some r := by
  obtain ⟨f, hf⟩ := tb_ex_some.mp k
  refine tb_ex_some.mpr ⟨f + 1, ?_⟩
  unfold tb_exec
  rw [h]
  exact hf
theorem tb_ex_ret {call : tb_MD → List Value → tb_MM → Option tb_XR} {y : tb_MD} {x : tb_XS} {r : tb_XR} (h : tb_stp call y x = some (.inr r)) : tb_ex call y x = some r := by
  refine tb_ex_some.mpr ⟨1, ?_⟩
  unfold tb_exec
  rw [h]
