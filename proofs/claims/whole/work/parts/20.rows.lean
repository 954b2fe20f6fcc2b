/-! Part 20: runs of the abstract machine, an instruction a row, backwards: from what follows to what stands -/
noncomputable def tb_E {α : Type} (d : Nat) (y : tb_MD) (dec : tb_XR → Option α) (pc : Nat) (ls st : List Value) (H : tb_SH) (S : tb_St) : Option α := (tb_ex (tb_rn d) y (pc, ls, st, (H, S))).bind dec
def tb_max (a b : Int32) : Int32 := if a < b then b else a
def tb_min (a b : Int32) : Int32 := if b < a then b else a
def tb_rem (a b : Int32) : Int32 := a - a / b * b
def tb_b8 (a : Int32) : Int32 := vp_nar .byte a.toInt8.toInt32
section Rows
variable {α : Type} {d : Nat} {y : tb_MD} {dec : tb_XR → Option α} {pc pc' : Nat} {ls ls' st : List Value} {H : tb_SH} {S : tb_St} {r : α}
theorem tb_xs {i : Jvm.ClassFile.Instr} {n : Nat} {st' : List Value} {H' : tb_SH} {S' : tb_St} (hd : decode y.2.2.1 pc = .ok (i, n)) (hs : tb_sti (tb_rn d) y i n pc ls st (H, S) = some (.inl (pc', ls', st', (H', S')))) (hm : tb_mono (H, S) (.inl (pc', ls', st', (H', S'))) = true) (k : tb_E d y dec pc' ls' st' H' S' = some r) : tb_E d y dec pc ls st H S = some r := by
  obtain ⟨q, h1, h2⟩ := Option.bind_eq_some_iff.mp k
  refine Option.bind_eq_some_iff.mpr ⟨q, tb_ex_step ?_ h1, h2⟩
  unfold tb_stp
  dsimp only
  rw [hd]
  dsimp only
  rw [hs]
  show (if tb_mono (H, S) _ = true then _ else _) = _
  rw [if_pos hm]
theorem tb_mo {pc' : Nat} {ls' st' : List Value} {S' : tb_St} : tb_mono (H, S) (.inl (pc', ls', st', (H, S'))) = true := decide_eq_true ⟨Nat.le_refl _, Nat.le_refl _⟩
theorem tb_nxt {M : tb_MM} {g : Bool} (h : g = true) : tb_nx g pc ls st M = some (.inl (pc, ls, st, M)) := by unfold tb_nx; rw [if_pos h]
theorem x_iconst {v : Int} {w : Int32} (hd : decode y.2.2.1 pc = .ok (.iconst v, 1)) (hp : pc + 1 = pc') (hv : Int32.ofInt v = w) (k : tb_E d y dec pc' ls (.int w :: st) H S = some r) : tb_E d y dec pc ls st H S = some r := by subst hp; subst hv; exact tb_xs hd (tb_nxt rfl) tb_mo k
theorem x_bipush {v : Int} {w : Int32} (hd : decode y.2.2.1 pc = .ok (.bipush v, 2)) (hp : pc + 2 = pc') (hv : (Int8.ofInt v).toInt32 = w) (k : tb_E d y dec pc' ls (.int w :: st) H S = some r) : tb_E d y dec pc ls st H S = some r := by subst hp; subst hv; exact tb_xs hd (tb_nxt rfl) tb_mo k
theorem x_sipush {v : Int} {w : Int32} (hd : decode y.2.2.1 pc = .ok (.sipush v, 3)) (hp : pc + 3 = pc') (hv : (Int16.ofInt v).toInt32 = w) (k : tb_E d y dec pc' ls (.int w :: st) H S = some r) : tb_E d y dec pc ls st H S = some r := by subst hp; subst hv; exact tb_xs hd (tb_nxt rfl) tb_mo k
theorem x_ldc {c q : Nat} {w : Int32} (hd : decode y.2.2.1 pc = .ok (.ldc c, 2)) (hp : pc + 2 = pc') (hv : tb_look tb_kT y.1 c = some (w, q)) (k : tb_E d y dec pc' ls (.int w :: st) H S = some r) : tb_E d y dec pc ls st H S = some r := by
  subst hp
  refine tb_xs hd ?_ tb_mo k
  simp only [tb_sti]
  rw [hv]
  exact tb_nxt rfl
theorem x_ldc_w {c q : Nat} {w : Int32} (hd : decode y.2.2.1 pc = .ok (.ldc_w c, 3)) (hp : pc + 3 = pc') (hv : tb_look tb_kT y.1 c = some (w, q)) (k : tb_E d y dec pc' ls (.int w :: st) H S = some r) : tb_E d y dec pc ls st H S = some r := by
  subst hp
  refine tb_xs hd ?_ tb_mo k
  simp only [tb_sti]
  rw [hv]
  exact tb_nxt rfl
theorem x_ldc2_w {c q : Nat} {w : Int64} (hd : decode y.2.2.1 pc = .ok (.ldc2_w c, 3)) (hp : pc + 3 = pc') (hv : tb_look tb_lT y.1 c = some (w, q)) (k : tb_E d y dec pc' ls (.long w :: st) H S = some r) : tb_E d y dec pc ls st H S = some r := by
  subst hp
  refine tb_xs hd ?_ tb_mo k
  simp only [tb_sti]
  rw [hv]
  exact tb_nxt rfl
theorem x_iload_n {i : Fin 4} {x : Int32} (hd : decode y.2.2.1 pc = .ok (.iload_n i, 1)) (hp : pc + 1 = pc') (hv : ls[(i : Nat)]? = some (.int x)) (k : tb_E d y dec pc' ls (.int x :: st) H S = some r) : tb_E d y dec pc ls st H S = some r := by
  subst hp
  refine tb_xs hd ?_ tb_mo k
  simp only [tb_sti]
  rw [hv]
  exact tb_nxt rfl
theorem x_iload {i : Nat} {x : Int32} (hd : decode y.2.2.1 pc = .ok (.iload i, 2)) (hp : pc + 2 = pc') (hv : ls[i]? = some (.int x)) (k : tb_E d y dec pc' ls (.int x :: st) H S = some r) : tb_E d y dec pc ls st H S = some r := by
  subst hp
  refine tb_xs hd ?_ tb_mo k
  simp only [tb_sti]
  rw [hv]
  exact tb_nxt rfl
theorem x_aload_n {i : Fin 4} {x : Nat} (hd : decode y.2.2.1 pc = .ok (.aload_n i, 1)) (hp : pc + 1 = pc') (hv : ls[(i : Nat)]? = some (.ref x)) (k : tb_E d y dec pc' ls (.ref x :: st) H S = some r) : tb_E d y dec pc ls st H S = some r := by
  subst hp
  refine tb_xs hd ?_ tb_mo k
  simp only [tb_sti]
  rw [hv]
  exact tb_nxt rfl
theorem tb_blt {a b : Nat} (h : Nat.blt a b = true) : a < b := by simpa using h
theorem x_istore_n {i : Fin 4} {x : Int32} (hd : decode y.2.2.1 pc = .ok (.istore_n i, 1)) (hp : pc + 1 = pc') (hl : Nat.blt (i : Nat) ls.length = true) (hv : ls.set (i : Nat) (.int x) = ls') (k : tb_E d y dec pc' ls' st H S = some r) : tb_E d y dec pc ls (.int x :: st) H S = some r := by
  subst hp; subst hv
  refine tb_xs hd ?_ tb_mo k
  simp only [tb_sti]
  exact tb_nxt (by simp [tb_blt hl])
theorem x_istore {i : Nat} {x : Int32} (hd : decode y.2.2.1 pc = .ok (.istore i, 2)) (hp : pc + 2 = pc') (hl : Nat.blt i ls.length = true) (hv : ls.set i (.int x) = ls') (k : tb_E d y dec pc' ls' st H S = some r) : tb_E d y dec pc ls (.int x :: st) H S = some r := by
  subst hp; subst hv
  refine tb_xs hd ?_ tb_mo k
  simp only [tb_sti]
  exact tb_nxt (by simp [tb_blt hl])
theorem x_astore_n {i : Fin 4} {x : Nat} (hd : decode y.2.2.1 pc = .ok (.astore_n i, 1)) (hp : pc + 1 = pc') (hl : Nat.blt (i : Nat) ls.length = true) (hv : ls.set (i : Nat) (.ref x) = ls') (k : tb_E d y dec pc' ls' st H S = some r) : tb_E d y dec pc ls (.ref x :: st) H S = some r := by
  subst hp; subst hv
  refine tb_xs hd ?_ tb_mo k
  simp only [tb_sti]
  exact tb_nxt (by simp [tb_blt hl])
theorem x_iinc {i : Nat} {c : Int} {x w : Int32} (hd : decode y.2.2.1 pc = .ok (.iinc i c, 3)) (hp : pc + 3 = pc') (hx : ls[i]? = some (.int x)) (hc : Int32.ofInt c = w) (hv : ls.set i (.int (x + w)) = ls') (k : tb_E d y dec pc' ls' st H S = some r) : tb_E d y dec pc ls st H S = some r := by
  subst hp; subst hc; subst hv
  refine tb_xs hd ?_ tb_mo k
  simp only [tb_sti]
  rw [hx]
  exact tb_nxt rfl
theorem x_dup {a : Value} (hd : decode y.2.2.1 pc = .ok (.dup, 1)) (hp : pc + 1 = pc') (hc : (tb_cat a == 1) = true) (k : tb_E d y dec pc' ls (a :: a :: st) H S = some r) : tb_E d y dec pc ls (a :: st) H S = some r := by
  subst hp
  exact tb_xs hd (tb_nxt (by rw [hc]; rfl)) tb_mo k
theorem x_dup_x1 {a b : Value} (hd : decode y.2.2.1 pc = .ok (.dup_x1, 1)) (hp : pc + 1 = pc') (hc : (tb_cat a == 1 && tb_cat b == 1) = true) (k : tb_E d y dec pc' ls (a :: b :: a :: st) H S = some r) : tb_E d y dec pc ls (a :: b :: st) H S = some r := by
  subst hp
  exact tb_xs hd (tb_nxt (by rw [Bool.and_assoc, hc]; rfl)) tb_mo k
theorem x_iadd {a b : Int32} (hd : decode y.2.2.1 pc = .ok (.iadd, 1)) (hp : pc + 1 = pc') (k : tb_E d y dec pc' ls (.int (a + b) :: st) H S = some r) : tb_E d y dec pc ls (.int b :: .int a :: st) H S = some r := by subst hp; exact tb_xs hd (tb_nxt rfl) tb_mo k
theorem x_isub {a b : Int32} (hd : decode y.2.2.1 pc = .ok (.isub, 1)) (hp : pc + 1 = pc') (k : tb_E d y dec pc' ls (.int (a - b) :: st) H S = some r) : tb_E d y dec pc ls (.int b :: .int a :: st) H S = some r := by subst hp; exact tb_xs hd (tb_nxt rfl) tb_mo k
theorem x_imul {a b : Int32} (hd : decode y.2.2.1 pc = .ok (.imul, 1)) (hp : pc + 1 = pc') (k : tb_E d y dec pc' ls (.int (a * b) :: st) H S = some r) : tb_E d y dec pc ls (.int b :: .int a :: st) H S = some r := by subst hp; exact tb_xs hd (tb_nxt rfl) tb_mo k
theorem x_iand {a b : Int32} (hd : decode y.2.2.1 pc = .ok (.iand, 1)) (hp : pc + 1 = pc') (k : tb_E d y dec pc' ls (.int (a &&& b) :: st) H S = some r) : tb_E d y dec pc ls (.int b :: .int a :: st) H S = some r := by subst hp; exact tb_xs hd (tb_nxt rfl) tb_mo k
theorem x_idiv {a b : Int32} (hd : decode y.2.2.1 pc = .ok (.idiv, 1)) (hp : pc + 1 = pc') (hb : ¬ b = 0) (k : tb_E d y dec pc' ls (.int (a / b) :: st) H S = some r) : tb_E d y dec pc ls (.int b :: .int a :: st) H S = some r := by
  subst hp
  refine tb_xs hd ?_ tb_mo k
  simp only [tb_sti]
  rw [if_neg hb]
  exact tb_nxt rfl
theorem x_irem {a b : Int32} (hd : decode y.2.2.1 pc = .ok (.irem, 1)) (hp : pc + 1 = pc') (hb : ¬ b = 0) (k : tb_E d y dec pc' ls (.int (tb_rem a b) :: st) H S = some r) : tb_E d y dec pc ls (.int b :: .int a :: st) H S = some r := by
  subst hp
  refine tb_xs hd ?_ tb_mo k
  simp only [tb_sti]
  rw [if_neg hb]
  exact tb_nxt rfl
theorem x_i2b {a : Int32} (hd : decode y.2.2.1 pc = .ok (.i2b, 1)) (hp : pc + 1 = pc') (k : tb_E d y dec pc' ls (.int a.toInt8.toInt32 :: st) H S = some r) : tb_E d y dec pc ls (.int a :: st) H S = some r := by subst hp; exact tb_xs hd (tb_nxt rfl) tb_mo k
theorem x_i2l {a : Int32} (hd : decode y.2.2.1 pc = .ok (.i2l, 1)) (hp : pc + 1 = pc') (k : tb_E d y dec pc' ls (.long a.toInt64 :: st) H S = some r) : tb_E d y dec pc ls (.int a :: st) H S = some r := by subst hp; exact tb_xs hd (tb_nxt rfl) tb_mo k
theorem x_lcmp {a b : Int64} (hd : decode y.2.2.1 pc = .ok (.lcmp, 1)) (hp : pc + 1 = pc') (k : tb_E d y dec pc' ls (.int (lg_cmp a b) :: st) H S = some r) : tb_E d y dec pc ls (.long b :: .long a :: st) H S = some r := by subst hp; exact tb_xs hd (tb_nxt rfl) tb_mo k
theorem x_goto {off : Int} (hd : decode y.2.2.1 pc = .ok (.goto off, 3)) (ht : (pc : Int) + off = (pc' : Int)) (k : tb_E d y dec pc' ls st H S = some r) : tb_E d y dec pc ls st H S = some r := by
  have e : tb_tg pc off = pc' := by unfold tb_tg; omega
  subst e
  refine tb_xs hd (tb_nxt ?_) tb_mo k
  have : 0 ≤ (pc : Int) + off := by omega
  simp [this]
theorem x_if_eq_t {x : Int32} {off : Int} (hd : decode y.2.2.1 pc = .ok (.ifCond .eq off, 3)) (ht : (pc : Int) + off = (pc' : Int)) (hc : x = 0) (k : tb_E d y dec pc' ls st H S = some r) : tb_E d y dec pc ls (.int x :: st) H S = some r := by
  have e : tb_tg pc off = pc' := by unfold tb_tg; omega
  subst e
  refine tb_xs hd ?_ tb_mo k
  simp only [tb_sti]
  rw [if_pos (by omega), if_pos hc]
  exact tb_nxt rfl
theorem x_if_eq_f {x : Int32} {off : Int} (hd : decode y.2.2.1 pc = .ok (.ifCond .eq off, 3)) (ht : 0 ≤ (pc : Int) + off) (hp : pc + 3 = pc') (hc : ¬ (x = 0)) (k : tb_E d y dec pc' ls st H S = some r) : tb_E d y dec pc ls (.int x :: st) H S = some r := by
  subst hp
  refine tb_xs hd ?_ tb_mo k
  simp only [tb_sti]
  rw [if_pos ht, if_neg hc]
  exact tb_nxt rfl
theorem x_icmp_eq_t {a b : Int32} {off : Int} (hd : decode y.2.2.1 pc = .ok (.if_icmp .eq off, 3)) (ht : (pc : Int) + off = (pc' : Int)) (hc : a = b) (k : tb_E d y dec pc' ls st H S = some r) : tb_E d y dec pc ls (.int b :: .int a :: st) H S = some r := by
  have e : tb_tg pc off = pc' := by unfold tb_tg; omega
  subst e
  refine tb_xs hd ?_ tb_mo k
  simp only [tb_sti]
  rw [if_pos (by omega), if_pos hc]
  exact tb_nxt rfl
theorem x_icmp_eq_f {a b : Int32} {off : Int} (hd : decode y.2.2.1 pc = .ok (.if_icmp .eq off, 3)) (ht : 0 ≤ (pc : Int) + off) (hp : pc + 3 = pc') (hc : ¬ (a = b)) (k : tb_E d y dec pc' ls st H S = some r) : tb_E d y dec pc ls (.int b :: .int a :: st) H S = some r := by
  subst hp
  refine tb_xs hd ?_ tb_mo k
  simp only [tb_sti]
  rw [if_pos ht, if_neg hc]
  exact tb_nxt rfl
theorem x_if_ne_t {x : Int32} {off : Int} (hd : decode y.2.2.1 pc = .ok (.ifCond .ne off, 3)) (ht : (pc : Int) + off = (pc' : Int)) (hc : ¬ x = 0) (k : tb_E d y dec pc' ls st H S = some r) : tb_E d y dec pc ls (.int x :: st) H S = some r := by
  have e : tb_tg pc off = pc' := by unfold tb_tg; omega
  subst e
  refine tb_xs hd ?_ tb_mo k
  simp only [tb_sti]
  rw [if_pos (by omega), if_pos hc]
  exact tb_nxt rfl
theorem x_if_ne_f {x : Int32} {off : Int} (hd : decode y.2.2.1 pc = .ok (.ifCond .ne off, 3)) (ht : 0 ≤ (pc : Int) + off) (hp : pc + 3 = pc') (hc : ¬ (¬ x = 0)) (k : tb_E d y dec pc' ls st H S = some r) : tb_E d y dec pc ls (.int x :: st) H S = some r := by
  subst hp
  refine tb_xs hd ?_ tb_mo k
  simp only [tb_sti]
  rw [if_pos ht, if_neg hc]
  exact tb_nxt rfl
theorem x_icmp_ne_t {a b : Int32} {off : Int} (hd : decode y.2.2.1 pc = .ok (.if_icmp .ne off, 3)) (ht : (pc : Int) + off = (pc' : Int)) (hc : ¬ a = b) (k : tb_E d y dec pc' ls st H S = some r) : tb_E d y dec pc ls (.int b :: .int a :: st) H S = some r := by
  have e : tb_tg pc off = pc' := by unfold tb_tg; omega
  subst e
  refine tb_xs hd ?_ tb_mo k
  simp only [tb_sti]
  rw [if_pos (by omega), if_pos hc]
  exact tb_nxt rfl
theorem x_icmp_ne_f {a b : Int32} {off : Int} (hd : decode y.2.2.1 pc = .ok (.if_icmp .ne off, 3)) (ht : 0 ≤ (pc : Int) + off) (hp : pc + 3 = pc') (hc : ¬ (¬ a = b)) (k : tb_E d y dec pc' ls st H S = some r) : tb_E d y dec pc ls (.int b :: .int a :: st) H S = some r := by
  subst hp
  refine tb_xs hd ?_ tb_mo k
  simp only [tb_sti]
  rw [if_pos ht, if_neg hc]
  exact tb_nxt rfl
theorem x_if_lt_t {x : Int32} {off : Int} (hd : decode y.2.2.1 pc = .ok (.ifCond .lt off, 3)) (ht : (pc : Int) + off = (pc' : Int)) (hc : x < 0) (k : tb_E d y dec pc' ls st H S = some r) : tb_E d y dec pc ls (.int x :: st) H S = some r := by
  have e : tb_tg pc off = pc' := by unfold tb_tg; omega
  subst e
  refine tb_xs hd ?_ tb_mo k
  simp only [tb_sti]
  rw [if_pos (by omega), if_pos hc]
  exact tb_nxt rfl
theorem x_if_lt_f {x : Int32} {off : Int} (hd : decode y.2.2.1 pc = .ok (.ifCond .lt off, 3)) (ht : 0 ≤ (pc : Int) + off) (hp : pc + 3 = pc') (hc : ¬ (x < 0)) (k : tb_E d y dec pc' ls st H S = some r) : tb_E d y dec pc ls (.int x :: st) H S = some r := by
  subst hp
  refine tb_xs hd ?_ tb_mo k
  simp only [tb_sti]
  rw [if_pos ht, if_neg hc]
  exact tb_nxt rfl
theorem x_icmp_lt_t {a b : Int32} {off : Int} (hd : decode y.2.2.1 pc = .ok (.if_icmp .lt off, 3)) (ht : (pc : Int) + off = (pc' : Int)) (hc : a < b) (k : tb_E d y dec pc' ls st H S = some r) : tb_E d y dec pc ls (.int b :: .int a :: st) H S = some r := by
  have e : tb_tg pc off = pc' := by unfold tb_tg; omega
  subst e
  refine tb_xs hd ?_ tb_mo k
  simp only [tb_sti]
  rw [if_pos (by omega), if_pos hc]
  exact tb_nxt rfl
theorem x_icmp_lt_f {a b : Int32} {off : Int} (hd : decode y.2.2.1 pc = .ok (.if_icmp .lt off, 3)) (ht : 0 ≤ (pc : Int) + off) (hp : pc + 3 = pc') (hc : ¬ (a < b)) (k : tb_E d y dec pc' ls st H S = some r) : tb_E d y dec pc ls (.int b :: .int a :: st) H S = some r := by
  subst hp
  refine tb_xs hd ?_ tb_mo k
  simp only [tb_sti]
  rw [if_pos ht, if_neg hc]
  exact tb_nxt rfl
theorem x_if_ge_t {x : Int32} {off : Int} (hd : decode y.2.2.1 pc = .ok (.ifCond .ge off, 3)) (ht : (pc : Int) + off = (pc' : Int)) (hc : 0 ≤ x) (k : tb_E d y dec pc' ls st H S = some r) : tb_E d y dec pc ls (.int x :: st) H S = some r := by
  have e : tb_tg pc off = pc' := by unfold tb_tg; omega
  subst e
  refine tb_xs hd ?_ tb_mo k
  simp only [tb_sti]
  rw [if_pos (by omega), if_pos hc]
  exact tb_nxt rfl
theorem x_if_ge_f {x : Int32} {off : Int} (hd : decode y.2.2.1 pc = .ok (.ifCond .ge off, 3)) (ht : 0 ≤ (pc : Int) + off) (hp : pc + 3 = pc') (hc : ¬ (0 ≤ x)) (k : tb_E d y dec pc' ls st H S = some r) : tb_E d y dec pc ls (.int x :: st) H S = some r := by
  subst hp
  refine tb_xs hd ?_ tb_mo k
  simp only [tb_sti]
  rw [if_pos ht, if_neg hc]
  exact tb_nxt rfl
theorem x_icmp_ge_t {a b : Int32} {off : Int} (hd : decode y.2.2.1 pc = .ok (.if_icmp .ge off, 3)) (ht : (pc : Int) + off = (pc' : Int)) (hc : b ≤ a) (k : tb_E d y dec pc' ls st H S = some r) : tb_E d y dec pc ls (.int b :: .int a :: st) H S = some r := by
  have e : tb_tg pc off = pc' := by unfold tb_tg; omega
  subst e
  refine tb_xs hd ?_ tb_mo k
  simp only [tb_sti]
  rw [if_pos (by omega), if_pos hc]
  exact tb_nxt rfl
theorem x_icmp_ge_f {a b : Int32} {off : Int} (hd : decode y.2.2.1 pc = .ok (.if_icmp .ge off, 3)) (ht : 0 ≤ (pc : Int) + off) (hp : pc + 3 = pc') (hc : ¬ (b ≤ a)) (k : tb_E d y dec pc' ls st H S = some r) : tb_E d y dec pc ls (.int b :: .int a :: st) H S = some r := by
  subst hp
  refine tb_xs hd ?_ tb_mo k
  simp only [tb_sti]
  rw [if_pos ht, if_neg hc]
  exact tb_nxt rfl
theorem x_if_gt_t {x : Int32} {off : Int} (hd : decode y.2.2.1 pc = .ok (.ifCond .gt off, 3)) (ht : (pc : Int) + off = (pc' : Int)) (hc : 0 < x) (k : tb_E d y dec pc' ls st H S = some r) : tb_E d y dec pc ls (.int x :: st) H S = some r := by
  have e : tb_tg pc off = pc' := by unfold tb_tg; omega
  subst e
  refine tb_xs hd ?_ tb_mo k
  simp only [tb_sti]
  rw [if_pos (by omega), if_pos hc]
  exact tb_nxt rfl
theorem x_if_gt_f {x : Int32} {off : Int} (hd : decode y.2.2.1 pc = .ok (.ifCond .gt off, 3)) (ht : 0 ≤ (pc : Int) + off) (hp : pc + 3 = pc') (hc : ¬ (0 < x)) (k : tb_E d y dec pc' ls st H S = some r) : tb_E d y dec pc ls (.int x :: st) H S = some r := by
  subst hp
  refine tb_xs hd ?_ tb_mo k
  simp only [tb_sti]
  rw [if_pos ht, if_neg hc]
  exact tb_nxt rfl
theorem x_icmp_gt_t {a b : Int32} {off : Int} (hd : decode y.2.2.1 pc = .ok (.if_icmp .gt off, 3)) (ht : (pc : Int) + off = (pc' : Int)) (hc : b < a) (k : tb_E d y dec pc' ls st H S = some r) : tb_E d y dec pc ls (.int b :: .int a :: st) H S = some r := by
  have e : tb_tg pc off = pc' := by unfold tb_tg; omega
  subst e
  refine tb_xs hd ?_ tb_mo k
  simp only [tb_sti]
  rw [if_pos (by omega), if_pos hc]
  exact tb_nxt rfl
theorem x_icmp_gt_f {a b : Int32} {off : Int} (hd : decode y.2.2.1 pc = .ok (.if_icmp .gt off, 3)) (ht : 0 ≤ (pc : Int) + off) (hp : pc + 3 = pc') (hc : ¬ (b < a)) (k : tb_E d y dec pc' ls st H S = some r) : tb_E d y dec pc ls (.int b :: .int a :: st) H S = some r := by
  subst hp
  refine tb_xs hd ?_ tb_mo k
  simp only [tb_sti]
  rw [if_pos ht, if_neg hc]
  exact tb_nxt rfl
theorem x_if_le_t {x : Int32} {off : Int} (hd : decode y.2.2.1 pc = .ok (.ifCond .le off, 3)) (ht : (pc : Int) + off = (pc' : Int)) (hc : x ≤ 0) (k : tb_E d y dec pc' ls st H S = some r) : tb_E d y dec pc ls (.int x :: st) H S = some r := by
  have e : tb_tg pc off = pc' := by unfold tb_tg; omega
  subst e
  refine tb_xs hd ?_ tb_mo k
  simp only [tb_sti]
  rw [if_pos (by omega), if_pos hc]
  exact tb_nxt rfl
theorem x_if_le_f {x : Int32} {off : Int} (hd : decode y.2.2.1 pc = .ok (.ifCond .le off, 3)) (ht : 0 ≤ (pc : Int) + off) (hp : pc + 3 = pc') (hc : ¬ (x ≤ 0)) (k : tb_E d y dec pc' ls st H S = some r) : tb_E d y dec pc ls (.int x :: st) H S = some r := by
  subst hp
  refine tb_xs hd ?_ tb_mo k
  simp only [tb_sti]
  rw [if_pos ht, if_neg hc]
  exact tb_nxt rfl
theorem x_icmp_le_t {a b : Int32} {off : Int} (hd : decode y.2.2.1 pc = .ok (.if_icmp .le off, 3)) (ht : (pc : Int) + off = (pc' : Int)) (hc : a ≤ b) (k : tb_E d y dec pc' ls st H S = some r) : tb_E d y dec pc ls (.int b :: .int a :: st) H S = some r := by
  have e : tb_tg pc off = pc' := by unfold tb_tg; omega
  subst e
  refine tb_xs hd ?_ tb_mo k
  simp only [tb_sti]
  rw [if_pos (by omega), if_pos hc]
  exact tb_nxt rfl
theorem x_icmp_le_f {a b : Int32} {off : Int} (hd : decode y.2.2.1 pc = .ok (.if_icmp .le off, 3)) (ht : 0 ≤ (pc : Int) + off) (hp : pc + 3 = pc') (hc : ¬ (a ≤ b)) (k : tb_E d y dec pc' ls st H S = some r) : tb_E d y dec pc ls (.int b :: .int a :: st) H S = some r := by
  subst hp
  refine tb_xs hd ?_ tb_mo k
  simp only [tb_sti]
  rw [if_pos ht, if_neg hc]
  exact tb_nxt rfl
theorem x_tsw_in {x : Int32} {dd lo hi off : Int} {offs : Array Int} {n : Nat} {w : Int32} (hd : decode y.2.2.1 pc = .ok (.tableswitch dd lo hi offs, n)) (hx : x = w) (h1 : lo ≤ w.toInt) (h2 : w.toInt ≤ hi) (ho : offs[(w.toInt - lo).toNat]? = some off) (ht : (pc : Int) + off = (pc' : Int)) (k : tb_E d y dec pc' ls st H S = some r) : tb_E d y dec pc ls (.int x :: st) H S = some r := by
  subst hx
  have e : tb_tg pc off = pc' := by unfold tb_tg; omega
  subst e
  refine tb_xs hd ?_ tb_mo k
  simp only [tb_sti]
  rw [if_neg (by omega), ho]
  refine tb_nxt ?_
  have : 0 ≤ (pc : Int) + off := by omega
  simp [this]
theorem x_tsw_out {x : Int32} {dd lo hi : Int} {offs : Array Int} {n : Nat} (hd : decode y.2.2.1 pc = .ok (.tableswitch dd lo hi offs, n)) (hx : ∀ k : Int, lo ≤ k → k ≤ hi → x.toInt = k → offs[(k - lo).toNat]? = some dd) (ht : (pc : Int) + dd = (pc' : Int)) (k : tb_E d y dec pc' ls st H S = some r) : tb_E d y dec pc ls (.int x :: st) H S = some r := by
  have e : tb_tg pc dd = pc' := by unfold tb_tg; omega
  subst e
  have h0 : 0 ≤ (pc : Int) + dd := by omega
  refine tb_xs hd ?_ tb_mo k
  simp only [tb_sti]
  by_cases hr : x.toInt < lo ∨ hi < x.toInt
  · rw [if_pos hr]
    exact tb_nxt (by simp [h0])
  · rw [if_neg hr, hx x.toInt (by omega) (by omega) rfl]
    exact tb_nxt (by simp [h0])
theorem x_lsw {x : Int32} {dd off : Int} {ps : Array (Int × Int)} {n : Nat} (hd : decode y.2.2.1 pc = .ok (.lookupswitch dd ps, n)) (hp : (ps.toList.zip (ps.toList.drop 1)).all (fun (a, next) => a.1 < next.1) = true) (hx : Op.lookupswitch.offset ps.toList dd x.toInt = off) (ht : (pc : Int) + off = (pc' : Int)) (k : tb_E d y dec pc' ls st H S = some r) : tb_E d y dec pc ls (.int x :: st) H S = some r := by
  have e : tb_tg pc off = pc' := by unfold tb_tg; omega
  subst e
  subst hx
  have h0 : 0 ≤ (pc : Int) + Op.lookupswitch.offset ps.toList dd x.toInt := by omega
  refine tb_xs hd ?_ tb_mo k
  simp only [tb_sti]
  refine tb_nxt ?_
  rw [hp]
  simp [h0]
theorem x_getI {o f c q kx : Nat} {rs : List Nat} {v : Int32} (hd : decode y.2.2.1 pc = .ok (.getfield kx, 3)) (hp : pc + 3 = pc') (hl : tb_look tb_fT y.1 kx = some ((c, f), q)) (hk : Nat.beq (tb_kd c f) 2 = false) (ht : H[o]? = some (c, rs)) (hv : S o f = v) (k : tb_E d y dec pc' ls (.int v :: st) H S = some r) : tb_E d y dec pc ls (.ref o :: st) H S = some r := by
  subst hp; subst hv
  refine tb_xs hd ?_ tb_mo k
  simp only [tb_sti]
  rw [hl]
  dsimp only
  rw [ht]
  dsimp only
  rw [if_pos rfl, if_neg (fun q => by rw [q] at hk; cases hk)]
  exact tb_nxt rfl
theorem x_getR {o f c q kx o2 : Nat} {rs : List Nat} (hd : decode y.2.2.1 pc = .ok (.getfield kx, 3)) (hp : pc + 3 = pc') (hl : tb_look tb_fT y.1 kx = some ((c, f), q)) (hk : tb_kd c f = 2) (ht : H[o]? = some (c, rs)) (hv : rs.getD f 0 = o2 + 1) (k : tb_E d y dec pc' ls (.ref o2 :: st) H S = some r) : tb_E d y dec pc ls (.ref o :: st) H S = some r := by
  subst hp
  refine tb_xs hd ?_ tb_mo k
  simp only [tb_sti]
  rw [hl]
  dsimp only
  rw [ht]
  dsimp only
  rw [if_pos rfl, if_pos hk, hv]
  exact tb_nxt rfl
theorem x_putI {o f c q kx : Nat} {rs : List Nat} {v : Int32} (hd : decode y.2.2.1 pc = .ok (.putfield kx, 3)) (hp : pc + 3 = pc') (hl : tb_look tb_fT y.1 kx = some ((c, f), q)) (hk : tb_kd c f = 0 ∨ tb_kd c f = 1 ∧ (v = 0 ∨ v = 1)) (ht : H[o]? = some (c, rs)) (k : tb_E d y dec pc' ls st H (tb_up S o f v) = some r) : tb_E d y dec pc ls (.int v :: .ref o :: st) H S = some r := by
  subst hp
  refine tb_xs hd ?_ tb_mo k
  simp only [tb_sti]
  rw [hl]
  dsimp only
  rw [ht]
  dsimp only
  rw [if_pos ⟨rfl, hk⟩]
  exact tb_nxt rfl
theorem x_iaload {o j n : Nat} {i : Int32} {v : Int32} (hd : decode y.2.2.1 pc = .ok (.iaload, 1)) (hp : pc + 1 = pc') (ht : H[o]? = some (50, [n])) (hj : tb_ix i n = some j) (hv : S o j = v) (k : tb_E d y dec pc' ls (.int v :: st) H S = some r) : tb_E d y dec pc ls (.int i :: .ref o :: st) H S = some r := by
  subst hp; subst hv
  refine tb_xs hd ?_ tb_mo k
  simp only [tb_sti]
  rw [ht]
  dsimp only
  rw [if_pos (Or.inl rfl), if_pos rfl]
  show (tb_ix i n).bind _ = _
  rw [hj]
  exact tb_nxt rfl
theorem x_iaload54 {o j : Nat} {i : Int32} {v : Int32} {rs : List Nat} (hd : decode y.2.2.1 pc = .ok (.iaload, 1)) (hp : pc + 1 = pc') (ht : H[o]? = some (54, rs)) (hj : tb_ix i (S o 2560).toNatClampNeg = some j) (hv : S o j = v) (k : tb_E d y dec pc' ls (.int v :: st) H S = some r) : tb_E d y dec pc ls (.int i :: .ref o :: st) H S = some r := by
  subst hp; subst hv
  refine tb_xs hd ?_ tb_mo k
  simp only [tb_sti]
  rw [ht]
  dsimp only
  rw [if_pos (Or.inr rfl), if_neg (by decide), hj]
  exact tb_nxt rfl
theorem x_baload {o j n t : Nat} {i : Int32} {v : Int32} (hd : decode y.2.2.1 pc = .ok (.baload, 1)) (hp : pc + 1 = pc') (hk : t = 51 ∨ t = 52) (ht : H[o]? = some (t, [n])) (hj : tb_ix i n = some j) (hv : S o j = v) (k : tb_E d y dec pc' ls (.int v :: st) H S = some r) : tb_E d y dec pc ls (.int i :: .ref o :: st) H S = some r := by
  subst hp; subst hv
  refine tb_xs hd ?_ tb_mo k
  simp only [tb_sti]
  rw [ht]
  dsimp only
  rw [if_pos hk]
  show (tb_ix i n).bind _ = _
  rw [hj]
  exact tb_nxt rfl
theorem x_aaload {o j n o2 : Nat} {rs : List Nat} {i : Int32} (hd : decode y.2.2.1 pc = .ok (.aaload, 1)) (hp : pc + 1 = pc') (ht : H[o]? = some (53, rs)) (hn : rs.length = n) (hj : tb_ix i n = some j) (hv : rs.getD j 0 = o2 + 1) (k : tb_E d y dec pc' ls (.ref o2 :: st) H S = some r) : tb_E d y dec pc ls (.int i :: .ref o :: st) H S = some r := by
  subst hp; subst hn
  refine tb_xs hd ?_ tb_mo k
  simp only [tb_sti]
  rw [ht]
  dsimp only
  rw [if_pos rfl, hj]
  show tb_nx _ _ _ (tb_rv (rs.getD j 0) :: st) _ = _
  rw [hv]
  exact tb_nxt rfl
theorem x_iastore {o j n : Nat} {i v : Int32} (hd : decode y.2.2.1 pc = .ok (.iastore, 1)) (hp : pc + 1 = pc') (ht : H[o]? = some (50, [n])) (hj : tb_ix i n = some j) (k : tb_E d y dec pc' ls st H (tb_up S o j v) = some r) : tb_E d y dec pc ls (.int v :: .int i :: .ref o :: st) H S = some r := by
  subst hp
  refine tb_xs hd ?_ tb_mo k
  simp only [tb_sti]
  rw [ht]
  dsimp only
  rw [if_pos rfl]
  show (tb_ix i n).bind _ = _
  rw [hj]
  exact tb_nxt rfl
theorem x_bastore51 {o j n : Nat} {i v w : Int32} (hd : decode y.2.2.1 pc = .ok (.bastore, 1)) (hp : pc + 1 = pc') (ht : H[o]? = some (51, [n])) (hj : tb_ix i n = some j) (hv : vp_nar .boolean v = w) (k : tb_E d y dec pc' ls st H (tb_up S o j w) = some r) : tb_E d y dec pc ls (.int v :: .int i :: .ref o :: st) H S = some r := by
  subst hp; subst hv
  refine tb_xs hd ?_ tb_mo k
  simp only [tb_sti]
  rw [ht]
  dsimp only
  rw [if_pos (Or.inl rfl)]
  show (tb_ix i n).bind _ = _
  rw [hj]
  exact tb_nxt rfl
theorem x_bastore52 {o j n : Nat} {i v : Int32} (hd : decode y.2.2.1 pc = .ok (.bastore, 1)) (hp : pc + 1 = pc') (ht : H[o]? = some (52, [n])) (hj : tb_ix i n = some j) (k : tb_E d y dec pc' ls st H (tb_up S o j (tb_b8 v)) = some r) : tb_E d y dec pc ls (.int v.toInt8.toInt32 :: .int i :: .ref o :: st) H S = some r := by
  subst hp
  refine tb_xs hd ?_ tb_mo k
  simp only [tb_sti]
  rw [ht]
  dsimp only
  rw [if_pos (Or.inr rfl)]
  show (tb_ix i n).bind _ = _
  rw [hj]
  exact tb_nxt rfl
theorem x_arraylength {o : Nat} {rs : List Nat} (hd : decode y.2.2.1 pc = .ok (.arraylength, 1)) (hp : pc + 1 = pc') (ht : H[o]? = some (54, rs)) (hi : Int32.ofNat (S o 2560).toNatClampNeg = S o 2560) (k : tb_E d y dec pc' ls (.int (S o 2560) :: st) H S = some r) : tb_E d y dec pc ls (.ref o :: st) H S = some r := by
  subst hp
  refine tb_xs hd ?_ tb_mo k
  simp only [tb_sti]
  rw [ht]
  dsimp only
  rw [if_pos ⟨rfl, hi⟩]
  exact tb_nxt rfl
theorem x_mm {a b w : Int32} {kx q c : Nat} (hd : decode y.2.2.1 pc = .ok (.invokestatic kx, 3)) (hp : pc + 3 = pc') (h0 : tb_look tb_mT y.1 kx = none) (hl : tb_look tb_xT y.1 kx = some (c, q)) (hc : Nat.ble (st.map tb_cat).sum 8 = true) (hw : (if c = 0 then tb_max a b else tb_min a b) = w) (k : tb_E d y dec pc' ls (.int w :: st) H S = some r) : tb_E d y dec pc ls (.int b :: .int a :: st) H S = some r := by
  subst hp; subst hw
  refine tb_xs hd ?_ tb_mo k
  simp only [tb_sti]
  rw [h0]
  dsimp only
  rw [hl]
  dsimp only
  rw [if_pos (Nat.le_of_ble_eq_true hc)]
  exact tb_nxt rfl
/-- a run that ends -/
theorem tb_xret {i : Jvm.ClassFile.Instr} {n : Nat} {q : tb_XR} (hd : decode y.2.2.1 pc = .ok (i, n)) (hs : tb_sti (tb_rn d) y i n pc ls st (H, S) = some (.inr q)) (hq : q.2 = (H, S)) (hr : dec q = some r) : tb_E d y dec pc ls st H S = some r := by
  refine Option.bind_eq_some_iff.mpr ⟨q, tb_ex_ret ?_, hr⟩
  unfold tb_stp
  dsimp only
  rw [hd]
  dsimp only
  rw [hs]
  have hm : tb_mono (H, S) (.inr q) = true := by
    unfold tb_mono
    refine decide_eq_true ?_
    rw [hq]
    exact ⟨Nat.le_refl _, Nat.le_refl _⟩
  show (if tb_mono (H, S) _ = true then _ else _) = _
  rw [if_pos hm]
theorem x_iret {v : Int32} (hd : decode y.2.2.1 pc = .ok (.ireturn, 1)) (hy : y.2.2.2.2.1 = some .int) (hr : dec (some (.int v), (H, S)) = some r) : tb_E d y dec pc ls [.int v] H S = some r := by
  refine tb_xret (q := (some (.int v), (H, S))) hd ?_ rfl hr
  simp only [tb_sti]
  rw [if_pos ⟨trivial, Or.inl hy⟩]
theorem x_zret {v : Int32} (hd : decode y.2.2.1 pc = .ok (.ireturn, 1)) (hy : y.2.2.2.2.1 = some .boolean) (hv : v = 0 ∨ v = 1) (hr : dec (some (.int v), (H, S)) = some r) : tb_E d y dec pc ls [.int v] H S = some r := by
  refine tb_xret (q := (some (.int v), (H, S))) hd ?_ rfl hr
  simp only [tb_sti]
  rw [if_pos ⟨trivial, Or.inr ⟨hy, hv⟩⟩]
theorem x_lret {v : Int64} (hd : decode y.2.2.1 pc = .ok (.lreturn, 1)) (hy : y.2.2.2.2.1 = some .long) (hr : dec (some (.long v), (H, S)) = some r) : tb_E d y dec pc ls [.long v] H S = some r := by
  refine tb_xret (q := (some (.long v), (H, S))) hd ?_ rfl hr
  simp only [tb_sti]
  rw [if_pos ⟨trivial, hy⟩]
theorem x_vret (hd : decode y.2.2.1 pc = .ok (.return_, 1)) (hy : y.2.2.2.2.1 = none) (hr : dec (none, (H, S)) = some r) : tb_E d y dec pc ls [] H S = some r := by
  refine tb_xret (q := (none, (H, S))) hd ?_ rfl hr
  simp only [tb_sti]
  rw [if_pos ⟨trivial, hy⟩]
/-- calls: what the called one answers, and its memory -/
theorem x_virt {kx o : Nat} {z : tb_MD} {ps rs : List Nat} {as rest : List Value} {q : tb_XR} (hd : decode y.2.2.1 pc = .ok (.invokevirtual kx, 3)) (hp : pc + 3 = pc') (hl : tb_look tb_mT y.1 kx = some ((0, z), ps)) (h1 : st.drop z.2.2.2.2.2 = .ref o :: rest) (h2 : (st.take z.2.2.2.2.2).reverse = as) (h3 : Nat.beq (st.take z.2.2.2.2.2).length z.2.2.2.2.2 = true) (ht : H[o]? = some (z.1, rs)) (hc : Nat.ble (rest.map tb_cat).sum 8 = true)
    (hq : tb_rn d z (.ref o :: as) (H, S) = some q) (hm : q.2.1 = H) (k : tb_E d y dec pc' ls (q.1.toList ++ rest) H q.2.2 = some r) : tb_E d y dec pc ls st H S = some r := by
  subst hp
  obtain ⟨qv, qH, qS⟩ := q
  dsimp only at hm k
  subst hm
  refine tb_xs hd ?_ tb_mo k
  simp only [tb_sti, hl, h1, ht]
  rw [if_pos ⟨by first | rfl | trivial, Nat.le_of_ble_eq_true hc, Nat.eq_of_beq_eq_true h3⟩, h2, hq]
  exact tb_nxt rfl
theorem x_stat {kx c : Nat} {z : tb_MD} {ps : List Nat} {as rest : List Value} {q : tb_XR} (hd : decode y.2.2.1 pc = .ok (.invokestatic kx, 3)) (hp : pc + 3 = pc') (hl : tb_look tb_mT y.1 kx = some ((c, z), ps)) (hk : c = 1 ∨ c = 2) (h1 : st.drop z.2.2.2.2.2 = rest) (h2 : (st.take z.2.2.2.2.2).reverse = as) (h3 : Nat.beq (st.take z.2.2.2.2.2).length z.2.2.2.2.2 = true) (hc : Nat.ble (rest.map tb_cat).sum 8 = true)
    (hq : tb_rn d z as (H, S) = some q) (hm : q.2.1 = H) (k : tb_E d y dec pc' ls (q.1.toList ++ rest) H q.2.2 = some r) : tb_E d y dec pc ls st H S = some r := by
  subst hp
  obtain ⟨qv, qH, qS⟩ := q
  dsimp only at hm k
  subst hm
  refine tb_xs hd ?_ tb_mo k
  simp only [tb_sti]
  rw [hl]
  try dsimp only
  rw [h1]
  rw [if_pos ⟨hk, Nat.le_of_ble_eq_true hc, Nat.eq_of_beq_eq_true h3⟩, h2, hq]
  exact tb_nxt rfl
end Rows
