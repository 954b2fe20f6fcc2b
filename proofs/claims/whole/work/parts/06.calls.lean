/-! Part 06: what the rows of the calls hold, decided in small pieces -/
set_option maxRecDepth 100000 in
theorem tb_mok0 : ∀ q ∈ tb_mT0, tb_mokB q = true := by decide +kernel
set_option maxRecDepth 100000 in
theorem tb_mok1 : ∀ q ∈ tb_mT1, tb_mokB q = true := by decide +kernel
set_option maxRecDepth 100000 in
theorem tb_mok2 : ∀ q ∈ tb_mT2, tb_mokB q = true := by decide +kernel
set_option maxRecDepth 100000 in
theorem tb_mok3 : ∀ q ∈ tb_mT3, tb_mokB q = true := by decide +kernel
set_option maxRecDepth 100000 in
theorem tb_mok4 : ∀ q ∈ tb_mT4, tb_mokB q = true := by decide +kernel
set_option maxRecDepth 100000 in
theorem tb_mok5 : ∀ q ∈ tb_mT5, tb_mokB q = true := by decide +kernel
set_option maxRecDepth 100000 in
theorem tb_mok6 : ∀ q ∈ tb_mT6, tb_mokB q = true := by decide +kernel
set_option maxRecDepth 100000 in
theorem tb_mok7 : ∀ q ∈ tb_mT7, tb_mokB q = true := by decide +kernel
set_option maxRecDepth 100000 in
theorem tb_mok8 : ∀ q ∈ tb_mT8, tb_mokB q = true := by decide +kernel
set_option maxRecDepth 100000 in
theorem tb_mok9 : ∀ q ∈ tb_mT9, tb_mokB q = true := by decide +kernel
set_option maxRecDepth 100000 in
theorem tb_mok10 : ∀ q ∈ tb_mT10, tb_mokB q = true := by decide +kernel
set_option maxRecDepth 100000 in
theorem tb_mok11 : ∀ q ∈ tb_mT11, tb_mokB q = true := by decide +kernel
set_option maxRecDepth 100000 in
theorem tb_mok12 : ∀ q ∈ tb_mT12, tb_mokB q = true := by decide +kernel
set_option maxRecDepth 100000 in
theorem tb_mok13 : ∀ q ∈ tb_mT13, tb_mokB q = true := by decide +kernel
set_option maxRecDepth 100000 in
theorem tb_mok14 : ∀ q ∈ tb_mT14, tb_mokB q = true := by decide +kernel
set_option maxRecDepth 100000 in
theorem tb_mok15 : ∀ q ∈ tb_mT15, tb_mokB q = true := by decide +kernel
set_option maxRecDepth 100000 in
theorem tb_mok16 : ∀ q ∈ tb_mT16, tb_mokB q = true := by decide +kernel
set_option maxRecDepth 100000 in
theorem tb_mok17 : ∀ q ∈ tb_mT17, tb_mokB q = true := by decide +kernel
set_option maxRecDepth 100000 in
theorem tb_mok18 : ∀ q ∈ tb_mT18, tb_mokB q = true := by decide +kernel
set_option maxRecDepth 100000 in
theorem tb_mok19 : ∀ q ∈ tb_mT19, tb_mokB q = true := by decide +kernel
set_option maxRecDepth 100000 in
theorem tb_mok20 : ∀ q ∈ tb_mT20, tb_mokB q = true := by decide +kernel
set_option maxRecDepth 100000 in
theorem tb_mok21 : ∀ q ∈ tb_mT21, tb_mokB q = true := by decide +kernel
set_option maxRecDepth 100000 in
theorem tb_mok22 : ∀ q ∈ tb_mT22, tb_mokB q = true := by decide +kernel
set_option maxRecDepth 100000 in
theorem tb_mok23 : ∀ q ∈ tb_mT23, tb_mokB q = true := by decide +kernel
theorem tb_mok : ∀ q ∈ tb_mT, tb_mokB q = true := by
  unfold tb_mT
  exact List.forall_mem_append.mpr ⟨tb_mok0, List.forall_mem_append.mpr ⟨tb_mok1, List.forall_mem_append.mpr ⟨tb_mok2, List.forall_mem_append.mpr ⟨tb_mok3, List.forall_mem_append.mpr ⟨tb_mok4, List.forall_mem_append.mpr ⟨tb_mok5, List.forall_mem_append.mpr ⟨tb_mok6, List.forall_mem_append.mpr ⟨tb_mok7, List.forall_mem_append.mpr ⟨tb_mok8, List.forall_mem_append.mpr ⟨tb_mok9, List.forall_mem_append.mpr ⟨tb_mok10, List.forall_mem_append.mpr ⟨tb_mok11, List.forall_mem_append.mpr ⟨tb_mok12, List.forall_mem_append.mpr ⟨tb_mok13, List.forall_mem_append.mpr ⟨tb_mok14, List.forall_mem_append.mpr ⟨tb_mok15, List.forall_mem_append.mpr ⟨tb_mok16, List.forall_mem_append.mpr ⟨tb_mok17, List.forall_mem_append.mpr ⟨tb_mok18, List.forall_mem_append.mpr ⟨tb_mok19, List.forall_mem_append.mpr ⟨tb_mok20, List.forall_mem_append.mpr ⟨tb_mok21, List.forall_mem_append.mpr ⟨tb_mok22, tb_mok23⟩⟩⟩⟩⟩⟩⟩⟩⟩⟩⟩⟩⟩⟩⟩⟩⟩⟩⟩⟩⟩⟩⟩
