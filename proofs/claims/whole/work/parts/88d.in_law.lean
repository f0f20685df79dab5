theorem zall : ∀ w ∈ wsL_law_all, w ∈ lw_tbl := (List.forall_mem_append.mpr ⟨zc1, (List.forall_mem_append.mpr ⟨zc2, (List.forall_mem_append.mpr ⟨zc3, (List.forall_mem_append.mpr ⟨zc4, (List.forall_mem_append.mpr ⟨zc5, (List.forall_mem_append.mpr ⟨zc6, (List.forall_mem_append.mpr ⟨zc7, (List.forall_mem_append.mpr ⟨zc8, (List.forall_mem_append.mpr ⟨zc9, (List.forall_mem_append.mpr ⟨zc10, (List.forall_mem_append.mpr ⟨zc11, (List.forall_mem_append.mpr ⟨zc12, (List.forall_mem_append.mpr ⟨zc13, (List.forall_mem_append.mpr ⟨zc14, (List.forall_mem_append.mpr ⟨zc15, (List.forall_mem_append.mpr ⟨zc16, (List.forall_mem_append.mpr ⟨zc17, (List.forall_mem_append.mpr ⟨zc18, (List.forall_mem_append.mpr ⟨zc19, (List.forall_mem_append.mpr ⟨zc20, (List.forall_mem_append.mpr ⟨zc21, (List.forall_mem_append.mpr ⟨zc22, (List.forall_mem_append.mpr ⟨zc23, (List.forall_mem_append.mpr ⟨zc24, (List.forall_mem_append.mpr ⟨zc25, (List.forall_mem_append.mpr ⟨zc26, (List.forall_mem_append.mpr ⟨zc27, (List.forall_mem_append.mpr ⟨zc28, (List.forall_mem_append.mpr ⟨zc29, (List.forall_mem_append.mpr ⟨zc30, (List.forall_mem_append.mpr ⟨zc31, (List.forall_mem_append.mpr ⟨zc32, (List.forall_mem_append.mpr ⟨zc33, (List.forall_mem_append.mpr ⟨zc34, (List.forall_mem_append.mpr ⟨zc35, (List.forall_mem_append.mpr ⟨zc36, (List.forall_mem_append.mpr ⟨zc37, (List.forall_mem_append.mpr ⟨zc38, (List.forall_mem_append.mpr ⟨zc39, (List.forall_mem_append.mpr ⟨zc40, (List.forall_mem_append.mpr ⟨zc41, (List.forall_mem_append.mpr ⟨zc42, (List.forall_mem_append.mpr ⟨zc43, (List.forall_mem_append.mpr ⟨zc44, (List.forall_mem_append.mpr ⟨zc45, (List.forall_mem_append.mpr ⟨zc46, (List.forall_mem_append.mpr ⟨zc47, (List.forall_mem_append.mpr ⟨zc48, zc49⟩)⟩)⟩)⟩)⟩)⟩)⟩)⟩)⟩)⟩)⟩)⟩)⟩)⟩)⟩)⟩)⟩)⟩)⟩)⟩)⟩)⟩)⟩)⟩)⟩)⟩)⟩)⟩)⟩)⟩)⟩)⟩)⟩)⟩)⟩)⟩)⟩)⟩)⟩)⟩)⟩)⟩)⟩)⟩)⟩)⟩)⟩)⟩)
set_option maxRecDepth 20000 in
theorem inX0 : ∀ w ∈ wsX00, w ∈ lw_tbl := by decide +kernel
set_option maxRecDepth 20000 in
theorem inX1 : ∀ w ∈ wsX10, w ∈ lw_tbl := by decide +kernel
set_option maxRecDepth 20000 in
theorem inX2 : ∀ w ∈ wsX20, w ∈ lw_tbl := by decide +kernel
set_option maxRecDepth 20000 in
theorem inX3 : ∀ w ∈ wsX30, w ∈ lw_tbl := by decide +kernel
set_option maxRecDepth 20000 in
theorem inX4 : ∀ w ∈ wsX40, w ∈ lw_tbl := by decide +kernel
set_option maxRecDepth 20000 in
theorem inX5 : ∀ w ∈ wsX50, w ∈ lw_tbl := by decide +kernel
set_option maxRecDepth 20000 in
theorem inX6 : ∀ w ∈ wsX60, w ∈ lw_tbl := by decide +kernel
set_option maxRecDepth 20000 in
theorem inX7 : ∀ w ∈ wsX70, w ∈ lw_tbl := by decide +kernel
set_option maxRecDepth 20000 in
theorem inX8 : ∀ w ∈ wsX80, w ∈ lw_tbl := by decide +kernel
set_option maxRecDepth 20000 in
theorem inX9 : ∀ w ∈ wsX90, w ∈ lw_tbl := by decide +kernel
set_option maxRecDepth 20000 in
theorem inX10 : ∀ w ∈ wsX100, w ∈ lw_tbl := by decide +kernel
set_option maxRecDepth 20000 in
theorem inX11 : ∀ w ∈ wsX110, w ∈ lw_tbl := by decide +kernel
theorem wsL_law_in : ∀ w ∈ wsL_law, w ∈ lw_tbl := List.forall_mem_append.mpr ⟨(List.forall_mem_append.mpr ⟨(List.forall_mem_append.mpr ⟨(List.forall_mem_append.mpr ⟨(List.forall_mem_append.mpr ⟨(List.forall_mem_append.mpr ⟨(List.forall_mem_append.mpr ⟨(List.forall_mem_append.mpr ⟨(List.forall_mem_append.mpr ⟨(List.forall_mem_append.mpr ⟨(List.forall_mem_append.mpr ⟨(List.forall_mem_append.mpr ⟨(List.forall_mem_append.mpr ⟨zall, inX10⟩), inX11⟩), inX6⟩), inX4⟩), inX3⟩), inX2⟩), inX1⟩), inX7⟩), inX9⟩), inX5⟩), inX0⟩), inX8⟩), fun _ h => absurd h List.not_mem_nil⟩
