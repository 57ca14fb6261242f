set_option maxRecDepth 100000 in
theorem zk_L_12 : ∀ e ∈ zc_L12, zLck e := by decide +kernel
set_option maxRecDepth 100000 in
theorem zk_L_13 : ∀ e ∈ zc_L13, zLck e := by decide +kernel
set_option maxRecDepth 100000 in
theorem zk_L_14 : ∀ e ∈ zc_L14, zLck e := by decide +kernel
set_option maxRecDepth 100000 in
theorem zk_L_15 : ∀ e ∈ zc_L15, zLck e := by decide +kernel
