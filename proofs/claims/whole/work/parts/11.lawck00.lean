set_option maxRecDepth 100000 in
theorem zk_L_0 : ∀ e ∈ zc_L0, zLck e := by decide +kernel
set_option maxRecDepth 100000 in
theorem zk_L_1 : ∀ e ∈ zc_L1, zLck e := by decide +kernel
set_option maxRecDepth 100000 in
theorem zk_L_2 : ∀ e ∈ zc_L2, zLck e := by decide +kernel
set_option maxRecDepth 100000 in
theorem zk_L_3 : ∀ e ∈ zc_L3, zLck e := by decide +kernel
