set_option maxRecDepth 100000 in
theorem zk_L_16 : ∀ e ∈ zc_L16, zLck e := by decide +kernel
set_option maxRecDepth 100000 in
theorem zk_L_17 : ∀ e ∈ zc_L17, zLck e := by decide +kernel
set_option maxRecDepth 100000 in
theorem zk_L_18 : ∀ e ∈ zc_L18, zLck e := by decide +kernel
set_option maxRecDepth 100000 in
theorem zk_L_19 : ∀ e ∈ zc_L19, zLck e := by decide +kernel
