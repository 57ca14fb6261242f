set_option maxRecDepth 100000 in
theorem zk_L_8 : ∀ e ∈ zc_L8, zLck e := by decide +kernel
set_option maxRecDepth 100000 in
theorem zk_L_9 : ∀ e ∈ zc_L9, zLck e := by decide +kernel
set_option maxRecDepth 100000 in
theorem zk_L_10 : ∀ e ∈ zc_L10, zLck e := by decide +kernel
set_option maxRecDepth 100000 in
theorem zk_L_11 : ∀ e ∈ zc_L11, zLck e := by decide +kernel
