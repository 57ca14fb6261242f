set_option maxRecDepth 100000 in
theorem zk_L_4 : ∀ e ∈ zc_L4, zLck e := by decide +kernel
set_option maxRecDepth 100000 in
theorem zk_L_5 : ∀ e ∈ zc_L5, zLck e := by decide +kernel
set_option maxRecDepth 100000 in
theorem zk_L_6 : ∀ e ∈ zc_L6, zLck e := by decide +kernel
set_option maxRecDepth 100000 in
theorem zk_L_7 : ∀ e ∈ zc_L7, zLck e := by decide +kernel
