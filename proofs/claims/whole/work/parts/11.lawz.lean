theorem zk_Lall : ∀ (o : Nat) (e : zE), zc_L[o]? = some e → zLck e := by
  intro o e h
  have h := List.mem_of_getElem? h
  simp only [zc_L, List.mem_append] at h
  rcases h with h | h | h | h | h | h | h | h | h | h | h | h | h | h | h | h | h | h | h | h
  · exact zk_L_0 e h
  · exact zk_L_1 e h
  · exact zk_L_2 e h
  · exact zk_L_3 e h
  · exact zk_L_4 e h
  · exact zk_L_5 e h
  · exact zk_L_6 e h
  · exact zk_L_7 e h
  · exact zk_L_8 e h
  · exact zk_L_9 e h
  · exact zk_L_10 e h
  · exact zk_L_11 e h
  · exact zk_L_12 e h
  · exact zk_L_13 e h
  · exact zk_L_14 e h
  · exact zk_L_15 e h
  · exact zk_L_16 e h
  · exact zk_L_17 e h
  · exact zk_L_18 e h
  · exact zk_L_19 e h
