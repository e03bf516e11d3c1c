theorem om_mem_of {l : List Cond} {ix : List Nat} (h : l = ix.filterMap (fun i => lw_tbl[i]?)) : ∀ w ∈ l, w ∈ lw_tbl := by
  intro w hw
  rw [h] at hw
  obtain ⟨i, -, hi⟩ := List.mem_filterMap.mp hw
  exact List.mem_of_getElem? hi
set_option maxRecDepth 100000 in
set_option maxHeartbeats 4000000 in
theorem om_t1 : ∀ w ∈ om_fwl.map om_fw, w ∈ lw_tbl := om_mem_of (ix := om_tix.getD 0 []) rfl
set_option maxRecDepth 100000 in
set_option maxHeartbeats 4000000 in
theorem om_t2 : ∀ w ∈ om_mwl.map om_mw, w ∈ lw_tbl := om_mem_of (ix := om_tix.getD 1 []) rfl
set_option maxRecDepth 100000 in
set_option maxHeartbeats 4000000 in
theorem om_t3 : ∀ w ∈ om_iwl.map om_iw, w ∈ lw_tbl := om_mem_of (ix := om_tix.getD 2 []) rfl
set_option maxRecDepth 100000 in
set_option maxHeartbeats 4000000 in
theorem om_t4 : ∀ w ∈ om_cil.map om_ci, w ∈ lw_tbl := om_mem_of (ix := om_tix.getD 3 []) rfl
set_option maxRecDepth 100000 in
set_option maxHeartbeats 4000000 in
theorem om_t5 : ∀ w ∈ om_cll.map om_cj, w ∈ lw_tbl := om_mem_of (ix := om_tix.getD 4 []) rfl
set_option maxRecDepth 100000 in
set_option maxHeartbeats 4000000 in
theorem om_t6 : ∀ w ∈ om_xw, w ∈ lw_tbl := om_mem_of (ix := om_tix.getD 5 []) rfl
set_option maxRecDepth 100000 in
set_option maxHeartbeats 4000000 in
theorem om_t7 : ∀ w ∈ om_cw, w ∈ lw_tbl := om_mem_of (ix := om_tix.getD 6 []) rfl
set_option maxRecDepth 100000 in
set_option maxHeartbeats 4000000 in
theorem om_t8 : ∀ w ∈ om_sig.flatMap om_sw4, w ∈ lw_tbl := om_mem_of (ix := om_tix.getD 7 []) rfl
set_option maxRecDepth 100000 in
set_option maxHeartbeats 4000000 in
theorem om_t9 : ∀ w ∈ om_fnl.map om_fn, w ∈ lw_tbl := om_mem_of (ix := om_tix.getD 8 []) rfl
set_option maxRecDepth 100000 in
set_option maxHeartbeats 4000000 in
theorem om_t10 : ∀ w ∈ om_mnl.map om_mn, w ∈ lw_tbl := om_mem_of (ix := om_tix.getD 9 []) rfl
theorem om_tb_in : ∀ w ∈ om_tb, w ∈ lw_tbl := fun w h => (List.mem_append.mp h).elim (om_t1 w) fun h => (List.mem_append.mp h).elim (om_t2 w) fun h => (List.mem_append.mp h).elim (om_t3 w) fun h => (List.mem_append.mp h).elim (om_t4 w) fun h => (List.mem_append.mp h).elim (om_t5 w) fun h => (List.mem_append.mp h).elim (om_t6 w) fun h => (List.mem_append.mp h).elim (om_t7 w) (om_t8 w)
theorem om_nw_in : ∀ w ∈ om_nw, w ∈ lw_tbl := fun w h => (List.mem_append.mp h).elim (om_t9 w) (om_t10 w)
theorem om_tb_good : om_tb.all goodWord = true := by decide +kernel
