theorem hin_RJ0 : ∀ w ∈ u_ws RJ0 TJ0 4, w ∈ gaW := by
  intro w hw
  obtain ⟨k, hk, rfl⟩ := List.mem_map.mp hw
  have hk := List.mem_range.mp hk
  match k, hk with
  | 0, _ => exact ww_5_36
  | 1, _ => exact ww_5_38
  | 2, _ => exact ww_5_40
  | 3, _ => exact ww_5_42
  | n + 4, hk => omega
theorem hdf_RJ0 : ∀ q, q < 4 → defaultValue (tyJ0 q) = vp_V ([.null, gi 0, gi 0, gi 0]) q := by
  intro q hq
  match q, hq with
  | 0, _ => rfl
  | 1, _ => rfl
  | 2, _ => rfl
  | 3, _ => rfl
  | n + 4, hk => omega
theorem hin_RJ4 : ∀ w ∈ u_ws RJ4 TJ4 4, w ∈ gaW := by
  intro w hw
  obtain ⟨k, hk, rfl⟩ := List.mem_map.mp hw
  have hk := List.mem_range.mp hk
  match k, hk with
  | 0, _ => exact ww_4_47
  | 1, _ => exact ww_4_49
  | 2, _ => exact ww_4_51
  | 3, _ => exact ww_4_53
  | n + 4, hk => omega
theorem hdf_RJ4 : ∀ q, q < 4 → defaultValue (tyJ4 q) = vp_V ([.null, gi 0, gi 0, gi 0]) q := by
  intro q hq
  match q, hq with
  | 0, _ => rfl
  | 1, _ => rfl
  | 2, _ => rfl
  | 3, _ => rfl
  | n + 4, hk => omega
theorem hin_RX0 : ∀ w ∈ u_ws RX0 TX0 4, w ∈ gaW := by
  intro w hw
  obtain ⟨k, hk, rfl⟩ := List.mem_map.mp hw
  have hk := List.mem_range.mp hk
  match k, hk with
  | 0, _ => exact ww_1_100
  | 1, _ => exact ww_1_102
  | 2, _ => exact ww_1_104
  | 3, _ => exact ww_1_106
  | n + 4, hk => omega
theorem hdf_RX0 : ∀ q, q < 4 → defaultValue (tyX0 q) = vp_V ([.null, gi 0, .null, .null]) q := by
  intro q hq
  match q, hq with
  | 0, _ => rfl
  | 1, _ => rfl
  | 2, _ => rfl
  | 3, _ => rfl
  | n + 4, hk => omega
theorem hin_RX2 : ∀ w ∈ u_ws RX2 TX2 3, w ∈ gaW := by
  intro w hw
  obtain ⟨k, hk, rfl⟩ := List.mem_map.mp hw
  have hk := List.mem_range.mp hk
  match k, hk with
  | 0, _ => exact ww_1_66
  | 1, _ => exact ww_1_68
  | 2, _ => exact ww_1_70
  | n + 3, hk => omega
theorem hdf_RX2 : ∀ q, q < 3 → defaultValue (tyX2 q) = vp_V ([.null, .null, .null]) q := by
  intro q hq
  match q, hq with
  | 0, _ => rfl
  | 1, _ => rfl
  | 2, _ => rfl
  | n + 3, hk => omega
theorem hin_RX4 : ∀ w ∈ u_ws RX4 TX4 2, w ∈ gaW := by
  intro w hw
  obtain ⟨k, hk, rfl⟩ := List.mem_map.mp hw
  have hk := List.mem_range.mp hk
  match k, hk with
  | 0, _ => exact ww_1_57
  | 1, _ => exact ww_1_59
  | n + 2, hk => omega
theorem hdf_RX4 : ∀ q, q < 2 → defaultValue (tyX4 q) = vp_V ([.null, gi 0]) q := by
  intro q hq
  match q, hq with
  | 0, _ => rfl
  | 1, _ => rfl
  | n + 2, hk => omega
theorem hin_RX5 : ∀ w ∈ u_ws RX5 TX5 9, w ∈ gaW := by
  intro w hw
  obtain ⟨k, hk, rfl⟩ := List.mem_map.mp hw
  have hk := List.mem_range.mp hk
  match k, hk with
  | 0, _ => exact ww_1_119
  | 1, _ => exact ww_1_121
  | 2, _ => exact ww_1_123
  | 3, _ => exact ww_1_125
  | 4, _ => exact ww_1_127
  | 5, _ => exact ww_1_129
  | 6, _ => exact ww_1_131
  | 7, _ => exact ww_1_133
  | 8, _ => exact ww_1_135
  | n + 9, hk => omega
theorem hdf_RX5 : ∀ q, q < 9 → defaultValue (tyX5 q) = vp_V ([.null, .null, .null, .null, .null, gi 0, gi 0, gi 0, gi 0]) q := by
  intro q hq
  match q, hq with
  | 0, _ => rfl
  | 1, _ => rfl
  | 2, _ => rfl
  | 3, _ => rfl
  | 4, _ => rfl
  | 5, _ => rfl
  | 6, _ => rfl
  | 7, _ => rfl
  | 8, _ => rfl
  | n + 9, hk => omega
theorem hin_RX6 : ∀ w ∈ u_ws RX6 TX6 2, w ∈ gaW := by
  intro w hw
  obtain ⟨k, hk, rfl⟩ := List.mem_map.mp hw
  have hk := List.mem_range.mp hk
  match k, hk with
  | 0, _ => exact ww_2_200
  | 1, _ => exact ww_2_202
  | n + 2, hk => omega
theorem hdf_RX6 : ∀ q, q < 2 → defaultValue (tyX6 q) = vp_V ([.long 0, .null]) q := by
  intro q hq
  match q, hq with
  | 0, _ => rfl
  | 1, _ => rfl
  | n + 2, hk => omega
theorem hin_RX7 : ∀ w ∈ u_ws RX7 TX7 8, w ∈ gaW := by
  intro w hw
  obtain ⟨k, hk, rfl⟩ := List.mem_map.mp hw
  have hk := List.mem_range.mp hk
  match k, hk with
  | 0, _ => exact ww_5_189
  | 1, _ => exact ww_5_191
  | 2, _ => exact ww_5_193
  | 3, _ => exact ww_5_195
  | 4, _ => exact ww_5_197
  | 5, _ => exact ww_5_199
  | 6, _ => exact ww_5_201
  | 7, _ => exact ww_5_203
  | n + 8, hk => omega
theorem hdf_RX7 : ∀ q, q < 8 → defaultValue (tyX7 q) = vp_V ([.null, .null, .null, gi 0, gi 0, gi 0, gi 0, gi 0]) q := by
  intro q hq
  match q, hq with
  | 0, _ => rfl
  | 1, _ => rfl
  | 2, _ => rfl
  | 3, _ => rfl
  | 4, _ => rfl
  | 5, _ => rfl
  | 6, _ => rfl
  | 7, _ => rfl
  | n + 8, hk => omega
theorem hpl_RJ0 : plainName RJ0 = true := by decide +kernel
theorem hpl_RJ1 : plainName RJ1 = true := by decide +kernel
theorem hpl_RJ4 : plainName RJ4 = true := by decide +kernel
theorem hpl_RJ5 : plainName RJ5 = true := by decide +kernel
theorem hpl_RJ6 : plainName RJ6 = true := by decide +kernel
theorem hpl_RJ7 : plainName RJ7 = true := by decide +kernel
theorem hpl_RJ8 : plainName RJ8 = true := by decide +kernel
theorem hpl_RL : plainName RL = true := by decide +kernel
theorem hpl_RX0 : plainName RX0 = true := by decide +kernel
theorem hpl_RX1 : plainName RX1 = true := by decide +kernel
theorem hpl_RX2 : plainName RX2 = true := by decide +kernel
theorem hpl_RX3 : plainName RX3 = true := by decide +kernel
theorem hpl_RX4 : plainName RX4 = true := by decide +kernel
theorem hpl_RX5 : plainName RX5 = true := by decide +kernel
theorem hpl_RX6 : plainName RX6 = true := by decide +kernel
theorem hpl_RX7 : plainName RX7 = true := by decide +kernel
def gCall (C S c s : Nat) (K : Nat → Nat → Prop) : Prop := C ≤ c ∧ S ≤ s ∧ ∃ c2 s2, c2 = c - C ∧ s2 = s - S ∧ K c2 s2
abbrev gxNames : List String := ["java/lang/RuntimeException", "java/lang/Exception"]
theorem hfit_N : ∀ n ∈ gxNames, Bundle.fit n = true := by decide +kernel
theorem hfit_O : Bundle.fit "java/lang/IndexOutOfBoundsException" = true := by decide +kernel
theorem hat1_O : ∀ w ∈ (vx_atS RX5 289 "java/lang/IndexOutOfBoundsException" gxNames).filter goodWord, w ∈ gaW := fun w hw => gaW_of ((by decide +kernel : ∀ w ∈ (vx_atS RX5 289 "java/lang/IndexOutOfBoundsException" gxNames).filter goodWord, w ∈ lw_tbl) w hw) (List.mem_filter.mp hw).2
theorem hat2_O : ∀ w ∈ (vx_atS RX5 289 "java/lang/IndexOutOfBoundsException" gxNames).filter (fun w => !goodWord w), w ∈ gaNests := by decide +kernel
theorem hgood_O : ∀ w ∈ Cond.classLink RX5 285 "java/lang/IndexOutOfBoundsException" :: Cond.initialized "java/lang/IndexOutOfBoundsException" :: vx_atS RX5 289 "java/lang/IndexOutOfBoundsException" gxNames, vx_ot w = true := by decide +kernel
theorem hfit_A : Bundle.fit "java/lang/IllegalArgumentException" = true := by decide +kernel
theorem hat1_A : ∀ w ∈ (vx_atS RX5 300 "java/lang/IllegalArgumentException" gxNames).filter goodWord, w ∈ gaW := fun w hw => gaW_of ((by decide +kernel : ∀ w ∈ (vx_atS RX5 300 "java/lang/IllegalArgumentException" gxNames).filter goodWord, w ∈ lw_tbl) w hw) (List.mem_filter.mp hw).2
theorem hat2_A : ∀ w ∈ (vx_atS RX5 300 "java/lang/IllegalArgumentException" gxNames).filter (fun w => !goodWord w), w ∈ gaNests := by decide +kernel
theorem hgood_A : ∀ w ∈ Cond.classLink RX5 296 "java/lang/IllegalArgumentException" :: Cond.initialized "java/lang/IllegalArgumentException" :: vx_atS RX5 300 "java/lang/IllegalArgumentException" gxNames, vx_ot w = true := by decide +kernel
theorem hfit_S : Bundle.fit "java/lang/IllegalStateException" = true := by decide +kernel
theorem hat1_S : ∀ w ∈ (vx_atS RX5 305 "java/lang/IllegalStateException" gxNames).filter goodWord, w ∈ gaW := fun w hw => gaW_of ((by decide +kernel : ∀ w ∈ (vx_atS RX5 305 "java/lang/IllegalStateException" gxNames).filter goodWord, w ∈ lw_tbl) w hw) (List.mem_filter.mp hw).2
theorem hat2_S : ∀ w ∈ (vx_atS RX5 305 "java/lang/IllegalStateException" gxNames).filter (fun w => !goodWord w), w ∈ gaNests := by decide +kernel
theorem hgood_S : ∀ w ∈ Cond.classLink RX5 301 "java/lang/IllegalStateException" :: Cond.initialized "java/lang/IllegalStateException" :: vx_atS RX5 305 "java/lang/IllegalStateException" gxNames, vx_ot w = true := by decide +kernel
