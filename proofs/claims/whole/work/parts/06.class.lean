/-! what the tables say of each class, by its number -/
def jkty : Nat → FieldType → Bool
  | 0, .int => true
  | 5, .boolean => true
  | 1, .object _ => true
  | 1, .array _ => true
  | _, _ => false
def jfok (q : Nat × Nat) : Bool := (q.1 == 0 && Nat.ble 2000 q.2) || (q.1 == 5 && Nat.ble 2000 q.2) || (q.1 == 1 && Nat.ble 100 q.2 && Nat.blt q.2 2000)
def jclass (ci : Nat) (C : String) (T : u_T) (N : Nat) : Prop :=
  vwCl[ci]? = some (C, T, N) ∧ (∀ w ∈ u_ws C T N, w ∈ jtbl) ∧ (∃ ty : Nat → FieldType, (∀ k, k < N → parseFieldDescriptor (T k).2.2.1 = some (ty k)) ∧ ∀ k, k < N → jkty (jnth (0, 0) (jkinds ci) k).1 (ty k) = true) ∧ (∀ a, a < N → ∀ b, b < N → a ≠ b → (T a).2.1 ≠ (T b).2.1) ∧ (jkinds ci).length = N ∧ ((jkinds ci).map (fun q => q.2)).Nodup ∧ (jkinds ci).all jfok = true
set_option maxRecDepth 100000 in
theorem jin_0 : ∀ w ∈ u_ws RX0 TX0 2, w ∈ jtbl := by
  have e : u_ws RX0 TX0 2 = [275, 277].filterMap (fun i => lw_tbl[i]?) := by decide +kernel
  intro w hw
  obtain ⟨k, -, hk⟩ := List.mem_map.mp hw
  have hg : jkeepw w = true := by rw [← hk]; unfold u_lay; split <;> rfl
  rw [e] at hw
  obtain ⟨i, -, hi⟩ := List.mem_filterMap.mp hw
  exact jmem hi hg
theorem jcl_0 : jclass 0 RX0 TX0 2 := ⟨rfl, jin_0, ⟨tyX0, tyX0_ok, by decide +kernel⟩, nmX0, by decide +kernel, by decide +kernel, by decide +kernel⟩
set_option maxRecDepth 100000 in
theorem jin_1 : ∀ w ∈ u_ws RX1 TX1 3, w ∈ jtbl := by
  have e : u_ws RX1 TX1 3 = [145, 147, 149].filterMap (fun i => lw_tbl[i]?) := by decide +kernel
  intro w hw
  obtain ⟨k, -, hk⟩ := List.mem_map.mp hw
  have hg : jkeepw w = true := by rw [← hk]; unfold u_lay; split <;> rfl
  rw [e] at hw
  obtain ⟨i, -, hi⟩ := List.mem_filterMap.mp hw
  exact jmem hi hg
theorem jcl_1 : jclass 1 RX1 TX1 3 := ⟨rfl, jin_1, ⟨tyX1, tyX1_ok, by decide +kernel⟩, nmX1, by decide +kernel, by decide +kernel, by decide +kernel⟩
set_option maxRecDepth 100000 in
theorem jin_2 : ∀ w ∈ u_ws RX2 TX2 3, w ∈ jtbl := by
  have e : u_ws RX2 TX2 3 = [292, 294, 296].filterMap (fun i => lw_tbl[i]?) := by decide +kernel
  intro w hw
  obtain ⟨k, -, hk⟩ := List.mem_map.mp hw
  have hg : jkeepw w = true := by rw [← hk]; unfold u_lay; split <;> rfl
  rw [e] at hw
  obtain ⟨i, -, hi⟩ := List.mem_filterMap.mp hw
  exact jmem hi hg
theorem jcl_2 : jclass 2 RX2 TX2 3 := ⟨rfl, jin_2, ⟨tyX2, tyX2_ok, by decide +kernel⟩, nmX2, by decide +kernel, by decide +kernel, by decide +kernel⟩
set_option maxRecDepth 100000 in
theorem jin_3 : ∀ w ∈ u_ws RX3 TX3 8, w ∈ jtbl := by
  have e : u_ws RX3 TX3 8 = [250, 252, 254, 256, 258, 260, 262, 264].filterMap (fun i => lw_tbl[i]?) := by decide +kernel
  intro w hw
  obtain ⟨k, -, hk⟩ := List.mem_map.mp hw
  have hg : jkeepw w = true := by rw [← hk]; unfold u_lay; split <;> rfl
  rw [e] at hw
  obtain ⟨i, -, hi⟩ := List.mem_filterMap.mp hw
  exact jmem hi hg
theorem jcl_3 : jclass 3 RX3 TX3 8 := ⟨rfl, jin_3, ⟨tyX3, tyX3_ok, by decide +kernel⟩, nmX3, by decide +kernel, by decide +kernel, by decide +kernel⟩
set_option maxRecDepth 100000 in
theorem jin_4 : ∀ w ∈ u_ws RX4 TX4 6, w ∈ jtbl := by
  have e : u_ws RX4 TX4 6 = [163, 165, 167, 169, 171, 173].filterMap (fun i => lw_tbl[i]?) := by decide +kernel
  intro w hw
  obtain ⟨k, -, hk⟩ := List.mem_map.mp hw
  have hg : jkeepw w = true := by rw [← hk]; unfold u_lay; split <;> rfl
  rw [e] at hw
  obtain ⟨i, -, hi⟩ := List.mem_filterMap.mp hw
  exact jmem hi hg
theorem jcl_4 : jclass 4 RX4 TX4 6 := ⟨rfl, jin_4, ⟨tyX4, tyX4_ok, by decide +kernel⟩, nmX4, by decide +kernel, by decide +kernel, by decide +kernel⟩
set_option maxRecDepth 100000 in
theorem jin_5 : ∀ w ∈ u_ws RX5 TX5 2, w ∈ jtbl := by
  have e : u_ws RX5 TX5 2 = [355, 357].filterMap (fun i => lw_tbl[i]?) := by decide +kernel
  intro w hw
  obtain ⟨k, -, hk⟩ := List.mem_map.mp hw
  have hg : jkeepw w = true := by rw [← hk]; unfold u_lay; split <;> rfl
  rw [e] at hw
  obtain ⟨i, -, hi⟩ := List.mem_filterMap.mp hw
  exact jmem hi hg
theorem jcl_5 : jclass 5 RX5 TX5 2 := ⟨rfl, jin_5, ⟨tyX5, tyX5_ok, by decide +kernel⟩, nmX5, by decide +kernel, by decide +kernel, by decide +kernel⟩
set_option maxRecDepth 100000 in
theorem jin_6 : ∀ w ∈ u_ws RX6 TX6 4, w ∈ jtbl := by
  have e : u_ws RX6 TX6 4 = [335, 337, 339, 341].filterMap (fun i => lw_tbl[i]?) := by decide +kernel
  intro w hw
  obtain ⟨k, -, hk⟩ := List.mem_map.mp hw
  have hg : jkeepw w = true := by rw [← hk]; unfold u_lay; split <;> rfl
  rw [e] at hw
  obtain ⟨i, -, hi⟩ := List.mem_filterMap.mp hw
  exact jmem hi hg
theorem jcl_6 : jclass 6 RX6 TX6 4 := ⟨rfl, jin_6, ⟨tyX6, tyX6_ok, by decide +kernel⟩, nmX6, by decide +kernel, by decide +kernel, by decide +kernel⟩
set_option maxRecDepth 100000 in
theorem jin_7 : ∀ w ∈ u_ws RX7 TX7 1, w ∈ jtbl := by
  have e : u_ws RX7 TX7 1 = [946].filterMap (fun i => lw_tbl[i]?) := by decide +kernel
  intro w hw
  obtain ⟨k, -, hk⟩ := List.mem_map.mp hw
  have hg : jkeepw w = true := by rw [← hk]; unfold u_lay; split <;> rfl
  rw [e] at hw
  obtain ⟨i, -, hi⟩ := List.mem_filterMap.mp hw
  exact jmem hi hg
theorem jcl_7 : jclass 7 RX7 TX7 1 := ⟨rfl, jin_7, ⟨tyX7, tyX7_ok, by decide +kernel⟩, nmX7, by decide +kernel, by decide +kernel, by decide +kernel⟩
set_option maxRecDepth 100000 in
theorem jin_8 : ∀ w ∈ u_ws RX8 TX8 15, w ∈ jtbl := by
  have e : u_ws RX8 TX8 15 = [200, 202, 204, 206, 208, 210, 212, 214, 216, 218, 220, 222, 224, 226, 228].filterMap (fun i => lw_tbl[i]?) := by decide +kernel
  intro w hw
  obtain ⟨k, -, hk⟩ := List.mem_map.mp hw
  have hg : jkeepw w = true := by rw [← hk]; unfold u_lay; split <;> rfl
  rw [e] at hw
  obtain ⟨i, -, hi⟩ := List.mem_filterMap.mp hw
  exact jmem hi hg
theorem jcl_8 : jclass 8 RX8 TX8 15 := ⟨rfl, jin_8, ⟨tyX8, tyX8_ok, by decide +kernel⟩, nmX8, by decide +kernel, by decide +kernel, by decide +kernel⟩
set_option maxRecDepth 100000 in
theorem jin_9 : ∀ w ∈ u_ws RX9 TX9 2, w ∈ jtbl := by
  have e : u_ws RX9 TX9 2 = [128, 130].filterMap (fun i => lw_tbl[i]?) := by decide +kernel
  intro w hw
  obtain ⟨k, -, hk⟩ := List.mem_map.mp hw
  have hg : jkeepw w = true := by rw [← hk]; unfold u_lay; split <;> rfl
  rw [e] at hw
  obtain ⟨i, -, hi⟩ := List.mem_filterMap.mp hw
  exact jmem hi hg
theorem jcl_9 : jclass 9 RX9 TX9 2 := ⟨rfl, jin_9, ⟨tyX9, tyX9_ok, by decide +kernel⟩, nmX9, by decide +kernel, by decide +kernel, by decide +kernel⟩
set_option maxRecDepth 100000 in
theorem jin_10 : ∀ w ∈ u_ws RX10 TX10 4, w ∈ jtbl := by
  have e : u_ws RX10 TX10 4 = [320, 322, 324, 326].filterMap (fun i => lw_tbl[i]?) := by decide +kernel
  intro w hw
  obtain ⟨k, -, hk⟩ := List.mem_map.mp hw
  have hg : jkeepw w = true := by rw [← hk]; unfold u_lay; split <;> rfl
  rw [e] at hw
  obtain ⟨i, -, hi⟩ := List.mem_filterMap.mp hw
  exact jmem hi hg
theorem jcl_10 : jclass 10 RX10 TX10 4 := ⟨rfl, jin_10, ⟨tyX10, tyX10_ok, by decide +kernel⟩, nmX10, by decide +kernel, by decide +kernel, by decide +kernel⟩
set_option maxRecDepth 100000 in
theorem jin_11 : ∀ w ∈ u_ws RX11 TX11 14, w ∈ jtbl := by
  have e : u_ws RX11 TX11 14 = [376, 378, 380, 382, 384, 386, 388, 390, 392, 394, 396, 398, 400, 402].filterMap (fun i => lw_tbl[i]?) := by decide +kernel
  intro w hw
  obtain ⟨k, -, hk⟩ := List.mem_map.mp hw
  have hg : jkeepw w = true := by rw [← hk]; unfold u_lay; split <;> rfl
  rw [e] at hw
  obtain ⟨i, -, hi⟩ := List.mem_filterMap.mp hw
  exact jmem hi hg
theorem jcl_11 : jclass 11 RX11 TX11 14 := ⟨rfl, jin_11, ⟨tyX11, tyX11_ok, by decide +kernel⟩, nmX11, by decide +kernel, by decide +kernel, by decide +kernel⟩
set_option maxRecDepth 100000 in
theorem jin_12 : ∀ w ∈ u_ws RX12 TX12 52, w ∈ jtbl := by
  have e : u_ws RX12 TX12 52 = [1149, 1151, 1153, 1155, 1157, 1159, 1161, 1163, 1165, 1167, 1169, 1171, 1173, 1175, 1177, 1179, 1181, 1183, 1185, 1187, 1189, 1191, 1193, 1195, 1197, 1199, 1201, 1203, 1205, 1207, 1209, 1211, 1213, 1215, 1217, 1219, 1221, 1223, 1225, 1227, 1229, 1231, 1233, 1235, 1237, 1239, 1241, 1243, 1245, 1247, 1249, 1251].filterMap (fun i => lw_tbl[i]?) := by decide +kernel
  intro w hw
  obtain ⟨k, -, hk⟩ := List.mem_map.mp hw
  have hg : jkeepw w = true := by rw [← hk]; unfold u_lay; split <;> rfl
  rw [e] at hw
  obtain ⟨i, -, hi⟩ := List.mem_filterMap.mp hw
  exact jmem hi hg
theorem jcl_12 : jclass 12 RX12 TX12 52 := ⟨rfl, jin_12, ⟨tyX12, tyX12_ok, by decide +kernel⟩, nmX12, by decide +kernel, by decide +kernel, by decide +kernel⟩
theorem jclass_all : ∀ (ci : Nat) (q : vw_C), vwCl[ci]? = some q → jclass ci q.1 q.2.1 q.2.2
  | 0, _, h => by cases h; exact jcl_0
  | 1, _, h => by cases h; exact jcl_1
  | 2, _, h => by cases h; exact jcl_2
  | 3, _, h => by cases h; exact jcl_3
  | 4, _, h => by cases h; exact jcl_4
  | 5, _, h => by cases h; exact jcl_5
  | 6, _, h => by cases h; exact jcl_6
  | 7, _, h => by cases h; exact jcl_7
  | 8, _, h => by cases h; exact jcl_8
  | 9, _, h => by cases h; exact jcl_9
  | 10, _, h => by cases h; exact jcl_10
  | 11, _, h => by cases h; exact jcl_11
  | 12, _, h => by cases h; exact jcl_12
  | n + 13, _, h => by cases h
