/-! words of the tables, by their places -/
theorem ku_0 : ∀ w ∈ u_ws RX0 TX0 7, w ∈ kw := by
  have h : u_ws RX0 TX0 7 = [237, 239, 241, 243, 245, 247, 249].filterMap (fun i => lw_tbl[i]?) := by decide +kernel
  have hg : (u_ws RX0 TX0 7).all goodWord = true := by decide +kernel
  intro w hw
  have h1 := List.all_eq_true.mp hg w hw
  rw [h] at hw
  obtain ⟨i, -, hi⟩ := List.mem_filterMap.mp hw
  exact kw_of i hi h1
theorem ku_1 : ∀ w ∈ u_ws RX1 TX1 10, w ∈ kw := by
  have h : u_ws RX1 TX1 10 = [202, 204, 206, 208, 210, 212, 214, 216, 218, 220].filterMap (fun i => lw_tbl[i]?) := by decide +kernel
  have hg : (u_ws RX1 TX1 10).all goodWord = true := by decide +kernel
  intro w hw
  have h1 := List.all_eq_true.mp hg w hw
  rw [h] at hw
  obtain ⟨i, -, hi⟩ := List.mem_filterMap.mp hw
  exact kw_of i hi h1
theorem ku_2 : ∀ w ∈ u_ws RX2 TX2 7, w ∈ kw := by
  have h : u_ws RX2 TX2 7 = [134, 136, 138, 140, 142, 144, 146].filterMap (fun i => lw_tbl[i]?) := by decide +kernel
  have hg : (u_ws RX2 TX2 7).all goodWord = true := by decide +kernel
  intro w hw
  have h1 := List.all_eq_true.mp hg w hw
  rw [h] at hw
  obtain ⟨i, -, hi⟩ := List.mem_filterMap.mp hw
  exact kw_of i hi h1
theorem ku_3 : ∀ w ∈ u_ws RX3 TX3 3, w ∈ kw := by
  have h : u_ws RX3 TX3 3 = [78, 80, 82].filterMap (fun i => lw_tbl[i]?) := by decide +kernel
  have hg : (u_ws RX3 TX3 3).all goodWord = true := by decide +kernel
  intro w hw
  have h1 := List.all_eq_true.mp hg w hw
  rw [h] at hw
  obtain ⟨i, -, hi⟩ := List.mem_filterMap.mp hw
  exact kw_of i hi h1
theorem ku_4 : ∀ w ∈ u_ws RX4 TX4 3, w ∈ kw := by
  have h : u_ws RX4 TX4 3 = [99, 101, 103].filterMap (fun i => lw_tbl[i]?) := by decide +kernel
  have hg : (u_ws RX4 TX4 3).all goodWord = true := by decide +kernel
  intro w hw
  have h1 := List.all_eq_true.mp hg w hw
  rw [h] at hw
  obtain ⟨i, -, hi⟩ := List.mem_filterMap.mp hw
  exact kw_of i hi h1
theorem ku_5 : ∀ w ∈ u_ws RX5 TX5 8, w ∈ kw := by
  have h : u_ws RX5 TX5 8 = [165, 167, 169, 171, 173, 175, 177, 179].filterMap (fun i => lw_tbl[i]?) := by decide +kernel
  have hg : (u_ws RX5 TX5 8).all goodWord = true := by decide +kernel
  intro w hw
  have h1 := List.all_eq_true.mp hg w hw
  rw [h] at hw
  obtain ⟨i, -, hi⟩ := List.mem_filterMap.mp hw
  exact kw_of i hi h1
theorem ku_6 : ∀ w ∈ u_ws RX6 TX6 4, w ∈ kw := by
  have h : u_ws RX6 TX6 4 = [263, 265, 267, 269].filterMap (fun i => lw_tbl[i]?) := by decide +kernel
  have hg : (u_ws RX6 TX6 4).all goodWord = true := by decide +kernel
  intro w hw
  have h1 := List.all_eq_true.mp hg w hw
  rw [h] at hw
  obtain ⟨i, -, hi⟩ := List.mem_filterMap.mp hw
  exact kw_of i hi h1
theorem ku_7 : ∀ w ∈ u_ws RX7 TX7 7, w ∈ kw := by
  have h : u_ws RX7 TX7 7 = [279, 281, 283, 285, 287, 289, 291].filterMap (fun i => lw_tbl[i]?) := by decide +kernel
  have hg : (u_ws RX7 TX7 7).all goodWord = true := by decide +kernel
  intro w hw
  have h1 := List.all_eq_true.mp hg w hw
  rw [h] at hw
  obtain ⟨i, -, hi⟩ := List.mem_filterMap.mp hw
  exact kw_of i hi h1
theorem ku_8 : ∀ w ∈ u_ws RX8 TX8 26, w ∈ kw := by
  have h : u_ws RX8 TX8 26 = [680, 682, 684, 686, 688, 690, 692, 694, 696, 698, 700, 702, 704, 706, 708, 710, 712, 714, 716, 718, 720, 722, 724, 726, 728, 730].filterMap (fun i => lw_tbl[i]?) := by decide +kernel
  have hg : (u_ws RX8 TX8 26).all goodWord = true := by decide +kernel
  intro w hw
  have h1 := List.all_eq_true.mp hg w hw
  rw [h] at hw
  obtain ⟨i, -, hi⟩ := List.mem_filterMap.mp hw
  exact kw_of i hi h1
theorem kl_RX7_10 : Cond.fieldLink RX7 10 (TX7 0).1 (TX7 0).2.1 (TX7 0).2.2.1 ∈ kw := kw_of 272 (by decide +kernel) (by decide +kernel)
theorem kl_RX7_19 : Cond.fieldLink RX7 19 (TX7 1).1 (TX7 1).2.1 (TX7 1).2.2.1 ∈ kw := kw_of 273 (by decide +kernel) (by decide +kernel)
theorem kl_RX7_26 : Cond.fieldLink RX7 26 (TX7 2).1 (TX7 2).2.1 (TX7 2).2.2.1 ∈ kw := kw_of 274 (by decide +kernel) (by decide +kernel)
theorem kl_RX7_32 : Cond.fieldLink RX7 32 (TX4 2).1 (TX4 2).2.1 (TX4 2).2.2.1 ∈ kw := kw_of 98 (by decide +kernel) (by decide +kernel)
theorem kl_RX7_39 : Cond.fieldLink RX7 39 (TX7 3).1 (TX7 3).2.1 (TX7 3).2.2.1 ∈ kw := kw_of 275 (by decide +kernel) (by decide +kernel)
theorem kl_RX7_46 : Cond.fieldLink RX7 46 (TX7 4).1 (TX7 4).2.1 (TX7 4).2.2.1 ∈ kw := kw_of 276 (by decide +kernel) (by decide +kernel)
theorem kl_RX7_53 : Cond.fieldLink RX7 53 (TX7 5).1 (TX7 5).2.1 (TX7 5).2.2.1 ∈ kw := kw_of 277 (by decide +kernel) (by decide +kernel)
theorem kl_RX7_62 : Cond.fieldLink RX7 62 (TX7 6).1 (TX7 6).2.1 (TX7 6).2.2.1 ∈ kw := kw_of 278 (by decide +kernel) (by decide +kernel)
theorem kl_RX7_66 : Cond.fieldLink RX7 66 (TX3 0).1 (TX3 0).2.1 (TX3 0).2.2.1 ∈ kw := kw_of 70 (by decide +kernel) (by decide +kernel)
theorem kl_RX7_74 : Cond.fieldLink RX7 74 (TX5 4).1 (TX5 4).2.1 (TX5 4).2.2.1 ∈ kw := kw_of 161 (by decide +kernel) (by decide +kernel)
theorem kl_RX7_85 : Cond.fieldLink RX7 85 (TX4 1).1 (TX4 1).2.1 (TX4 1).2.2.1 ∈ kw := kw_of 96 (by decide +kernel) (by decide +kernel)
theorem kl_RX7_99 : Cond.fieldLink RX7 99 (TX2 0).1 (TX2 0).2.1 (TX2 0).2.2.1 ∈ kw := kw_of 118 (by decide +kernel) (by decide +kernel)
theorem kl_RX7_112 : Cond.fieldLink RX7 112 (TX2 4).1 (TX2 4).2.1 (TX2 4).2.2.1 ∈ kw := kw_of 129 (by decide +kernel) (by decide +kernel)
theorem kl_RX7_115 : Cond.fieldLink RX7 115 (TX2 6).1 (TX2 6).2.1 (TX2 6).2.2.1 ∈ kw := kw_of 133 (by decide +kernel) (by decide +kernel)
theorem kl_RX7_118 : Cond.fieldLink RX7 118 (TX2 5).1 (TX2 5).2.1 (TX2 5).2.2.1 ∈ kw := kw_of 131 (by decide +kernel) (by decide +kernel)
theorem kl_RX7_138 : Cond.fieldLink RX7 138 (TX3 2).1 (TX3 2).2.1 (TX3 2).2.2.1 ∈ kw := kw_of 77 (by decide +kernel) (by decide +kernel)
theorem kl_RX7_145 : Cond.fieldLink RX7 145 (TX5 3).1 (TX5 3).2.1 (TX5 3).2.2.1 ∈ kw := kw_of 159 (by decide +kernel) (by decide +kernel)
theorem kl_RX7_174 : Cond.fieldLink RX7 174 (TX1 7).1 (TX1 7).2.1 (TX1 7).2.2.1 ∈ kw := kw_of 197 (by decide +kernel) (by decide +kernel)
theorem kl_RX7_177 : Cond.fieldLink RX7 177 (TX1 8).1 (TX1 8).2.1 (TX1 8).2.2.1 ∈ kw := kw_of 199 (by decide +kernel) (by decide +kernel)
theorem kl_RX7_183 : Cond.fieldLink RX7 183 (TX1 6).1 (TX1 6).2.1 (TX1 6).2.2.1 ∈ kw := kw_of 195 (by decide +kernel) (by decide +kernel)
theorem kl_RX7_190 : Cond.fieldLink RX7 190 (TX1 9).1 (TX1 9).2.1 (TX1 9).2.2.1 ∈ kw := kw_of 201 (by decide +kernel) (by decide +kernel)
theorem kl_RX0_9 : Cond.fieldLink RX0 9 (TX0 3).1 (TX0 3).2.1 (TX0 3).2.2.1 ∈ kw := kw_of 233 (by decide +kernel) (by decide +kernel)
theorem kl_RX0_15 : Cond.fieldLink RX0 15 (TX0 4).1 (TX0 4).2.1 (TX0 4).2.2.1 ∈ kw := kw_of 234 (by decide +kernel) (by decide +kernel)
theorem kl_RX0_18 : Cond.fieldLink RX0 18 (TX0 5).1 (TX0 5).2.1 (TX0 5).2.2.1 ∈ kw := kw_of 235 (by decide +kernel) (by decide +kernel)
theorem kl_RX0_22 : Cond.fieldLink RX0 22 (TX0 6).1 (TX0 6).2.1 (TX0 6).2.2.1 ∈ kw := kw_of 236 (by decide +kernel) (by decide +kernel)
theorem kl_RX0_25 : Cond.fieldLink RX0 25 (TX0 0).1 (TX0 0).2.1 (TX0 0).2.2.1 ∈ kw := kw_of 230 (by decide +kernel) (by decide +kernel)
theorem kl_RX0_29 : Cond.fieldLink RX0 29 (TX0 1).1 (TX0 1).2.1 (TX0 1).2.2.1 ∈ kw := kw_of 231 (by decide +kernel) (by decide +kernel)
theorem kl_RX0_33 : Cond.fieldLink RX0 33 (TX0 2).1 (TX0 2).2.1 (TX0 2).2.2.1 ∈ kw := kw_of 232 (by decide +kernel) (by decide +kernel)
theorem kl_RX0_44 : Cond.fieldLink RX0 44 (TX3 0).1 (TX3 0).2.1 (TX3 0).2.2.1 ∈ kw := kw_of 71 (by decide +kernel) (by decide +kernel)
theorem kl_RX0_54 : Cond.fieldLink RX0 54 (TX2 0).1 (TX2 0).2.1 (TX2 0).2.2.1 ∈ kw := kw_of 116 (by decide +kernel) (by decide +kernel)
theorem kl_RX0_57 : Cond.fieldLink RX0 57 (TX2 4).1 (TX2 4).2.1 (TX2 4).2.2.1 ∈ kw := kw_of 126 (by decide +kernel) (by decide +kernel)
theorem kl_RX1_9 : Cond.fieldLink RX1 9 (TX1 3).1 (TX1 3).2.1 (TX1 3).2.2.1 ∈ kw := kw_of 191 (by decide +kernel) (by decide +kernel)
theorem kl_RX1_15 : Cond.fieldLink RX1 15 (TX1 4).1 (TX1 4).2.1 (TX1 4).2.2.1 ∈ kw := kw_of 192 (by decide +kernel) (by decide +kernel)
theorem kl_RX1_19 : Cond.fieldLink RX1 19 (TX1 6).1 (TX1 6).2.1 (TX1 6).2.2.1 ∈ kw := kw_of 194 (by decide +kernel) (by decide +kernel)
theorem kl_RX1_22 : Cond.fieldLink RX1 22 (TX1 0).1 (TX1 0).2.1 (TX1 0).2.2.1 ∈ kw := kw_of 188 (by decide +kernel) (by decide +kernel)
theorem kl_RX1_26 : Cond.fieldLink RX1 26 (TX1 1).1 (TX1 1).2.1 (TX1 1).2.2.1 ∈ kw := kw_of 189 (by decide +kernel) (by decide +kernel)
theorem kl_RX1_30 : Cond.fieldLink RX1 30 (TX1 2).1 (TX1 2).2.1 (TX1 2).2.2.1 ∈ kw := kw_of 190 (by decide +kernel) (by decide +kernel)
theorem kl_RX1_34 : Cond.fieldLink RX1 34 (TX1 7).1 (TX1 7).2.1 (TX1 7).2.2.1 ∈ kw := kw_of 196 (by decide +kernel) (by decide +kernel)
theorem kl_RX1_41 : Cond.fieldLink RX1 41 (TX1 9).1 (TX1 9).2.1 (TX1 9).2.2.1 ∈ kw := kw_of 200 (by decide +kernel) (by decide +kernel)
theorem kl_RX1_45 : Cond.fieldLink RX1 45 (TX1 5).1 (TX1 5).2.1 (TX1 5).2.2.1 ∈ kw := kw_of 193 (by decide +kernel) (by decide +kernel)
theorem kl_RX1_52 : Cond.fieldLink RX1 52 (TX3 0).1 (TX3 0).2.1 (TX3 0).2.2.1 ∈ kw := kw_of 72 (by decide +kernel) (by decide +kernel)
theorem kl_RX1_61 : Cond.fieldLink RX1 61 (TX2 0).1 (TX2 0).2.1 (TX2 0).2.2.1 ∈ kw := kw_of 117 (by decide +kernel) (by decide +kernel)
theorem kl_RX1_76 : Cond.fieldLink RX1 76 (TX1 8).1 (TX1 8).2.1 (TX1 8).2.2.1 ∈ kw := kw_of 198 (by decide +kernel) (by decide +kernel)
theorem kl_RX1_80 : Cond.fieldLink RX1 80 (TX2 4).1 (TX2 4).2.1 (TX2 4).2.2.1 ∈ kw := kw_of 127 (by decide +kernel) (by decide +kernel)
theorem kl_RX2_9 : Cond.fieldLink RX2 9 (TX2 1).1 (TX2 1).2.1 (TX2 1).2.2.1 ∈ kw := kw_of 119 (by decide +kernel) (by decide +kernel)
theorem kl_RX2_15 : Cond.fieldLink RX2 15 (TX2 2).1 (TX2 2).2.1 (TX2 2).2.2.1 ∈ kw := kw_of 121 (by decide +kernel) (by decide +kernel)
theorem kl_RX2_20 : Cond.fieldLink RX2 20 (TX2 3).1 (TX2 3).2.1 (TX2 3).2.2.1 ∈ kw := kw_of 123 (by decide +kernel) (by decide +kernel)
theorem kl_RX2_23 : Cond.fieldLink RX2 23 (TX2 4).1 (TX2 4).2.1 (TX2 4).2.2.1 ∈ kw := kw_of 125 (by decide +kernel) (by decide +kernel)
theorem kl_RX2_26 : Cond.fieldLink RX2 26 (TX2 5).1 (TX2 5).2.1 (TX2 5).2.2.1 ∈ kw := kw_of 130 (by decide +kernel) (by decide +kernel)
theorem kl_RX2_29 : Cond.fieldLink RX2 29 (TX2 0).1 (TX2 0).2.1 (TX2 0).2.2.1 ∈ kw := kw_of 113 (by decide +kernel) (by decide +kernel)
theorem kl_RX2_37 : Cond.fieldLink RX2 37 (TX2 6).1 (TX2 6).2.1 (TX2 6).2.2.1 ∈ kw := kw_of 132 (by decide +kernel) (by decide +kernel)
theorem kl_RX3_9 : Cond.fieldLink RX3 9 (TX3 0).1 (TX3 0).2.1 (TX3 0).2.2.1 ∈ kw := kw_of 68 (by decide +kernel) (by decide +kernel)
theorem kl_RX3_15 : Cond.fieldLink RX3 15 (TX3 1).1 (TX3 1).2.1 (TX3 1).2.2.1 ∈ kw := kw_of 73 (by decide +kernel) (by decide +kernel)
theorem kl_RX3_19 : Cond.fieldLink RX3 19 (TX3 2).1 (TX3 2).2.1 (TX3 2).2.2.1 ∈ kw := kw_of 75 (by decide +kernel) (by decide +kernel)
theorem kl_RX4_11 : Cond.fieldLink RX4 11 (TX4 0).1 (TX4 0).2.1 (TX4 0).2.2.1 ∈ kw := kw_of 94 (by decide +kernel) (by decide +kernel)
theorem kl_RX4_16 : Cond.fieldLink RX4 16 (TX4 1).1 (TX4 1).2.1 (TX4 1).2.2.1 ∈ kw := kw_of 95 (by decide +kernel) (by decide +kernel)
theorem kl_RX4_20 : Cond.fieldLink RX4 20 (TX4 2).1 (TX4 2).2.1 (TX4 2).2.2.1 ∈ kw := kw_of 97 (by decide +kernel) (by decide +kernel)
theorem kl_RX5_9 : Cond.fieldLink RX5 9 (TX5 3).1 (TX5 3).2.1 (TX5 3).2.2.1 ∈ kw := kw_of 158 (by decide +kernel) (by decide +kernel)
theorem kl_RX5_15 : Cond.fieldLink RX5 15 (TX5 0).1 (TX5 0).2.1 (TX5 0).2.2.1 ∈ kw := kw_of 155 (by decide +kernel) (by decide +kernel)
theorem kl_RX5_19 : Cond.fieldLink RX5 19 (TX5 1).1 (TX5 1).2.1 (TX5 1).2.2.1 ∈ kw := kw_of 156 (by decide +kernel) (by decide +kernel)
theorem kl_RX5_23 : Cond.fieldLink RX5 23 (TX5 2).1 (TX5 2).2.1 (TX5 2).2.2.1 ∈ kw := kw_of 157 (by decide +kernel) (by decide +kernel)
theorem kl_RX5_27 : Cond.fieldLink RX5 27 (TX3 0).1 (TX3 0).2.1 (TX3 0).2.2.1 ∈ kw := kw_of 69 (by decide +kernel) (by decide +kernel)
theorem kl_RX5_33 : Cond.fieldLink RX5 33 (TX5 4).1 (TX5 4).2.1 (TX5 4).2.2.1 ∈ kw := kw_of 160 (by decide +kernel) (by decide +kernel)
theorem kl_RX5_41 : Cond.fieldLink RX5 41 (TX3 1).1 (TX3 1).2.1 (TX3 1).2.2.1 ∈ kw := kw_of 74 (by decide +kernel) (by decide +kernel)
theorem kl_RX5_48 : Cond.fieldLink RX5 48 (TX2 0).1 (TX2 0).2.1 (TX2 0).2.2.1 ∈ kw := kw_of 115 (by decide +kernel) (by decide +kernel)
theorem kl_RX5_51 : Cond.fieldLink RX5 51 (TX3 2).1 (TX3 2).2.1 (TX3 2).2.2.1 ∈ kw := kw_of 76 (by decide +kernel) (by decide +kernel)
theorem kl_RX5_57 : Cond.fieldLink RX5 57 (TX2 4).1 (TX2 4).2.1 (TX2 4).2.2.1 ∈ kw := kw_of 128 (by decide +kernel) (by decide +kernel)
theorem kl_RX5_79 : Cond.fieldLink RX5 79 (TX5 6).1 (TX5 6).2.1 (TX5 6).2.2.1 ∈ kw := kw_of 163 (by decide +kernel) (by decide +kernel)
theorem kl_RX5_82 : Cond.fieldLink RX5 82 (TX5 7).1 (TX5 7).2.1 (TX5 7).2.2.1 ∈ kw := kw_of 164 (by decide +kernel) (by decide +kernel)
theorem kl_RX5_85 : Cond.fieldLink RX5 85 (TX5 5).1 (TX5 5).2.1 (TX5 5).2.2.1 ∈ kw := kw_of 162 (by decide +kernel) (by decide +kernel)
theorem kl_RX6_9 : Cond.fieldLink RX6 9 (TX6 1).1 (TX6 1).2.1 (TX6 1).2.2.1 ∈ kw := kw_of 260 (by decide +kernel) (by decide +kernel)
theorem kl_RX6_15 : Cond.fieldLink RX6 15 (TX6 2).1 (TX6 2).2.1 (TX6 2).2.2.1 ∈ kw := kw_of 261 (by decide +kernel) (by decide +kernel)
theorem kl_RX6_18 : Cond.fieldLink RX6 18 (TX6 3).1 (TX6 3).2.1 (TX6 3).2.2.1 ∈ kw := kw_of 262 (by decide +kernel) (by decide +kernel)
theorem kl_RX6_22 : Cond.fieldLink RX6 22 (TX6 0).1 (TX6 0).2.1 (TX6 0).2.2.1 ∈ kw := kw_of 259 (by decide +kernel) (by decide +kernel)
theorem kl_RX6_36 : Cond.fieldLink RX6 36 (TX2 0).1 (TX2 0).2.1 (TX2 0).2.2.1 ∈ kw := kw_of 114 (by decide +kernel) (by decide +kernel)
theorem kl_RX6_50 : Cond.fieldLink RX6 50 (TX2 1).1 (TX2 1).2.1 (TX2 1).2.2.1 ∈ kw := kw_of 120 (by decide +kernel) (by decide +kernel)
theorem kl_RX6_53 : Cond.fieldLink RX6 53 (TX2 2).1 (TX2 2).2.1 (TX2 2).2.2.1 ∈ kw := kw_of 122 (by decide +kernel) (by decide +kernel)
theorem kl_RX6_56 : Cond.fieldLink RX6 56 (TX2 3).1 (TX2 3).2.1 (TX2 3).2.2.1 ∈ kw := kw_of 124 (by decide +kernel) (by decide +kernel)
theorem kl_RX8_7 : Cond.fieldLink RX8 7 (TX8 0).1 (TX8 0).2.1 (TX8 0).2.2.1 ∈ kw := kw_of 654 (by decide +kernel) (by decide +kernel)
theorem kl_RX8_13 : Cond.fieldLink RX8 13 (TX8 1).1 (TX8 1).2.1 (TX8 1).2.2.1 ∈ kw := kw_of 655 (by decide +kernel) (by decide +kernel)
theorem kl_RX8_17 : Cond.fieldLink RX8 17 (TX8 2).1 (TX8 2).2.1 (TX8 2).2.2.1 ∈ kw := kw_of 656 (by decide +kernel) (by decide +kernel)
theorem kl_RX8_21 : Cond.fieldLink RX8 21 (TX8 3).1 (TX8 3).2.1 (TX8 3).2.2.1 ∈ kw := kw_of 657 (by decide +kernel) (by decide +kernel)
theorem kl_RX8_24 : Cond.fieldLink RX8 24 (TX8 4).1 (TX8 4).2.1 (TX8 4).2.2.1 ∈ kw := kw_of 658 (by decide +kernel) (by decide +kernel)
theorem kl_RX8_27 : Cond.fieldLink RX8 27 (TX8 6).1 (TX8 6).2.1 (TX8 6).2.2.1 ∈ kw := kw_of 660 (by decide +kernel) (by decide +kernel)
theorem kl_RX8_30 : Cond.fieldLink RX8 30 (TX8 7).1 (TX8 7).2.1 (TX8 7).2.2.1 ∈ kw := kw_of 661 (by decide +kernel) (by decide +kernel)
theorem kl_RX8_33 : Cond.fieldLink RX8 33 (TX8 8).1 (TX8 8).2.1 (TX8 8).2.2.1 ∈ kw := kw_of 662 (by decide +kernel) (by decide +kernel)
theorem kl_RX8_36 : Cond.fieldLink RX8 36 (TX8 9).1 (TX8 9).2.1 (TX8 9).2.2.1 ∈ kw := kw_of 663 (by decide +kernel) (by decide +kernel)
theorem kl_RX8_39 : Cond.fieldLink RX8 39 (TX8 11).1 (TX8 11).2.1 (TX8 11).2.2.1 ∈ kw := kw_of 665 (by decide +kernel) (by decide +kernel)
theorem kl_RX8_42 : Cond.fieldLink RX8 42 (TX8 13).1 (TX8 13).2.1 (TX8 13).2.2.1 ∈ kw := kw_of 667 (by decide +kernel) (by decide +kernel)
theorem kl_RX8_45 : Cond.fieldLink RX8 45 (TX8 17).1 (TX8 17).2.1 (TX8 17).2.2.1 ∈ kw := kw_of 671 (by decide +kernel) (by decide +kernel)
theorem kl_RX8_48 : Cond.fieldLink RX8 48 (TX8 18).1 (TX8 18).2.1 (TX8 18).2.2.1 ∈ kw := kw_of 672 (by decide +kernel) (by decide +kernel)
theorem kl_RX8_51 : Cond.fieldLink RX8 51 (TX8 19).1 (TX8 19).2.1 (TX8 19).2.2.1 ∈ kw := kw_of 673 (by decide +kernel) (by decide +kernel)
theorem kl_RX8_55 : Cond.fieldLink RX8 55 (TX8 20).1 (TX8 20).2.1 (TX8 20).2.2.1 ∈ kw := kw_of 674 (by decide +kernel) (by decide +kernel)
theorem kl_RX8_58 : Cond.fieldLink RX8 58 (TX8 21).1 (TX8 21).2.1 (TX8 21).2.2.1 ∈ kw := kw_of 675 (by decide +kernel) (by decide +kernel)
theorem kl_RX8_61 : Cond.fieldLink RX8 61 (TX8 22).1 (TX8 22).2.1 (TX8 22).2.2.1 ∈ kw := kw_of 676 (by decide +kernel) (by decide +kernel)
theorem kl_RX8_64 : Cond.fieldLink RX8 64 (TX8 23).1 (TX8 23).2.1 (TX8 23).2.2.1 ∈ kw := kw_of 677 (by decide +kernel) (by decide +kernel)
theorem kl_RX8_67 : Cond.fieldLink RX8 67 (TX8 24).1 (TX8 24).2.1 (TX8 24).2.2.1 ∈ kw := kw_of 678 (by decide +kernel) (by decide +kernel)
theorem kl_RX8_70 : Cond.fieldLink RX8 70 (TX8 25).1 (TX8 25).2.1 (TX8 25).2.2.1 ∈ kw := kw_of 679 (by decide +kernel) (by decide +kernel)
theorem kl_RX8_80 : Cond.fieldLink RX8 80 (TX8 5).1 (TX8 5).2.1 (TX8 5).2.2.1 ∈ kw := kw_of 659 (by decide +kernel) (by decide +kernel)
theorem kl_RX8_83 : Cond.fieldLink RX8 83 (TX8 10).1 (TX8 10).2.1 (TX8 10).2.2.1 ∈ kw := kw_of 664 (by decide +kernel) (by decide +kernel)
theorem kl_RX8_87 : Cond.fieldLink RX8 87 (TX8 12).1 (TX8 12).2.1 (TX8 12).2.2.1 ∈ kw := kw_of 666 (by decide +kernel) (by decide +kernel)
theorem kl_RX8_104 : Cond.fieldLink RX8 104 (TX8 16).1 (TX8 16).2.1 (TX8 16).2.2.1 ∈ kw := kw_of 670 (by decide +kernel) (by decide +kernel)
theorem kl_RX8_138 : Cond.fieldLink RX8 138 (TX8 15).1 (TX8 15).2.1 (TX8 15).2.2.1 ∈ kw := kw_of 669 (by decide +kernel) (by decide +kernel)
theorem kl_RX8_145 : Cond.fieldLink RX8 145 (TX8 14).1 (TX8 14).2.1 (TX8 14).2.2.1 ∈ kw := kw_of 668 (by decide +kernel) (by decide +kernel)
theorem gf_RX7_10 : Gf RX7 10 7 0 := ⟨_, _, _, rfl, by decide, ku_7, kl_RX7_10⟩
theorem gf_RX7_19 : Gf RX7 19 7 1 := ⟨_, _, _, rfl, by decide, ku_7, kl_RX7_19⟩
theorem gf_RX7_26 : Gf RX7 26 7 2 := ⟨_, _, _, rfl, by decide, ku_7, kl_RX7_26⟩
theorem gf_RX7_32 : Gf RX7 32 4 2 := ⟨_, _, _, rfl, by decide, ku_4, kl_RX7_32⟩
theorem gf_RX7_39 : Gf RX7 39 7 3 := ⟨_, _, _, rfl, by decide, ku_7, kl_RX7_39⟩
theorem gf_RX7_46 : Gf RX7 46 7 4 := ⟨_, _, _, rfl, by decide, ku_7, kl_RX7_46⟩
theorem gf_RX7_53 : Gf RX7 53 7 5 := ⟨_, _, _, rfl, by decide, ku_7, kl_RX7_53⟩
theorem gf_RX7_62 : Gf RX7 62 7 6 := ⟨_, _, _, rfl, by decide, ku_7, kl_RX7_62⟩
theorem gf_RX7_66 : Gf RX7 66 3 0 := ⟨_, _, _, rfl, by decide, ku_3, kl_RX7_66⟩
theorem gf_RX7_74 : Gf RX7 74 5 4 := ⟨_, _, _, rfl, by decide, ku_5, kl_RX7_74⟩
theorem gf_RX7_85 : Gf RX7 85 4 1 := ⟨_, _, _, rfl, by decide, ku_4, kl_RX7_85⟩
theorem gf_RX7_99 : Gf RX7 99 2 0 := ⟨_, _, _, rfl, by decide, ku_2, kl_RX7_99⟩
theorem gf_RX7_112 : Gf RX7 112 2 4 := ⟨_, _, _, rfl, by decide, ku_2, kl_RX7_112⟩
theorem gf_RX7_115 : Gf RX7 115 2 6 := ⟨_, _, _, rfl, by decide, ku_2, kl_RX7_115⟩
theorem gf_RX7_118 : Gf RX7 118 2 5 := ⟨_, _, _, rfl, by decide, ku_2, kl_RX7_118⟩
theorem gf_RX7_138 : Gf RX7 138 3 2 := ⟨_, _, _, rfl, by decide, ku_3, kl_RX7_138⟩
theorem gf_RX7_145 : Gf RX7 145 5 3 := ⟨_, _, _, rfl, by decide, ku_5, kl_RX7_145⟩
theorem gf_RX7_174 : Gf RX7 174 1 7 := ⟨_, _, _, rfl, by decide, ku_1, kl_RX7_174⟩
theorem gf_RX7_177 : Gf RX7 177 1 8 := ⟨_, _, _, rfl, by decide, ku_1, kl_RX7_177⟩
theorem gf_RX7_183 : Gf RX7 183 1 6 := ⟨_, _, _, rfl, by decide, ku_1, kl_RX7_183⟩
theorem gf_RX7_190 : Gf RX7 190 1 9 := ⟨_, _, _, rfl, by decide, ku_1, kl_RX7_190⟩
theorem gf_RX0_9 : Gf RX0 9 0 3 := ⟨_, _, _, rfl, by decide, ku_0, kl_RX0_9⟩
theorem gf_RX0_15 : Gf RX0 15 0 4 := ⟨_, _, _, rfl, by decide, ku_0, kl_RX0_15⟩
theorem gf_RX0_18 : Gf RX0 18 0 5 := ⟨_, _, _, rfl, by decide, ku_0, kl_RX0_18⟩
theorem gf_RX0_22 : Gf RX0 22 0 6 := ⟨_, _, _, rfl, by decide, ku_0, kl_RX0_22⟩
theorem gf_RX0_25 : Gf RX0 25 0 0 := ⟨_, _, _, rfl, by decide, ku_0, kl_RX0_25⟩
theorem gf_RX0_29 : Gf RX0 29 0 1 := ⟨_, _, _, rfl, by decide, ku_0, kl_RX0_29⟩
theorem gf_RX0_33 : Gf RX0 33 0 2 := ⟨_, _, _, rfl, by decide, ku_0, kl_RX0_33⟩
theorem gf_RX0_44 : Gf RX0 44 3 0 := ⟨_, _, _, rfl, by decide, ku_3, kl_RX0_44⟩
theorem gf_RX0_54 : Gf RX0 54 2 0 := ⟨_, _, _, rfl, by decide, ku_2, kl_RX0_54⟩
theorem gf_RX0_57 : Gf RX0 57 2 4 := ⟨_, _, _, rfl, by decide, ku_2, kl_RX0_57⟩
theorem gf_RX1_9 : Gf RX1 9 1 3 := ⟨_, _, _, rfl, by decide, ku_1, kl_RX1_9⟩
theorem gf_RX1_15 : Gf RX1 15 1 4 := ⟨_, _, _, rfl, by decide, ku_1, kl_RX1_15⟩
theorem gf_RX1_19 : Gf RX1 19 1 6 := ⟨_, _, _, rfl, by decide, ku_1, kl_RX1_19⟩
theorem gf_RX1_22 : Gf RX1 22 1 0 := ⟨_, _, _, rfl, by decide, ku_1, kl_RX1_22⟩
theorem gf_RX1_26 : Gf RX1 26 1 1 := ⟨_, _, _, rfl, by decide, ku_1, kl_RX1_26⟩
theorem gf_RX1_30 : Gf RX1 30 1 2 := ⟨_, _, _, rfl, by decide, ku_1, kl_RX1_30⟩
theorem gf_RX1_34 : Gf RX1 34 1 7 := ⟨_, _, _, rfl, by decide, ku_1, kl_RX1_34⟩
theorem gf_RX1_41 : Gf RX1 41 1 9 := ⟨_, _, _, rfl, by decide, ku_1, kl_RX1_41⟩
theorem gf_RX1_45 : Gf RX1 45 1 5 := ⟨_, _, _, rfl, by decide, ku_1, kl_RX1_45⟩
theorem gf_RX1_52 : Gf RX1 52 3 0 := ⟨_, _, _, rfl, by decide, ku_3, kl_RX1_52⟩
theorem gf_RX1_61 : Gf RX1 61 2 0 := ⟨_, _, _, rfl, by decide, ku_2, kl_RX1_61⟩
theorem gf_RX1_76 : Gf RX1 76 1 8 := ⟨_, _, _, rfl, by decide, ku_1, kl_RX1_76⟩
theorem gf_RX1_80 : Gf RX1 80 2 4 := ⟨_, _, _, rfl, by decide, ku_2, kl_RX1_80⟩
theorem gf_RX2_9 : Gf RX2 9 2 1 := ⟨_, _, _, rfl, by decide, ku_2, kl_RX2_9⟩
theorem gf_RX2_15 : Gf RX2 15 2 2 := ⟨_, _, _, rfl, by decide, ku_2, kl_RX2_15⟩
theorem gf_RX2_20 : Gf RX2 20 2 3 := ⟨_, _, _, rfl, by decide, ku_2, kl_RX2_20⟩
theorem gf_RX2_23 : Gf RX2 23 2 4 := ⟨_, _, _, rfl, by decide, ku_2, kl_RX2_23⟩
theorem gf_RX2_26 : Gf RX2 26 2 5 := ⟨_, _, _, rfl, by decide, ku_2, kl_RX2_26⟩
theorem gf_RX2_29 : Gf RX2 29 2 0 := ⟨_, _, _, rfl, by decide, ku_2, kl_RX2_29⟩
theorem gf_RX2_37 : Gf RX2 37 2 6 := ⟨_, _, _, rfl, by decide, ku_2, kl_RX2_37⟩
theorem gf_RX3_9 : Gf RX3 9 3 0 := ⟨_, _, _, rfl, by decide, ku_3, kl_RX3_9⟩
theorem gf_RX3_15 : Gf RX3 15 3 1 := ⟨_, _, _, rfl, by decide, ku_3, kl_RX3_15⟩
theorem gf_RX3_19 : Gf RX3 19 3 2 := ⟨_, _, _, rfl, by decide, ku_3, kl_RX3_19⟩
theorem gf_RX4_11 : Gf RX4 11 4 0 := ⟨_, _, _, rfl, by decide, ku_4, kl_RX4_11⟩
theorem gf_RX4_16 : Gf RX4 16 4 1 := ⟨_, _, _, rfl, by decide, ku_4, kl_RX4_16⟩
theorem gf_RX4_20 : Gf RX4 20 4 2 := ⟨_, _, _, rfl, by decide, ku_4, kl_RX4_20⟩
theorem gf_RX5_9 : Gf RX5 9 5 3 := ⟨_, _, _, rfl, by decide, ku_5, kl_RX5_9⟩
theorem gf_RX5_15 : Gf RX5 15 5 0 := ⟨_, _, _, rfl, by decide, ku_5, kl_RX5_15⟩
theorem gf_RX5_19 : Gf RX5 19 5 1 := ⟨_, _, _, rfl, by decide, ku_5, kl_RX5_19⟩
theorem gf_RX5_23 : Gf RX5 23 5 2 := ⟨_, _, _, rfl, by decide, ku_5, kl_RX5_23⟩
theorem gf_RX5_27 : Gf RX5 27 3 0 := ⟨_, _, _, rfl, by decide, ku_3, kl_RX5_27⟩
theorem gf_RX5_41 : Gf RX5 41 3 1 := ⟨_, _, _, rfl, by decide, ku_3, kl_RX5_41⟩
theorem gf_RX5_48 : Gf RX5 48 2 0 := ⟨_, _, _, rfl, by decide, ku_2, kl_RX5_48⟩
theorem gf_RX5_51 : Gf RX5 51 3 2 := ⟨_, _, _, rfl, by decide, ku_3, kl_RX5_51⟩
theorem gf_RX5_57 : Gf RX5 57 2 4 := ⟨_, _, _, rfl, by decide, ku_2, kl_RX5_57⟩
theorem gf_RX5_79 : Gf RX5 79 5 6 := ⟨_, _, _, rfl, by decide, ku_5, kl_RX5_79⟩
theorem gf_RX5_82 : Gf RX5 82 5 7 := ⟨_, _, _, rfl, by decide, ku_5, kl_RX5_82⟩
theorem gf_RX5_85 : Gf RX5 85 5 5 := ⟨_, _, _, rfl, by decide, ku_5, kl_RX5_85⟩
theorem gf_RX6_9 : Gf RX6 9 6 1 := ⟨_, _, _, rfl, by decide, ku_6, kl_RX6_9⟩
theorem gf_RX6_15 : Gf RX6 15 6 2 := ⟨_, _, _, rfl, by decide, ku_6, kl_RX6_15⟩
theorem gf_RX6_18 : Gf RX6 18 6 3 := ⟨_, _, _, rfl, by decide, ku_6, kl_RX6_18⟩
theorem gf_RX6_22 : Gf RX6 22 6 0 := ⟨_, _, _, rfl, by decide, ku_6, kl_RX6_22⟩
theorem gf_RX6_36 : Gf RX6 36 2 0 := ⟨_, _, _, rfl, by decide, ku_2, kl_RX6_36⟩
theorem gf_RX6_50 : Gf RX6 50 2 1 := ⟨_, _, _, rfl, by decide, ku_2, kl_RX6_50⟩
theorem gf_RX6_53 : Gf RX6 53 2 2 := ⟨_, _, _, rfl, by decide, ku_2, kl_RX6_53⟩
theorem gf_RX6_56 : Gf RX6 56 2 3 := ⟨_, _, _, rfl, by decide, ku_2, kl_RX6_56⟩
theorem gf_RX8_7 : Gf RX8 7 8 0 := ⟨_, _, _, rfl, by decide, ku_8, kl_RX8_7⟩
theorem gf_RX8_13 : Gf RX8 13 8 1 := ⟨_, _, _, rfl, by decide, ku_8, kl_RX8_13⟩
theorem gf_RX8_17 : Gf RX8 17 8 2 := ⟨_, _, _, rfl, by decide, ku_8, kl_RX8_17⟩
theorem gf_RX8_21 : Gf RX8 21 8 3 := ⟨_, _, _, rfl, by decide, ku_8, kl_RX8_21⟩
theorem gf_RX8_24 : Gf RX8 24 8 4 := ⟨_, _, _, rfl, by decide, ku_8, kl_RX8_24⟩
theorem gf_RX8_27 : Gf RX8 27 8 6 := ⟨_, _, _, rfl, by decide, ku_8, kl_RX8_27⟩
theorem gf_RX8_30 : Gf RX8 30 8 7 := ⟨_, _, _, rfl, by decide, ku_8, kl_RX8_30⟩
theorem gf_RX8_33 : Gf RX8 33 8 8 := ⟨_, _, _, rfl, by decide, ku_8, kl_RX8_33⟩
theorem gf_RX8_36 : Gf RX8 36 8 9 := ⟨_, _, _, rfl, by decide, ku_8, kl_RX8_36⟩
theorem gf_RX8_39 : Gf RX8 39 8 11 := ⟨_, _, _, rfl, by decide, ku_8, kl_RX8_39⟩
theorem gf_RX8_42 : Gf RX8 42 8 13 := ⟨_, _, _, rfl, by decide, ku_8, kl_RX8_42⟩
theorem gf_RX8_45 : Gf RX8 45 8 17 := ⟨_, _, _, rfl, by decide, ku_8, kl_RX8_45⟩
theorem gf_RX8_48 : Gf RX8 48 8 18 := ⟨_, _, _, rfl, by decide, ku_8, kl_RX8_48⟩
theorem gf_RX8_51 : Gf RX8 51 8 19 := ⟨_, _, _, rfl, by decide, ku_8, kl_RX8_51⟩
theorem gf_RX8_55 : Gf RX8 55 8 20 := ⟨_, _, _, rfl, by decide, ku_8, kl_RX8_55⟩
theorem gf_RX8_58 : Gf RX8 58 8 21 := ⟨_, _, _, rfl, by decide, ku_8, kl_RX8_58⟩
theorem gf_RX8_61 : Gf RX8 61 8 22 := ⟨_, _, _, rfl, by decide, ku_8, kl_RX8_61⟩
theorem gf_RX8_64 : Gf RX8 64 8 23 := ⟨_, _, _, rfl, by decide, ku_8, kl_RX8_64⟩
theorem gf_RX8_67 : Gf RX8 67 8 24 := ⟨_, _, _, rfl, by decide, ku_8, kl_RX8_67⟩
theorem gf_RX8_70 : Gf RX8 70 8 25 := ⟨_, _, _, rfl, by decide, ku_8, kl_RX8_70⟩
theorem gf_RX8_80 : Gf RX8 80 8 5 := ⟨_, _, _, rfl, by decide, ku_8, kl_RX8_80⟩
theorem gf_RX8_83 : Gf RX8 83 8 10 := ⟨_, _, _, rfl, by decide, ku_8, kl_RX8_83⟩
theorem gf_RX8_87 : Gf RX8 87 8 12 := ⟨_, _, _, rfl, by decide, ku_8, kl_RX8_87⟩
theorem gf_RX8_104 : Gf RX8 104 8 16 := ⟨_, _, _, rfl, by decide, ku_8, kl_RX8_104⟩
theorem gf_RX8_138 : Gf RX8 138 8 15 := ⟨_, _, _, rfl, by decide, ku_8, kl_RX8_138⟩
theorem gf_RX8_145 : Gf RX8 145 8 14 := ⟨_, _, _, rfl, by decide, ku_8, kl_RX8_145⟩
theorem pf_RX7_74 : Pf RX7 74 5 4 .boolean := ⟨_, _, _, tyX5, rfl, by decide, ku_5, kl_RX7_74, tyX5_ok, nmX5, rfl, by decide +kernel⟩
theorem pf_RX1_34 : Pf RX1 34 1 7 .boolean := ⟨_, _, _, tyX1, rfl, by decide, ku_1, kl_RX1_34, tyX1_ok, nmX1, rfl, by decide +kernel⟩
theorem pf_RX1_41 : Pf RX1 41 1 9 .int := ⟨_, _, _, tyX1, rfl, by decide, ku_1, kl_RX1_41, tyX1_ok, nmX1, rfl, by decide +kernel⟩
theorem pf_RX1_45 : Pf RX1 45 1 5 .boolean := ⟨_, _, _, tyX1, rfl, by decide, ku_1, kl_RX1_45, tyX1_ok, nmX1, rfl, by decide +kernel⟩
theorem pf_RX1_76 : Pf RX1 76 1 8 .long := ⟨_, _, _, tyX1, rfl, by decide, ku_1, kl_RX1_76, tyX1_ok, nmX1, rfl, by decide +kernel⟩
theorem pf_RX2_29 : Pf RX2 29 2 0 .int := ⟨_, _, _, tyX2, rfl, by decide, ku_2, kl_RX2_29, tyX2_ok, nmX2, rfl, by decide +kernel⟩
theorem pf_RX2_37 : Pf RX2 37 2 6 .int := ⟨_, _, _, tyX2, rfl, by decide, ku_2, kl_RX2_37, tyX2_ok, nmX2, rfl, by decide +kernel⟩
theorem pf_RX3_9 : Pf RX3 9 3 0 .int := ⟨_, _, _, tyX3, rfl, by decide, ku_3, kl_RX3_9, tyX3_ok, nmX3, rfl, by decide +kernel⟩
theorem pf_RX5_33 : Pf RX5 33 5 4 .boolean := ⟨_, _, _, tyX5, rfl, by decide, ku_5, kl_RX5_33, tyX5_ok, nmX5, rfl, by decide +kernel⟩
theorem pf_RX5_79 : Pf RX5 79 5 6 .int := ⟨_, _, _, tyX5, rfl, by decide, ku_5, kl_RX5_79, tyX5_ok, nmX5, rfl, by decide +kernel⟩
theorem pf_RX5_82 : Pf RX5 82 5 7 .int := ⟨_, _, _, tyX5, rfl, by decide, ku_5, kl_RX5_82, tyX5_ok, nmX5, rfl, by decide +kernel⟩
theorem pf_RX5_85 : Pf RX5 85 5 5 .long := ⟨_, _, _, tyX5, rfl, by decide, ku_5, kl_RX5_85, tyX5_ok, nmX5, rfl, by decide +kernel⟩
theorem pf_RX8_7 : Pf RX8 7 8 0 .int := ⟨_, _, _, tyX8, rfl, by decide, ku_8, kl_RX8_7, tyX8_ok, nmX8, rfl, by decide +kernel⟩
theorem pf_RX8_80 : Pf RX8 80 8 5 .int := ⟨_, _, _, tyX8, rfl, by decide, ku_8, kl_RX8_80, tyX8_ok, nmX8, rfl, by decide +kernel⟩
theorem pf_RX8_83 : Pf RX8 83 8 10 .boolean := ⟨_, _, _, tyX8, rfl, by decide, ku_8, kl_RX8_83, tyX8_ok, nmX8, rfl, by decide +kernel⟩
theorem pf_RX8_87 : Pf RX8 87 8 12 .boolean := ⟨_, _, _, tyX8, rfl, by decide, ku_8, kl_RX8_87, tyX8_ok, nmX8, rfl, by decide +kernel⟩
theorem pf_RX8_104 : Pf RX8 104 8 16 .int := ⟨_, _, _, tyX8, rfl, by decide, ku_8, kl_RX8_104, tyX8_ok, nmX8, rfl, by decide +kernel⟩
theorem pf_RX8_138 : Pf RX8 138 8 15 .int := ⟨_, _, _, tyX8, rfl, by decide, ku_8, kl_RX8_138, tyX8_ok, nmX8, rfl, by decide +kernel⟩
theorem pf_RX8_145 : Pf RX8 145 8 14 .long := ⟨_, _, _, tyX8, rfl, by decide, ku_8, kl_RX8_145, tyX8_ok, nmX8, rfl, by decide +kernel⟩
theorem kc_RX7_152 : Cond.constantLong RX7 152 (-3) ∈ kw := kw_of 443 (by decide +kernel) (by decide +kernel)
theorem kc_RX7_154 : Cond.constantLong RX7 154 (-2) ∈ kw := kw_of 448 (by decide +kernel) (by decide +kernel)
theorem kc_RX7_164 : Cond.constantLong RX7 164 1000000000 ∈ kw := kw_of 494 (by decide +kernel) (by decide +kernel)
theorem kc_RX7_166 : Cond.constantLong RX7 166 1000000001 ∈ kw := kw_of 495 (by decide +kernel) (by decide +kernel)
theorem kc_RX7_181 : Cond.constantLong RX7 181 (-1) ∈ kw := kw_of 527 (by decide +kernel) (by decide +kernel)
theorem kc_RX7_218 : Cond.constantLong RX7 218 59 ∈ kw := kw_of 637 (by decide +kernel) (by decide +kernel)
theorem kc_RX7_220 : Cond.constantLong RX7 220 31 ∈ kw := kw_of 638 (by decide +kernel) (by decide +kernel)
theorem kc_RX0_60 : Cond.constantLong RX0 60 1152921504606846976 ∈ kw := kw_of 548 (by decide +kernel) (by decide +kernel)
theorem kc_RX4_23 : Cond.constantLong RX4 23 255 ∈ kw := kw_of 317 (by decide +kernel) (by decide +kernel)
theorem kc_RX5_74 : Cond.constant RX5 74 7176000 ∈ kw := kw_of 462 (by decide +kernel) (by decide +kernel)
theorem kc_RL_18 : Cond.constantLong RL 18 4294967295 ∈ kw := kw_of 909 (by decide +kernel) (by decide +kernel)
theorem kc_RX8_126 : Cond.constantLong RX8 126 (-3) ∈ kw := kw_of 824 (by decide +kernel) (by decide +kernel)
theorem kc_RX8_128 : Cond.constantLong RX8 128 (-2) ∈ kw := kw_of 829 (by decide +kernel) (by decide +kernel)
theorem kc_RX8_134 : Cond.constantLong RX8 134 1000000000 ∈ kw := kw_of 842 (by decide +kernel) (by decide +kernel)
theorem kc_RX8_136 : Cond.constantLong RX8 136 1000000001 ∈ kw := kw_of 843 (by decide +kernel) (by decide +kernel)
theorem kc_RX8_149 : Cond.constantLong RX8 149 (-1) ∈ kw := kw_of 856 (by decide +kernel) (by decide +kernel)
theorem kc_RX8_166 : Cond.constantLong RX8 166 59 ∈ kw := kw_of 905 (by decide +kernel) (by decide +kernel)
theorem kc_RX8_168 : Cond.constantLong RX8 168 31 ∈ kw := kw_of 906 (by decide +kernel) (by decide +kernel)
theorem kx_X3_startAnew : Cond.code yX3_startAnew cX3_startAnew 2 none ∈ kw := kw_of 301 (by decide +kernel) (by decide +kernel)
theorem ki_X3_startAnew : Cond.instanceMethod yX3_startAnew ∈ kw := kw_of 299 (by decide +kernel) (by decide +kernel)
theorem ks_X3_startAnew : Cond.selects yX3_startAnew.cls yX3_startAnew yX3_startAnew ∈ kw := kw_of 300 (by decide +kernel) (by decide +kernel)
theorem kn_RX3 : Cond.initialized RX3 ∈ kw := kw_of 41 (by decide +kernel) (by decide +kernel)
theorem km_RX7_70 : Cond.methodLink RX7 70 yX3_startAnew ∈ kw := kw_of 298 (by decide +kernel) (by decide +kernel)
theorem cv_RX7_70 : Cv RX7 70 yX3_startAnew cX3_startAnew 2 none 1 := ⟨⟨kx_X3_startAnew, km_RX7_70, kn_RX3, by decide +kernel, by decide +kernel, by decide +kernel⟩, ki_X3_startAnew, ks_X3_startAnew⟩
theorem kx_X1_forget : Cond.code yX1_forget cX1_forget 1 none ∈ kw := kw_of 305 (by decide +kernel) (by decide +kernel)
theorem ki_X1_forget : Cond.instanceMethod yX1_forget ∈ kw := kw_of 303 (by decide +kernel) (by decide +kernel)
theorem ks_X1_forget : Cond.selects yX1_forget.cls yX1_forget yX1_forget ∈ kw := kw_of 304 (by decide +kernel) (by decide +kernel)
theorem kn_RX1 : Cond.initialized RX1 ∈ kw := kw_of 46 (by decide +kernel) (by decide +kernel)
theorem km_RX7_78 : Cond.methodLink RX7 78 yX1_forget ∈ kw := kw_of 302 (by decide +kernel) (by decide +kernel)
theorem cv_RX7_78 : Cv RX7 78 yX1_forget cX1_forget 1 none 0 := ⟨⟨kx_X1_forget, km_RX7_78, kn_RX1, by decide +kernel, by decide +kernel, by decide +kernel⟩, ki_X1_forget, ks_X1_forget⟩
theorem kx_X7_isPage : Cond.code yX7_isPage cX7_isPage 1 (some .boolean) ∈ kw := kw_of 312 (by decide +kernel) (by decide +kernel)
theorem kt_X7_isPage : Cond.static yX7_isPage ∈ kw := kw_of 311 (by decide +kernel) (by decide +kernel)
theorem kn_RX7 : Cond.initialized RX7 ∈ kw := kw_of 40 (by decide +kernel) (by decide +kernel)
theorem km_RX7_81 : Cond.methodLink RX7 81 yX7_isPage ∈ kw := kw_of 310 (by decide +kernel) (by decide +kernel)
theorem cv_RX7_81 : Cs RX7 81 yX7_isPage cX7_isPage 1 (some .boolean) 1 := ⟨⟨kx_X7_isPage, km_RX7_81, kn_RX7, by decide +kernel, by decide +kernel, by decide +kernel⟩, kt_X7_isPage⟩
theorem kx_X4_write : Cond.code yX4_write cX4_write 6 none ∈ kw := kw_of 316 (by decide +kernel) (by decide +kernel)
theorem ki_X4_write : Cond.instanceMethod yX4_write ∈ kw := kw_of 314 (by decide +kernel) (by decide +kernel)
theorem ks_X4_write : Cond.selects yX4_write.cls yX4_write yX4_write ∈ kw := kw_of 315 (by decide +kernel) (by decide +kernel)
theorem kn_RX4 : Cond.initialized RX4 ∈ kw := kw_of 43 (by decide +kernel) (by decide +kernel)
theorem km_RX7_89 : Cond.methodLink RX7 89 yX4_write ∈ kw := kw_of 313 (by decide +kernel) (by decide +kernel)
theorem cv_RX7_89 : Cv RX7 89 yX4_write cX4_write 6 none 3 := ⟨⟨kx_X4_write, km_RX7_89, kn_RX4, by decide +kernel, by decide +kernel, by decide +kernel⟩, ki_X4_write, ks_X4_write⟩
theorem kx_X4_wipe : Cond.code yX4_wipe cX4_wipe 3 none ∈ kw := kw_of 333 (by decide +kernel) (by decide +kernel)
theorem ki_X4_wipe : Cond.instanceMethod yX4_wipe ∈ kw := kw_of 331 (by decide +kernel) (by decide +kernel)
theorem ks_X4_wipe : Cond.selects yX4_wipe.cls yX4_wipe yX4_wipe ∈ kw := kw_of 332 (by decide +kernel) (by decide +kernel)
theorem km_RX7_93 : Cond.methodLink RX7 93 yX4_wipe ∈ kw := kw_of 330 (by decide +kernel) (by decide +kernel)
theorem cv_RX7_93 : Cv RX7 93 yX4_wipe cX4_wipe 3 none 1 := ⟨⟨kx_X4_wipe, km_RX7_93, kn_RX4, by decide +kernel, by decide +kernel, by decide +kernel⟩, ki_X4_wipe, ks_X4_wipe⟩
theorem kx_X3_has : Cond.code yX3_has cX3_has 2 (some .boolean) ∈ kw := kw_of 341 (by decide +kernel) (by decide +kernel)
theorem ki_X3_has : Cond.instanceMethod yX3_has ∈ kw := kw_of 339 (by decide +kernel) (by decide +kernel)
theorem ks_X3_has : Cond.selects yX3_has.cls yX3_has yX3_has ∈ kw := kw_of 340 (by decide +kernel) (by decide +kernel)
theorem km_RX7_96 : Cond.methodLink RX7 96 yX3_has ∈ kw := kw_of 338 (by decide +kernel) (by decide +kernel)
theorem cv_RX7_96 : Cv RX7 96 yX3_has cX3_has 2 (some .boolean) 1 := ⟨⟨kx_X3_has, km_RX7_96, kn_RX3, by decide +kernel, by decide +kernel, by decide +kernel⟩, ki_X3_has, ks_X3_has⟩
theorem kx_X2_append : Cond.code yX2_append cX2_append 5 (some .int) ∈ kw := kw_of 349 (by decide +kernel) (by decide +kernel)
theorem ki_X2_append : Cond.instanceMethod yX2_append ∈ kw := kw_of 347 (by decide +kernel) (by decide +kernel)
theorem ks_X2_append : Cond.selects yX2_append.cls yX2_append yX2_append ∈ kw := kw_of 348 (by decide +kernel) (by decide +kernel)
theorem kn_RX2 : Cond.initialized RX2 ∈ kw := kw_of 44 (by decide +kernel) (by decide +kernel)
theorem km_RX7_100 : Cond.methodLink RX7 100 yX2_append ∈ kw := kw_of 346 (by decide +kernel) (by decide +kernel)
theorem cv_RX7_100 : Cv RX7 100 yX2_append cX2_append 5 (some .int) 2 := ⟨⟨kx_X2_append, km_RX7_100, kn_RX2, by decide +kernel, by decide +kernel, by decide +kernel⟩, ki_X2_append, ks_X2_append⟩
theorem kx_X2_has : Cond.code yX2_has cX2_has 2 (some .boolean) ∈ kw := kw_of 361 (by decide +kernel) (by decide +kernel)
theorem ki_X2_has : Cond.instanceMethod yX2_has ∈ kw := kw_of 359 (by decide +kernel) (by decide +kernel)
theorem ks_X2_has : Cond.selects yX2_has.cls yX2_has yX2_has ∈ kw := kw_of 360 (by decide +kernel) (by decide +kernel)
theorem km_RX7_104 : Cond.methodLink RX7 104 yX2_has ∈ kw := kw_of 358 (by decide +kernel) (by decide +kernel)
theorem cv_RX7_104 : Cv RX7 104 yX2_has cX2_has 2 (some .boolean) 1 := ⟨⟨kx_X2_has, km_RX7_104, kn_RX2, by decide +kernel, by decide +kernel, by decide +kernel⟩, ki_X2_has, ks_X2_has⟩
theorem kx_X2_setGoing : Cond.code yX2_setGoing cX2_setGoing 5 (some .int) ∈ kw := kw_of 365 (by decide +kernel) (by decide +kernel)
theorem ki_X2_setGoing : Cond.instanceMethod yX2_setGoing ∈ kw := kw_of 363 (by decide +kernel) (by decide +kernel)
theorem ks_X2_setGoing : Cond.selects yX2_setGoing.cls yX2_setGoing yX2_setGoing ∈ kw := kw_of 364 (by decide +kernel) (by decide +kernel)
theorem km_RX7_105 : Cond.methodLink RX7 105 yX2_setGoing ∈ kw := kw_of 362 (by decide +kernel) (by decide +kernel)
theorem cv_RX7_105 : Cv RX7 105 yX2_setGoing cX2_setGoing 5 (some .int) 3 := ⟨⟨kx_X2_setGoing, km_RX7_105, kn_RX2, by decide +kernel, by decide +kernel, by decide +kernel⟩, ki_X2_setGoing, ks_X2_setGoing⟩
theorem kx_X2_writeBodies : Cond.code yX2_writeBodies cX2_writeBodies 3 none ∈ kw := kw_of 373 (by decide +kernel) (by decide +kernel)
theorem ki_X2_writeBodies : Cond.instanceMethod yX2_writeBodies ∈ kw := kw_of 371 (by decide +kernel) (by decide +kernel)
theorem ks_X2_writeBodies : Cond.selects yX2_writeBodies.cls yX2_writeBodies yX2_writeBodies ∈ kw := kw_of 372 (by decide +kernel) (by decide +kernel)
theorem km_RX7_109 : Cond.methodLink RX7 109 yX2_writeBodies ∈ kw := kw_of 370 (by decide +kernel) (by decide +kernel)
theorem cv_RX7_109 : Cv RX7 109 yX2_writeBodies cX2_writeBodies 3 none 1 := ⟨⟨kx_X2_writeBodies, km_RX7_109, kn_RX2, by decide +kernel, by decide +kernel, by decide +kernel⟩, ki_X2_writeBodies, ks_X2_writeBodies⟩
theorem kx_X3_isFixedByOther : Cond.code yX3_isFixedByOther cX3_isFixedByOther 3 (some .boolean) ∈ kw := kw_of 389 (by decide +kernel) (by decide +kernel)
theorem ki_X3_isFixedByOther : Cond.instanceMethod yX3_isFixedByOther ∈ kw := kw_of 387 (by decide +kernel) (by decide +kernel)
theorem ks_X3_isFixedByOther : Cond.selects yX3_isFixedByOther.cls yX3_isFixedByOther yX3_isFixedByOther ∈ kw := kw_of 388 (by decide +kernel) (by decide +kernel)
theorem km_RX7_121 : Cond.methodLink RX7 121 yX3_isFixedByOther ∈ kw := kw_of 386 (by decide +kernel) (by decide +kernel)
theorem cv_RX7_121 : Cv RX7 121 yX3_isFixedByOther cX3_isFixedByOther 3 (some .boolean) 2 := ⟨⟨kx_X3_isFixedByOther, km_RX7_121, kn_RX3, by decide +kernel, by decide +kernel, by decide +kernel⟩, ki_X3_isFixedByOther, ks_X3_isFixedByOther⟩
theorem kx_X3_fixOn : Cond.code yX3_fixOn cX3_fixOn 4 (some .int) ∈ kw := kw_of 393 (by decide +kernel) (by decide +kernel)
theorem ki_X3_fixOn : Cond.instanceMethod yX3_fixOn ∈ kw := kw_of 391 (by decide +kernel) (by decide +kernel)
theorem ks_X3_fixOn : Cond.selects yX3_fixOn.cls yX3_fixOn yX3_fixOn ∈ kw := kw_of 392 (by decide +kernel) (by decide +kernel)
theorem km_RX7_125 : Cond.methodLink RX7 125 yX3_fixOn ∈ kw := kw_of 390 (by decide +kernel) (by decide +kernel)
theorem cv_RX7_125 : Cv RX7 125 yX3_fixOn cX3_fixOn 4 (some .int) 2 := ⟨⟨kx_X3_fixOn, km_RX7_125, kn_RX3, by decide +kernel, by decide +kernel, by decide +kernel⟩, ki_X3_fixOn, ks_X3_fixOn⟩
theorem kx_X7_tooFewKeys : Cond.code yX7_tooFewKeys cX7_tooFewKeys 1 (some .boolean) ∈ kw := kw_of 401 (by decide +kernel) (by decide +kernel)
theorem ki_X7_tooFewKeys : Cond.instanceMethod yX7_tooFewKeys ∈ kw := kw_of 400 (by decide +kernel) (by decide +kernel)
theorem ks_X7_tooFewKeys : Cond.selects yX7_tooFewKeys.cls yX7_tooFewKeys yX7_tooFewKeys ∈ kw := kw_of 4 (by decide +kernel) (by decide +kernel)
theorem km_RX7_128 : Cond.methodLink RX7 128 yX7_tooFewKeys ∈ kw := kw_of 398 (by decide +kernel) (by decide +kernel)
theorem cv_RX7_128 : Cv RX7 128 yX7_tooFewKeys cX7_tooFewKeys 1 (some .boolean) 0 := ⟨⟨kx_X7_tooFewKeys, km_RX7_128, kn_RX7, by decide +kernel, by decide +kernel, by decide +kernel⟩, ki_X7_tooFewKeys, ks_X7_tooFewKeys⟩
theorem kx_X5_becomeFirst : Cond.code yX5_becomeFirst cX5_becomeFirst 3 none ∈ kw := kw_of 405 (by decide +kernel) (by decide +kernel)
theorem ki_X5_becomeFirst : Cond.instanceMethod yX5_becomeFirst ∈ kw := kw_of 403 (by decide +kernel) (by decide +kernel)
theorem ks_X5_becomeFirst : Cond.selects yX5_becomeFirst.cls yX5_becomeFirst yX5_becomeFirst ∈ kw := kw_of 404 (by decide +kernel) (by decide +kernel)
theorem kn_RX5 : Cond.initialized RX5 ∈ kw := kw_of 45 (by decide +kernel) (by decide +kernel)
theorem km_RX7_132 : Cond.methodLink RX7 132 yX5_becomeFirst ∈ kw := kw_of 402 (by decide +kernel) (by decide +kernel)
theorem cv_RX7_132 : Cv RX7 132 yX5_becomeFirst cX5_becomeFirst 3 none 0 := ⟨⟨kx_X5_becomeFirst, km_RX7_132, kn_RX5, by decide +kernel, by decide +kernel, by decide +kernel⟩, ki_X5_becomeFirst, ks_X5_becomeFirst⟩
theorem kx_X3_isFixed : Cond.code yX3_isFixed cX3_isFixed 2 (some .boolean) ∈ kw := kw_of 409 (by decide +kernel) (by decide +kernel)
theorem ki_X3_isFixed : Cond.instanceMethod yX3_isFixed ∈ kw := kw_of 407 (by decide +kernel) (by decide +kernel)
theorem ks_X3_isFixed : Cond.selects yX3_isFixed.cls yX3_isFixed yX3_isFixed ∈ kw := kw_of 408 (by decide +kernel) (by decide +kernel)
theorem km_RX7_135 : Cond.methodLink RX7 135 yX3_isFixed ∈ kw := kw_of 418 (by decide +kernel) (by decide +kernel)
theorem cv_RX7_135 : Cv RX7 135 yX3_isFixed cX3_isFixed 2 (some .boolean) 1 := ⟨⟨kx_X3_isFixed, km_RX7_135, kn_RX3, by decide +kernel, by decide +kernel, by decide +kernel⟩, ki_X3_isFixed, ks_X3_isFixed⟩
theorem kx_X5_move : Cond.code yX5_move cX5_move 4 none ∈ kw := kw_of 422 (by decide +kernel) (by decide +kernel)
theorem ki_X5_move : Cond.instanceMethod yX5_move ∈ kw := kw_of 420 (by decide +kernel) (by decide +kernel)
theorem ks_X5_move : Cond.selects yX5_move.cls yX5_move yX5_move ∈ kw := kw_of 421 (by decide +kernel) (by decide +kernel)
theorem km_RX7_141 : Cond.methodLink RX7 141 yX5_move ∈ kw := kw_of 419 (by decide +kernel) (by decide +kernel)
theorem cv_RX7_141 : Cv RX7 141 yX5_move cX5_move 4 none 2 := ⟨⟨kx_X5_move, km_RX7_141, kn_RX5, by decide +kernel, by decide +kernel, by decide +kernel⟩, ki_X5_move, ks_X5_move⟩
theorem kx_X5_wholeCost : Cond.code yX5_wholeCost cX5_wholeCost 5 (some .long) ∈ kw := kw_of 438 (by decide +kernel) (by decide +kernel)
theorem ki_X5_wholeCost : Cond.instanceMethod yX5_wholeCost ∈ kw := kw_of 436 (by decide +kernel) (by decide +kernel)
theorem ks_X5_wholeCost : Cond.selects yX5_wholeCost.cls yX5_wholeCost yX5_wholeCost ∈ kw := kw_of 437 (by decide +kernel) (by decide +kernel)
theorem km_RX7_148 : Cond.methodLink RX7 148 yX5_wholeCost ∈ kw := kw_of 435 (by decide +kernel) (by decide +kernel)
theorem cv_RX7_148 : Cv RX7 148 yX5_wholeCost cX5_wholeCost 5 (some .long) 0 := ⟨⟨kx_X5_wholeCost, km_RX7_148, kn_RX5, by decide +kernel, by decide +kernel, by decide +kernel⟩, ki_X5_wholeCost, ks_X5_wholeCost⟩
theorem kx_X5_shareOf : Cond.code yX5_shareOf cX5_shareOf 6 (some .long) ∈ kw := kw_of 452 (by decide +kernel) (by decide +kernel)
theorem ki_X5_shareOf : Cond.instanceMethod yX5_shareOf ∈ kw := kw_of 450 (by decide +kernel) (by decide +kernel)
theorem ks_X5_shareOf : Cond.selects yX5_shareOf.cls yX5_shareOf yX5_shareOf ∈ kw := kw_of 451 (by decide +kernel) (by decide +kernel)
theorem km_RX7_156 : Cond.methodLink RX7 156 yX5_shareOf ∈ kw := kw_of 449 (by decide +kernel) (by decide +kernel)
theorem cv_RX7_156 : Cv RX7 156 yX5_shareOf cX5_shareOf 6 (some .long) 2 := ⟨⟨kx_X5_shareOf, km_RX7_156, kn_RX5, by decide +kernel, by decide +kernel, by decide +kernel⟩, ki_X5_shareOf, ks_X5_shareOf⟩
theorem kx_X5_betterToTheEnd : Cond.code yX5_betterToTheEnd cX5_betterToTheEnd 2 (some .int) ∈ kw := kw_of 461 (by decide +kernel) (by decide +kernel)
theorem ki_X5_betterToTheEnd : Cond.instanceMethod yX5_betterToTheEnd ∈ kw := kw_of 459 (by decide +kernel) (by decide +kernel)
theorem ks_X5_betterToTheEnd : Cond.selects yX5_betterToTheEnd.cls yX5_betterToTheEnd yX5_betterToTheEnd ∈ kw := kw_of 460 (by decide +kernel) (by decide +kernel)
theorem km_RX7_160 : Cond.methodLink RX7 160 yX5_betterToTheEnd ∈ kw := kw_of 458 (by decide +kernel) (by decide +kernel)
theorem cv_RX7_160 : Cv RX7 160 yX5_betterToTheEnd cX5_betterToTheEnd 2 (some .int) 0 := ⟨⟨kx_X5_betterToTheEnd, km_RX7_160, kn_RX5, by decide +kernel, by decide +kernel, by decide +kernel⟩, ki_X5_betterToTheEnd, ks_X5_betterToTheEnd⟩
theorem kx_X5_changeByMove : Cond.code yX5_changeByMove cX5_changeByMove 9 (some .long) ∈ kw := kw_of 478 (by decide +kernel) (by decide +kernel)
theorem ki_X5_changeByMove : Cond.instanceMethod yX5_changeByMove ∈ kw := kw_of 476 (by decide +kernel) (by decide +kernel)
theorem ks_X5_changeByMove : Cond.selects yX5_changeByMove.cls yX5_changeByMove yX5_changeByMove ∈ kw := kw_of 477 (by decide +kernel) (by decide +kernel)
theorem km_RX7_168 : Cond.methodLink RX7 168 yX5_changeByMove ∈ kw := kw_of 496 (by decide +kernel) (by decide +kernel)
theorem cv_RX7_168 : Cv RX7 168 yX5_changeByMove cX5_changeByMove 9 (some .long) 2 := ⟨⟨kx_X5_changeByMove, km_RX7_168, kn_RX5, by decide +kernel, by decide +kernel, by decide +kernel⟩, ki_X5_changeByMove, ks_X5_changeByMove⟩
theorem kx_X1_findLeast : Cond.code yX1_findLeast cX1_findLeast 1 (some .boolean) ∈ kw := kw_of 504 (by decide +kernel) (by decide +kernel)
theorem ki_X1_findLeast : Cond.instanceMethod yX1_findLeast ∈ kw := kw_of 502 (by decide +kernel) (by decide +kernel)
theorem ks_X1_findLeast : Cond.selects yX1_findLeast.cls yX1_findLeast yX1_findLeast ∈ kw := kw_of 503 (by decide +kernel) (by decide +kernel)
theorem km_RX7_171 : Cond.methodLink RX7 171 yX1_findLeast ∈ kw := kw_of 501 (by decide +kernel) (by decide +kernel)
theorem cv_RX7_171 : Cv RX7 171 yX1_findLeast cX1_findLeast 1 (some .boolean) 0 := ⟨⟨kx_X1_findLeast, km_RX7_171, kn_RX1, by decide +kernel, by decide +kernel, by decide +kernel⟩, ki_X1_findLeast, ks_X1_findLeast⟩
theorem kx_X5_become : Cond.code yX5_become cX5_become 3 none ∈ kw := kw_of 535 (by decide +kernel) (by decide +kernel)
theorem ki_X5_become : Cond.instanceMethod yX5_become ∈ kw := kw_of 533 (by decide +kernel) (by decide +kernel)
theorem ks_X5_become : Cond.selects yX5_become.cls yX5_become yX5_become ∈ kw := kw_of 534 (by decide +kernel) (by decide +kernel)
theorem km_RX7_186 : Cond.methodLink RX7 186 yX5_become ∈ kw := kw_of 532 (by decide +kernel) (by decide +kernel)
theorem cv_RX7_186 : Cv RX7 186 yX5_become cX5_become 3 none 1 := ⟨⟨kx_X5_become, km_RX7_186, kn_RX5, by decide +kernel, by decide +kernel, by decide +kernel⟩, ki_X5_become, ks_X5_become⟩
theorem kx_X0_leastSum : Cond.code yX0_leastSum cX0_leastSum 4 (some .long) ∈ kw := kw_of 547 (by decide +kernel) (by decide +kernel)
theorem ki_X0_leastSum : Cond.instanceMethod yX0_leastSum ∈ kw := kw_of 545 (by decide +kernel) (by decide +kernel)
theorem ks_X0_leastSum : Cond.selects yX0_leastSum.cls yX0_leastSum yX0_leastSum ∈ kw := kw_of 546 (by decide +kernel) (by decide +kernel)
theorem kn_RX0 : Cond.initialized RX0 ∈ kw := kw_of 47 (by decide +kernel) (by decide +kernel)
theorem km_RX7_193 : Cond.methodLink RX7 193 yX0_leastSum ∈ kw := kw_of 544 (by decide +kernel) (by decide +kernel)
theorem cv_RX7_193 : Cv RX7 193 yX0_leastSum cX0_leastSum 4 (some .long) 0 := ⟨⟨kx_X0_leastSum, km_RX7_193, kn_RX0, by decide +kernel, by decide +kernel, by decide +kernel⟩, ki_X0_leastSum, ks_X0_leastSum⟩
theorem kx_X0_priceOn : Cond.code yX0_priceOn cX0_priceOn 8 (some .long) ∈ kw := kw_of 556 (by decide +kernel) (by decide +kernel)
theorem ki_X0_priceOn : Cond.instanceMethod yX0_priceOn ∈ kw := kw_of 554 (by decide +kernel) (by decide +kernel)
theorem ks_X0_priceOn : Cond.selects yX0_priceOn.cls yX0_priceOn yX0_priceOn ∈ kw := kw_of 555 (by decide +kernel) (by decide +kernel)
theorem km_RX7_196 : Cond.methodLink RX7 196 yX0_priceOn ∈ kw := kw_of 579 (by decide +kernel) (by decide +kernel)
theorem cv_RX7_196 : Cv RX7 196 yX0_priceOn cX0_priceOn 8 (some .long) 2 := ⟨⟨kx_X0_priceOn, km_RX7_196, kn_RX0, by decide +kernel, by decide +kernel, by decide +kernel⟩, ki_X0_priceOn, ks_X0_priceOn⟩
theorem kx_X6_countTurns : Cond.code yX6_countTurns cX6_countTurns 1 (some .int) ∈ kw := kw_of 587 (by decide +kernel) (by decide +kernel)
theorem ki_X6_countTurns : Cond.instanceMethod yX6_countTurns ∈ kw := kw_of 585 (by decide +kernel) (by decide +kernel)
theorem ks_X6_countTurns : Cond.selects yX6_countTurns.cls yX6_countTurns yX6_countTurns ∈ kw := kw_of 586 (by decide +kernel) (by decide +kernel)
theorem kn_RX6 : Cond.initialized RX6 ∈ kw := kw_of 48 (by decide +kernel) (by decide +kernel)
theorem km_RX7_199 : Cond.methodLink RX7 199 yX6_countTurns ∈ kw := kw_of 584 (by decide +kernel) (by decide +kernel)
theorem cv_RX7_199 : Cv RX7 199 yX6_countTurns cX6_countTurns 1 (some .int) 0 := ⟨⟨kx_X6_countTurns, km_RX7_199, kn_RX6, by decide +kernel, by decide +kernel, by decide +kernel⟩, ki_X6_countTurns, ks_X6_countTurns⟩
theorem kx_X6_leads : Cond.code yX6_leads cX6_leads 5 (some .boolean) ∈ kw := kw_of 612 (by decide +kernel) (by decide +kernel)
theorem ki_X6_leads : Cond.instanceMethod yX6_leads ∈ kw := kw_of 610 (by decide +kernel) (by decide +kernel)
theorem ks_X6_leads : Cond.selects yX6_leads.cls yX6_leads yX6_leads ∈ kw := kw_of 611 (by decide +kernel) (by decide +kernel)
theorem km_RX7_202 : Cond.methodLink RX7 202 yX6_leads ∈ kw := kw_of 609 (by decide +kernel) (by decide +kernel)
theorem cv_RX7_202 : Cv RX7 202 yX6_leads cX6_leads 5 (some .boolean) 3 := ⟨⟨kx_X6_leads, km_RX7_202, kn_RX6, by decide +kernel, by decide +kernel, by decide +kernel⟩, ki_X6_leads, ks_X6_leads⟩
theorem kx_X4_present : Cond.code yX4_present cX4_present 6 (some .int) ∈ kw := kw_of 620 (by decide +kernel) (by decide +kernel)
theorem ki_X4_present : Cond.instanceMethod yX4_present ∈ kw := kw_of 618 (by decide +kernel) (by decide +kernel)
theorem ks_X4_present : Cond.selects yX4_present.cls yX4_present yX4_present ∈ kw := kw_of 619 (by decide +kernel) (by decide +kernel)
theorem km_RX7_206 : Cond.methodLink RX7 206 yX4_present ∈ kw := kw_of 617 (by decide +kernel) (by decide +kernel)
theorem cv_RX7_206 : Cv RX7 206 yX4_present cX4_present 6 (some .int) 0 := ⟨⟨kx_X4_present, km_RX7_206, kn_RX4, by decide +kernel, by decide +kernel, by decide +kernel⟩, ki_X4_present, ks_X4_present⟩
theorem kx_X4_signsTogether : Cond.code yX4_signsTogether cX4_signsTogether 6 (some .int) ∈ kw := kw_of 624 (by decide +kernel) (by decide +kernel)
theorem ki_X4_signsTogether : Cond.instanceMethod yX4_signsTogether ∈ kw := kw_of 622 (by decide +kernel) (by decide +kernel)
theorem ks_X4_signsTogether : Cond.selects yX4_signsTogether.cls yX4_signsTogether yX4_signsTogether ∈ kw := kw_of 623 (by decide +kernel) (by decide +kernel)
theorem km_RX7_208 : Cond.methodLink RX7 208 yX4_signsTogether ∈ kw := kw_of 621 (by decide +kernel) (by decide +kernel)
theorem cv_RX7_208 : Cv RX7 208 yX4_signsTogether cX4_signsTogether 6 (some .int) 0 := ⟨⟨kx_X4_signsTogether, km_RX7_208, kn_RX4, by decide +kernel, by decide +kernel, by decide +kernel⟩, ki_X4_signsTogether, ks_X4_signsTogether⟩
theorem kx_X4_pairsOf : Cond.code yX4_pairsOf cX4_pairsOf 5 (some .int) ∈ kw := kw_of 628 (by decide +kernel) (by decide +kernel)
theorem ki_X4_pairsOf : Cond.instanceMethod yX4_pairsOf ∈ kw := kw_of 626 (by decide +kernel) (by decide +kernel)
theorem ks_X4_pairsOf : Cond.selects yX4_pairsOf.cls yX4_pairsOf yX4_pairsOf ∈ kw := kw_of 627 (by decide +kernel) (by decide +kernel)
theorem km_RX7_211 : Cond.methodLink RX7 211 yX4_pairsOf ∈ kw := kw_of 625 (by decide +kernel) (by decide +kernel)
theorem cv_RX7_211 : Cv RX7 211 yX4_pairsOf cX4_pairsOf 5 (some .int) 1 := ⟨⟨kx_X4_pairsOf, km_RX7_211, kn_RX4, by decide +kernel, by decide +kernel, by decide +kernel⟩, ki_X4_pairsOf, ks_X4_pairsOf⟩
theorem kx_X3_fixedTogether : Cond.code yX3_fixedTogether cX3_fixedTogether 3 (some .int) ∈ kw := kw_of 632 (by decide +kernel) (by decide +kernel)
theorem ki_X3_fixedTogether : Cond.instanceMethod yX3_fixedTogether ∈ kw := kw_of 630 (by decide +kernel) (by decide +kernel)
theorem ks_X3_fixedTogether : Cond.selects yX3_fixedTogether.cls yX3_fixedTogether yX3_fixedTogether ∈ kw := kw_of 631 (by decide +kernel) (by decide +kernel)
theorem km_RX7_215 : Cond.methodLink RX7 215 yX3_fixedTogether ∈ kw := kw_of 629 (by decide +kernel) (by decide +kernel)
theorem cv_RX7_215 : Cv RX7 215 yX3_fixedTogether cX3_fixedTogether 3 (some .int) 0 := ⟨⟨kx_X3_fixedTogether, km_RX7_215, kn_RX3, by decide +kernel, by decide +kernel, by decide +kernel⟩, ki_X3_fixedTogether, ks_X3_fixedTogether⟩
theorem kx_X7_count : Cond.code yX7_count cX7_count 2 (some .int) ∈ kw := kw_of 616 (by decide +kernel) (by decide +kernel)
theorem ki_X7_count : Cond.instanceMethod yX7_count ∈ kw := kw_of 614 (by decide +kernel) (by decide +kernel)
theorem ks_X7_count : Cond.selects yX7_count.cls yX7_count yX7_count ∈ kw := kw_of 615 (by decide +kernel) (by decide +kernel)
theorem km_RX7_222 : Cond.methodLink RX7 222 yX7_count ∈ kw := kw_of 639 (by decide +kernel) (by decide +kernel)
theorem cv_RX7_222 : Cv RX7 222 yX7_count cX7_count 2 (some .int) 1 := ⟨⟨kx_X7_count, km_RX7_222, kn_RX7, by decide +kernel, by decide +kernel, by decide +kernel⟩, ki_X7_count, ks_X7_count⟩
theorem kx_X7_mixSquare : Cond.code yX7_mixSquare cX7_mixSquare 8 (some .long) ∈ kw := kw_of 642 (by decide +kernel) (by decide +kernel)
theorem kt_X7_mixSquare : Cond.static yX7_mixSquare ∈ kw := kw_of 641 (by decide +kernel) (by decide +kernel)
theorem km_RX7_225 : Cond.methodLink RX7 225 yX7_mixSquare ∈ kw := kw_of 640 (by decide +kernel) (by decide +kernel)
theorem cv_RX7_225 : Cs RX7 225 yX7_mixSquare cX7_mixSquare 8 (some .long) 3 := ⟨⟨kx_X7_mixSquare, km_RX7_225, kn_RX7, by decide +kernel, by decide +kernel, by decide +kernel⟩, kt_X7_mixSquare⟩
theorem kx_X7_least : Cond.code yX7_least cX7_least 1 (some .long) ∈ kw := kw_of 526 (by decide +kernel) (by decide +kernel)
theorem ki_X7_least : Cond.instanceMethod yX7_least ∈ kw := kw_of 524 (by decide +kernel) (by decide +kernel)
theorem ks_X7_least : Cond.selects yX7_least.cls yX7_least yX7_least ∈ kw := kw_of 525 (by decide +kernel) (by decide +kernel)
theorem km_RX7_229 : Cond.methodLink RX7 229 yX7_least ∈ kw := kw_of 643 (by decide +kernel) (by decide +kernel)
theorem cv_RX7_229 : Cv RX7 229 yX7_least cX7_least 1 (some .long) 0 := ⟨⟨kx_X7_least, km_RX7_229, kn_RX7, by decide +kernel, by decide +kernel, by decide +kernel⟩, ki_X7_least, ks_X7_least⟩
theorem kx_X0_gatherOftens : Cond.code yX0_gatherOftens cX0_gatherOftens 4 (some .int) ∈ kw := kw_of 560 (by decide +kernel) (by decide +kernel)
theorem ki_X0_gatherOftens : Cond.instanceMethod yX0_gatherOftens ∈ kw := kw_of 559 (by decide +kernel) (by decide +kernel)
theorem ks_X0_gatherOftens : Cond.selects yX0_gatherOftens.cls yX0_gatherOftens yX0_gatherOftens ∈ kw := kw_of 16 (by decide +kernel) (by decide +kernel)
theorem km_RX0_37 : Cond.methodLink RX0 37 yX0_gatherOftens ∈ kw := kw_of 557 (by decide +kernel) (by decide +kernel)
theorem cv_RX0_37 : Cv RX0 37 yX0_gatherOftens cX0_gatherOftens 4 (some .int) 1 := ⟨⟨kx_X0_gatherOftens, km_RX0_37, kn_RX0, by decide +kernel, by decide +kernel, by decide +kernel⟩, ki_X0_gatherOftens, ks_X0_gatherOftens⟩
theorem kx_X0_gatherWays : Cond.code yX0_gatherWays cX0_gatherWays 4 (some .int) ∈ kw := kw_of 567 (by decide +kernel) (by decide +kernel)
theorem ki_X0_gatherWays : Cond.instanceMethod yX0_gatherWays ∈ kw := kw_of 566 (by decide +kernel) (by decide +kernel)
theorem ks_X0_gatherWays : Cond.selects yX0_gatherWays.cls yX0_gatherWays yX0_gatherWays ∈ kw := kw_of 17 (by decide +kernel) (by decide +kernel)
theorem km_RX0_41 : Cond.methodLink RX0 41 yX0_gatherWays ∈ kw := kw_of 564 (by decide +kernel) (by decide +kernel)
theorem cv_RX0_41 : Cv RX0 41 yX0_gatherWays cX0_gatherWays 4 (some .int) 1 := ⟨⟨kx_X0_gatherWays, km_RX0_41, kn_RX0, by decide +kernel, by decide +kernel, by decide +kernel⟩, ki_X0_gatherWays, ks_X0_gatherWays⟩
theorem kx_X0_insert : Cond.code yX0_insert cX0_insert 4 none ∈ kw := kw_of 563 (by decide +kernel) (by decide +kernel)
theorem kt_X0_insert : Cond.static yX0_insert ∈ kw := kw_of 562 (by decide +kernel) (by decide +kernel)
theorem km_RX0_50 : Cond.methodLink RX0 50 yX0_insert ∈ kw := kw_of 561 (by decide +kernel) (by decide +kernel)
theorem cv_RX0_50 : Cs RX0 50 yX0_insert cX0_insert 4 none 3 := ⟨⟨kx_X0_insert, km_RX0_50, kn_RX0, by decide +kernel, by decide +kernel, by decide +kernel⟩, kt_X0_insert⟩
theorem kx_J7_fill_d0a16 : Cond.code yJ7_fill_d0a16 cJ7_fill_d0a16 5 none ∈ kw := kw_of 551 (by decide +kernel) (by decide +kernel)
theorem kt_J7_fill_d0a16 : Cond.static yJ7_fill_d0a16 ∈ kw := kw_of 550 (by decide +kernel) (by decide +kernel)
theorem kn_RJ7 : Cond.initialized RJ7 ∈ kw := kw_of 42 (by decide +kernel) (by decide +kernel)
theorem km_RX0_62 : Cond.methodLink RX0 62 yJ7_fill_d0a16 ∈ kw := kw_of 549 (by decide +kernel) (by decide +kernel)
theorem cv_RX0_62 : Cs RX0 62 yJ7_fill_d0a16 cJ7_fill_d0a16 5 none 2 := ⟨⟨kx_J7_fill_d0a16, km_RX0_62, kn_RJ7, by decide +kernel, by decide +kernel, by decide +kernel⟩, kt_J7_fill_d0a16⟩
theorem kx_X3_allow : Cond.code yX3_allow cX3_allow 3 (some .boolean) ∈ kw := kw_of 488 (by decide +kernel) (by decide +kernel)
theorem ki_X3_allow : Cond.instanceMethod yX3_allow ∈ kw := kw_of 486 (by decide +kernel) (by decide +kernel)
theorem ks_X3_allow : Cond.selects yX3_allow.cls yX3_allow yX3_allow ∈ kw := kw_of 487 (by decide +kernel) (by decide +kernel)
theorem km_RX0_68 : Cond.methodLink RX0 68 yX3_allow ∈ kw := kw_of 552 (by decide +kernel) (by decide +kernel)
theorem cv_RX0_68 : Cv RX0 68 yX3_allow cX3_allow 3 (some .boolean) 2 := ⟨⟨kx_X3_allow, km_RX0_68, kn_RX3, by decide +kernel, by decide +kernel, by decide +kernel⟩, ki_X3_allow, ks_X3_allow⟩
theorem km_RX0_72 : Cond.methodLink RX0 72 yX0_priceOn ∈ kw := kw_of 553 (by decide +kernel) (by decide +kernel)
theorem cv_RX0_72 : Cv RX0 72 yX0_priceOn cX0_priceOn 8 (some .long) 2 := ⟨⟨kx_X0_priceOn, km_RX0_72, kn_RX0, by decide +kernel, by decide +kernel, by decide +kernel⟩, ki_X0_priceOn, ks_X0_priceOn⟩
theorem kx_X0_leastWithLatestKey : Cond.code yX0_leastWithLatestKey cX0_leastWithLatestKey 6 (some .long) ∈ kw := kw_of 571 (by decide +kernel) (by decide +kernel)
theorem ki_X0_leastWithLatestKey : Cond.instanceMethod yX0_leastWithLatestKey ∈ kw := kw_of 570 (by decide +kernel) (by decide +kernel)
theorem ks_X0_leastWithLatestKey : Cond.selects yX0_leastWithLatestKey.cls yX0_leastWithLatestKey yX0_leastWithLatestKey ∈ kw := kw_of 18 (by decide +kernel) (by decide +kernel)
theorem km_RX0_76 : Cond.methodLink RX0 76 yX0_leastWithLatestKey ∈ kw := kw_of 568 (by decide +kernel) (by decide +kernel)
theorem cv_RX0_76 : Cv RX0 76 yX0_leastWithLatestKey cX0_leastWithLatestKey 6 (some .long) 1 := ⟨⟨kx_X0_leastWithLatestKey, km_RX0_76, kn_RX0, by decide +kernel, by decide +kernel, by decide +kernel⟩, ki_X0_leastWithLatestKey, ks_X0_leastWithLatestKey⟩
theorem km_RX0_80 : Cond.methodLink RX0 80 Lib.MathLoose.min_long.x ∈ kw := kw_of 572 (by decide +kernel) (by decide +kernel)
theorem kt_min : Cond.static Lib.MathLoose.min_long.x ∈ kw := kw_of 573 (by decide +kernel) (by decide +kernel)
theorem kn_min : Cond.initialized "java/lang/Math" ∈ kw := kw_of 50 (by decide +kernel) (by decide +kernel)
theorem kx_min : Cond.code Lib.MathLoose.min_long.x Lib.MathLoose.min_long.code 4 (some .long) ∈ kw := kw_of 574 (by decide +kernel) (by decide +kernel)
theorem cv_RX0_80 : Cond.methodLink RX0 80 Lib.MathLoose.min_long.x ∈ kw ∧ Cond.static Lib.MathLoose.min_long.x ∈ kw ∧ Cond.initialized "java/lang/Math" ∈ kw ∧ Cond.code Lib.MathLoose.min_long.x Lib.MathLoose.min_long.code 4 (some .long) ∈ kw := ⟨km_RX0_80, kt_min, kn_min, kx_min⟩
theorem km_RX1_38 : Cond.methodLink RX1 38 yX1_forget ∈ kw := kw_of 505 (by decide +kernel) (by decide +kernel)
theorem cv_RX1_38 : Cv RX1 38 yX1_forget cX1_forget 1 none 0 := ⟨⟨kx_X1_forget, km_RX1_38, kn_RX1, by decide +kernel, by decide +kernel, by decide +kernel⟩, ki_X1_forget, ks_X1_forget⟩
theorem kx_X1_placeFrom : Cond.code yX1_placeFrom cX1_placeFrom 5 none ∈ kw := kw_of 509 (by decide +kernel) (by decide +kernel)
theorem ki_X1_placeFrom : Cond.instanceMethod yX1_placeFrom ∈ kw := kw_of 508 (by decide +kernel) (by decide +kernel)
theorem ks_X1_placeFrom : Cond.selects yX1_placeFrom.cls yX1_placeFrom yX1_placeFrom ∈ kw := kw_of 12 (by decide +kernel) (by decide +kernel)
theorem km_RX1_48 : Cond.methodLink RX1 48 yX1_placeFrom ∈ kw := kw_of 506 (by decide +kernel) (by decide +kernel)
theorem cv_RX1_48 : Cv RX1 48 yX1_placeFrom cX1_placeFrom 5 none 2 := ⟨⟨kx_X1_placeFrom, km_RX1_48, kn_RX1, by decide +kernel, by decide +kernel, by decide +kernel⟩, ki_X1_placeFrom, ks_X1_placeFrom⟩
theorem kx_X1_keep : Cond.code yX1_keep cX1_keep 4 none ∈ kw := kw_of 513 (by decide +kernel) (by decide +kernel)
theorem ki_X1_keep : Cond.instanceMethod yX1_keep ∈ kw := kw_of 512 (by decide +kernel) (by decide +kernel)
theorem ks_X1_keep : Cond.selects yX1_keep.cls yX1_keep yX1_keep ∈ kw := kw_of 13 (by decide +kernel) (by decide +kernel)
theorem km_RX1_57 : Cond.methodLink RX1 57 yX1_keep ∈ kw := kw_of 510 (by decide +kernel) (by decide +kernel)
theorem cv_RX1_57 : Cv RX1 57 yX1_keep cX1_keep 4 none 1 := ⟨⟨kx_X1_keep, km_RX1_57, kn_RX1, by decide +kernel, by decide +kernel, by decide +kernel⟩, ki_X1_keep, ks_X1_keep⟩
theorem km_RX1_64 : Cond.methodLink RX1 64 yX3_allow ∈ kw := kw_of 514 (by decide +kernel) (by decide +kernel)
theorem cv_RX1_64 : Cv RX1 64 yX3_allow cX3_allow 3 (some .boolean) 2 := ⟨⟨kx_X3_allow, km_RX1_64, kn_RX3, by decide +kernel, by decide +kernel, by decide +kernel⟩, ki_X3_allow, ks_X3_allow⟩
theorem kx_X1_tryOn : Cond.code yX1_tryOn cX1_tryOn 7 none ∈ kw := kw_of 518 (by decide +kernel) (by decide +kernel)
theorem ki_X1_tryOn : Cond.instanceMethod yX1_tryOn ∈ kw := kw_of 517 (by decide +kernel) (by decide +kernel)
theorem ks_X1_tryOn : Cond.selects yX1_tryOn.cls yX1_tryOn yX1_tryOn ∈ kw := kw_of 14 (by decide +kernel) (by decide +kernel)
theorem km_RX1_68 : Cond.methodLink RX1 68 yX1_tryOn ∈ kw := kw_of 515 (by decide +kernel) (by decide +kernel)
theorem cv_RX1_68 : Cv RX1 68 yX1_tryOn cX1_tryOn 7 none 3 := ⟨⟨kx_X1_tryOn, km_RX1_68, kn_RX1, by decide +kernel, by decide +kernel, by decide +kernel⟩, ki_X1_tryOn, ks_X1_tryOn⟩
theorem kx_X1_costAddedBy : Cond.code yX1_costAddedBy cX1_costAddedBy 7 (some .long) ∈ kw := kw_of 522 (by decide +kernel) (by decide +kernel)
theorem ki_X1_costAddedBy : Cond.instanceMethod yX1_costAddedBy ∈ kw := kw_of 521 (by decide +kernel) (by decide +kernel)
theorem ks_X1_costAddedBy : Cond.selects yX1_costAddedBy.cls yX1_costAddedBy yX1_costAddedBy ∈ kw := kw_of 15 (by decide +kernel) (by decide +kernel)
theorem km_RX1_72 : Cond.methodLink RX1 72 yX1_costAddedBy ∈ kw := kw_of 519 (by decide +kernel) (by decide +kernel)
theorem cv_RX1_72 : Cv RX1 72 yX1_costAddedBy cX1_costAddedBy 7 (some .long) 1 := ⟨⟨kx_X1_costAddedBy, km_RX1_72, kn_RX1, by decide +kernel, by decide +kernel, by decide +kernel⟩, ki_X1_costAddedBy, ks_X1_costAddedBy⟩
theorem kx_X2_reckonCost : Cond.code yX2_reckonCost cX2_reckonCost 4 (some .int) ∈ kw := kw_of 353 (by decide +kernel) (by decide +kernel)
theorem ki_X2_reckonCost : Cond.instanceMethod yX2_reckonCost ∈ kw := kw_of 352 (by decide +kernel) (by decide +kernel)
theorem ks_X2_reckonCost : Cond.selects yX2_reckonCost.cls yX2_reckonCost yX2_reckonCost ∈ kw := kw_of 2 (by decide +kernel) (by decide +kernel)
theorem km_RX2_33 : Cond.methodLink RX2 33 yX2_reckonCost ∈ kw := kw_of 350 (by decide +kernel) (by decide +kernel)
theorem cv_RX2_33 : Cv RX2 33 yX2_reckonCost cX2_reckonCost 4 (some .int) 2 := ⟨⟨kx_X2_reckonCost, km_RX2_33, kn_RX2, by decide +kernel, by decide +kernel, by decide +kernel⟩, ki_X2_reckonCost, ks_X2_reckonCost⟩
theorem kx_X2_writeBody : Cond.code yX2_writeBody cX2_writeBody 2 none ∈ kw := kw_of 377 (by decide +kernel) (by decide +kernel)
theorem ki_X2_writeBody : Cond.instanceMethod yX2_writeBody ∈ kw := kw_of 376 (by decide +kernel) (by decide +kernel)
theorem ks_X2_writeBody : Cond.selects yX2_writeBody.cls yX2_writeBody yX2_writeBody ∈ kw := kw_of 3 (by decide +kernel) (by decide +kernel)
theorem km_RX2_40 : Cond.methodLink RX2 40 yX2_writeBody ∈ kw := kw_of 374 (by decide +kernel) (by decide +kernel)
theorem cv_RX2_40 : Cv RX2 40 yX2_writeBody cX2_writeBody 2 none 1 := ⟨⟨kx_X2_writeBody, km_RX2_40, kn_RX2, by decide +kernel, by decide +kernel, by decide +kernel⟩, ki_X2_writeBody, ks_X2_writeBody⟩
theorem kx_J7_fill_53178 : Cond.code yJ7_fill_53178 cJ7_fill_53178 4 none ∈ kw := kw_of 67 (by decide +kernel) (by decide +kernel)
theorem kt_J7_fill_53178 : Cond.static yJ7_fill_53178 ∈ kw := kw_of 66 (by decide +kernel) (by decide +kernel)
theorem km_RX3_22 : Cond.methodLink RX3 22 yJ7_fill_53178 ∈ kw := kw_of 65 (by decide +kernel) (by decide +kernel)
theorem cv_RX3_22 : Cs RX3 22 yJ7_fill_53178 cJ7_fill_53178 4 none 2 := ⟨⟨kx_J7_fill_53178, km_RX3_22, kn_RJ7, by decide +kernel, by decide +kernel, by decide +kernel⟩, kt_J7_fill_53178⟩
theorem km_RX3_28 : Cond.methodLink RX3 28 yX3_isFixed ∈ kw := kw_of 489 (by decide +kernel) (by decide +kernel)
theorem cv_RX3_28 : Cv RX3 28 yX3_isFixed cX3_isFixed 2 (some .boolean) 1 := ⟨⟨kx_X3_isFixed, km_RX3_28, kn_RX3, by decide +kernel, by decide +kernel, by decide +kernel⟩, ki_X3_isFixed, ks_X3_isFixed⟩
theorem kx_X4_append : Cond.code yX4_append cX4_append 4 none ∈ kw := kw_of 321 (by decide +kernel) (by decide +kernel)
theorem ki_X4_append : Cond.instanceMethod yX4_append ∈ kw := kw_of 320 (by decide +kernel) (by decide +kernel)
theorem ks_X4_append : Cond.selects yX4_append.cls yX4_append yX4_append ∈ kw := kw_of 0 (by decide +kernel) (by decide +kernel)
theorem km_RX4_25 : Cond.methodLink RX4 25 yX4_append ∈ kw := kw_of 318 (by decide +kernel) (by decide +kernel)
theorem cv_RX4_25 : Cv RX4 25 yX4_append cX4_append 4 none 2 := ⟨⟨kx_X4_append, km_RX4_25, kn_RX4, by decide +kernel, by decide +kernel, by decide +kernel⟩, ki_X4_append, ks_X4_append⟩
theorem kx_X4_countPair : Cond.code yX4_countPair cX4_countPair 6 none ∈ kw := kw_of 325 (by decide +kernel) (by decide +kernel)
theorem ki_X4_countPair : Cond.instanceMethod yX4_countPair ∈ kw := kw_of 324 (by decide +kernel) (by decide +kernel)
theorem ks_X4_countPair : Cond.selects yX4_countPair.cls yX4_countPair yX4_countPair ∈ kw := kw_of 1 (by decide +kernel) (by decide +kernel)
theorem km_RX4_29 : Cond.methodLink RX4 29 yX4_countPair ∈ kw := kw_of 322 (by decide +kernel) (by decide +kernel)
theorem cv_RX4_29 : Cv RX4 29 yX4_countPair cX4_countPair 6 none 3 := ⟨⟨kx_X4_countPair, km_RX4_29, kn_RX4, by decide +kernel, by decide +kernel, by decide +kernel⟩, ki_X4_countPair, ks_X4_countPair⟩
theorem km_RX5_37 : Cond.methodLink RX5 37 yX3_isFixed ∈ kw := kw_of 406 (by decide +kernel) (by decide +kernel)
theorem cv_RX5_37 : Cv RX5 37 yX3_isFixed cX3_isFixed 2 (some .boolean) 1 := ⟨⟨kx_X3_isFixed, km_RX5_37, kn_RX3, by decide +kernel, by decide +kernel, by decide +kernel⟩, ki_X3_isFixed, ks_X3_isFixed⟩
theorem kx_X5_unfixedFrom : Cond.code yX5_unfixedFrom cX5_unfixedFrom 3 (some .int) ∈ kw := kw_of 413 (by decide +kernel) (by decide +kernel)
theorem ki_X5_unfixedFrom : Cond.instanceMethod yX5_unfixedFrom ∈ kw := kw_of 412 (by decide +kernel) (by decide +kernel)
theorem ks_X5_unfixedFrom : Cond.selects yX5_unfixedFrom.cls yX5_unfixedFrom yX5_unfixedFrom ∈ kw := kw_of 5 (by decide +kernel) (by decide +kernel)
theorem km_RX5_44 : Cond.methodLink RX5 44 yX5_unfixedFrom ∈ kw := kw_of 410 (by decide +kernel) (by decide +kernel)
theorem cv_RX5_44 : Cv RX5 44 yX5_unfixedFrom cX5_unfixedFrom 3 (some .int) 1 := ⟨⟨kx_X5_unfixedFrom, km_RX5_44, kn_RX5, by decide +kernel, by decide +kernel, by decide +kernel⟩, ki_X5_unfixedFrom, ks_X5_unfixedFrom⟩
theorem kx_X5_letterOn : Cond.code yX5_letterOn cX5_letterOn 3 (some .int) ∈ kw := kw_of 426 (by decide +kernel) (by decide +kernel)
theorem ki_X5_letterOn : Cond.instanceMethod yX5_letterOn ∈ kw := kw_of 425 (by decide +kernel) (by decide +kernel)
theorem ks_X5_letterOn : Cond.selects yX5_letterOn.cls yX5_letterOn yX5_letterOn ∈ kw := kw_of 6 (by decide +kernel) (by decide +kernel)
theorem km_RX5_54 : Cond.methodLink RX5 54 yX5_letterOn ∈ kw := kw_of 423 (by decide +kernel) (by decide +kernel)
theorem cv_RX5_54 : Cv RX5 54 yX5_letterOn cX5_letterOn 3 (some .int) 1 := ⟨⟨kx_X5_letterOn, km_RX5_54, kn_RX5, by decide +kernel, by decide +kernel, by decide +kernel⟩, ki_X5_letterOn, ks_X5_letterOn⟩
theorem kx_X5_pairCost : Cond.code yX5_pairCost cX5_pairCost 3 (some .long) ∈ kw := kw_of 442 (by decide +kernel) (by decide +kernel)
theorem ki_X5_pairCost : Cond.instanceMethod yX5_pairCost ∈ kw := kw_of 441 (by decide +kernel) (by decide +kernel)
theorem ks_X5_pairCost : Cond.selects yX5_pairCost.cls yX5_pairCost yX5_pairCost ∈ kw := kw_of 7 (by decide +kernel) (by decide +kernel)
theorem km_RX5_60 : Cond.methodLink RX5 60 yX5_pairCost ∈ kw := kw_of 439 (by decide +kernel) (by decide +kernel)
theorem cv_RX5_60 : Cv RX5 60 yX5_pairCost cX5_pairCost 3 (some .long) 2 := ⟨⟨kx_X5_pairCost, km_RX5_60, kn_RX5, by decide +kernel, by decide +kernel, by decide +kernel⟩, ki_X5_pairCost, ks_X5_pairCost⟩
theorem km_RX5_64 : Cond.methodLink RX5 64 yX3_has ∈ kw := kw_of 453 (by decide +kernel) (by decide +kernel)
theorem cv_RX5_64 : Cv RX5 64 yX3_has cX3_has 2 (some .boolean) 1 := ⟨⟨kx_X3_has, km_RX5_64, kn_RX3, by decide +kernel, by decide +kernel, by decide +kernel⟩, ki_X3_has, ks_X3_has⟩
theorem km_RX5_67 : Cond.methodLink RX5 67 yX5_shareOf ∈ kw := kw_of 479 (by decide +kernel) (by decide +kernel)
theorem cv_RX5_67 : Cv RX5 67 yX5_shareOf cX5_shareOf 6 (some .long) 2 := ⟨⟨kx_X5_shareOf, km_RX5_67, kn_RX5, by decide +kernel, by decide +kernel, by decide +kernel⟩, ki_X5_shareOf, ks_X5_shareOf⟩
theorem km_RX5_70 : Cond.methodLink RX5 70 yX5_move ∈ kw := kw_of 480 (by decide +kernel) (by decide +kernel)
theorem cv_RX5_70 : Cv RX5 70 yX5_move cX5_move 4 none 2 := ⟨⟨kx_X5_move, km_RX5_70, kn_RX5, by decide +kernel, by decide +kernel, by decide +kernel⟩, ki_X5_move, ks_X5_move⟩
theorem kx_X5_findBestChange : Cond.code yX5_findBestChange cX5_findBestChange 2 (some .boolean) ∈ kw := kw_of 466 (by decide +kernel) (by decide +kernel)
theorem ki_X5_findBestChange : Cond.instanceMethod yX5_findBestChange ∈ kw := kw_of 465 (by decide +kernel) (by decide +kernel)
theorem ks_X5_findBestChange : Cond.selects yX5_findBestChange.cls yX5_findBestChange yX5_findBestChange ∈ kw := kw_of 8 (by decide +kernel) (by decide +kernel)
theorem km_RX5_75 : Cond.methodLink RX5 75 yX5_findBestChange ∈ kw := kw_of 463 (by decide +kernel) (by decide +kernel)
theorem cv_RX5_75 : Cv RX5 75 yX5_findBestChange cX5_findBestChange 2 (some .boolean) 0 := ⟨⟨kx_X5_findBestChange, km_RX5_75, kn_RX5, by decide +kernel, by decide +kernel, by decide +kernel⟩, ki_X5_findBestChange, ks_X5_findBestChange⟩
theorem kx_X5_weighExchanges : Cond.code yX5_weighExchanges cX5_weighExchanges 3 none ∈ kw := kw_of 470 (by decide +kernel) (by decide +kernel)
theorem ki_X5_weighExchanges : Cond.instanceMethod yX5_weighExchanges ∈ kw := kw_of 469 (by decide +kernel) (by decide +kernel)
theorem ks_X5_weighExchanges : Cond.selects yX5_weighExchanges.cls yX5_weighExchanges yX5_weighExchanges ∈ kw := kw_of 9 (by decide +kernel) (by decide +kernel)
theorem km_RX5_89 : Cond.methodLink RX5 89 yX5_weighExchanges ∈ kw := kw_of 467 (by decide +kernel) (by decide +kernel)
theorem cv_RX5_89 : Cv RX5 89 yX5_weighExchanges cX5_weighExchanges 3 none 1 := ⟨⟨kx_X5_weighExchanges, km_RX5_89, kn_RX5, by decide +kernel, by decide +kernel, by decide +kernel⟩, ki_X5_weighExchanges, ks_X5_weighExchanges⟩
theorem kx_X5_weighGoings : Cond.code yX5_weighGoings cX5_weighGoings 3 none ∈ kw := kw_of 484 (by decide +kernel) (by decide +kernel)
theorem ki_X5_weighGoings : Cond.instanceMethod yX5_weighGoings ∈ kw := kw_of 483 (by decide +kernel) (by decide +kernel)
theorem ks_X5_weighGoings : Cond.selects yX5_weighGoings.cls yX5_weighGoings yX5_weighGoings ∈ kw := kw_of 11 (by decide +kernel) (by decide +kernel)
theorem km_RX5_93 : Cond.methodLink RX5 93 yX5_weighGoings ∈ kw := kw_of 481 (by decide +kernel) (by decide +kernel)
theorem cv_RX5_93 : Cv RX5 93 yX5_weighGoings cX5_weighGoings 3 none 1 := ⟨⟨kx_X5_weighGoings, km_RX5_93, kn_RX5, by decide +kernel, by decide +kernel, by decide +kernel⟩, ki_X5_weighGoings, ks_X5_weighGoings⟩
theorem kx_X5_weigh : Cond.code yX5_weigh cX5_weigh 5 none ∈ kw := kw_of 474 (by decide +kernel) (by decide +kernel)
theorem ki_X5_weigh : Cond.instanceMethod yX5_weigh ∈ kw := kw_of 473 (by decide +kernel) (by decide +kernel)
theorem ks_X5_weigh : Cond.selects yX5_weigh.cls yX5_weigh yX5_weigh ∈ kw := kw_of 10 (by decide +kernel) (by decide +kernel)
theorem km_RX5_96 : Cond.methodLink RX5 96 yX5_weigh ∈ kw := kw_of 471 (by decide +kernel) (by decide +kernel)
theorem cv_RX5_96 : Cv RX5 96 yX5_weigh cX5_weigh 5 none 2 := ⟨⟨kx_X5_weigh, km_RX5_96, kn_RX5, by decide +kernel, by decide +kernel, by decide +kernel⟩, ki_X5_weigh, ks_X5_weigh⟩
theorem km_RX5_99 : Cond.methodLink RX5 99 yX3_allow ∈ kw := kw_of 485 (by decide +kernel) (by decide +kernel)
theorem cv_RX5_99 : Cv RX5 99 yX3_allow cX3_allow 3 (some .boolean) 2 := ⟨⟨kx_X3_allow, km_RX5_99, kn_RX3, by decide +kernel, by decide +kernel, by decide +kernel⟩, ki_X3_allow, ks_X3_allow⟩
theorem km_RX5_103 : Cond.methodLink RX5 103 yX5_changeByMove ∈ kw := kw_of 475 (by decide +kernel) (by decide +kernel)
theorem cv_RX5_103 : Cv RX5 103 yX5_changeByMove cX5_changeByMove 9 (some .long) 2 := ⟨⟨kx_X5_changeByMove, km_RX5_103, kn_RX5, by decide +kernel, by decide +kernel, by decide +kernel⟩, ki_X5_changeByMove, ks_X5_changeByMove⟩
theorem km_RX6_26 : Cond.methodLink RX6 26 yJ7_fill_53178 ∈ kw := kw_of 588 (by decide +kernel) (by decide +kernel)
theorem cv_RX6_26 : Cs RX6 26 yJ7_fill_53178 cJ7_fill_53178 4 none 2 := ⟨⟨kx_J7_fill_53178, km_RX6_26, kn_RJ7, by decide +kernel, by decide +kernel, by decide +kernel⟩, kt_J7_fill_53178⟩
theorem kx_X6_turnsFrom : Cond.code yX6_turnsFrom cX6_turnsFrom 4 (some .int) ∈ kw := kw_of 592 (by decide +kernel) (by decide +kernel)
theorem ki_X6_turnsFrom : Cond.instanceMethod yX6_turnsFrom ∈ kw := kw_of 591 (by decide +kernel) (by decide +kernel)
theorem ks_X6_turnsFrom : Cond.selects yX6_turnsFrom.cls yX6_turnsFrom yX6_turnsFrom ∈ kw := kw_of 19 (by decide +kernel) (by decide +kernel)
theorem km_RX6_32 : Cond.methodLink RX6 32 yX6_turnsFrom ∈ kw := kw_of 589 (by decide +kernel) (by decide +kernel)
theorem cv_RX6_32 : Cv RX6 32 yX6_turnsFrom cX6_turnsFrom 4 (some .int) 1 := ⟨⟨kx_X6_turnsFrom, km_RX6_32, kn_RX6, by decide +kernel, by decide +kernel, by decide +kernel⟩, ki_X6_turnsFrom, ks_X6_turnsFrom⟩
theorem kx_X6_mayGo : Cond.code yX6_mayGo cX6_mayGo 4 (some .boolean) ∈ kw := kw_of 596 (by decide +kernel) (by decide +kernel)
theorem ki_X6_mayGo : Cond.instanceMethod yX6_mayGo ∈ kw := kw_of 595 (by decide +kernel) (by decide +kernel)
theorem ks_X6_mayGo : Cond.selects yX6_mayGo.cls yX6_mayGo yX6_mayGo ∈ kw := kw_of 20 (by decide +kernel) (by decide +kernel)
theorem km_RX6_42 : Cond.methodLink RX6 42 yX6_mayGo ∈ kw := kw_of 593 (by decide +kernel) (by decide +kernel)
theorem cv_RX6_42 : Cv RX6 42 yX6_mayGo cX6_mayGo 4 (some .boolean) 2 := ⟨⟨kx_X6_mayGo, km_RX6_42, kn_RX6, by decide +kernel, by decide +kernel, by decide +kernel⟩, ki_X6_mayGo, ks_X6_mayGo⟩
theorem kx_X6_turnsWith : Cond.code yX6_turnsWith cX6_turnsWith 4 (some .int) ∈ kw := kw_of 604 (by decide +kernel) (by decide +kernel)
theorem ki_X6_turnsWith : Cond.instanceMethod yX6_turnsWith ∈ kw := kw_of 603 (by decide +kernel) (by decide +kernel)
theorem ks_X6_turnsWith : Cond.selects yX6_turnsWith.cls yX6_turnsWith yX6_turnsWith ∈ kw := kw_of 22 (by decide +kernel) (by decide +kernel)
theorem km_RX6_46 : Cond.methodLink RX6 46 yX6_turnsWith ∈ kw := kw_of 601 (by decide +kernel) (by decide +kernel)
theorem cv_RX6_46 : Cv RX6 46 yX6_turnsWith cX6_turnsWith 4 (some .int) 2 := ⟨⟨kx_X6_turnsWith, km_RX6_46, kn_RX6, by decide +kernel, by decide +kernel, by decide +kernel⟩, ki_X6_turnsWith, ks_X6_turnsWith⟩
theorem kx_X6_sameGoings : Cond.code yX6_sameGoings cX6_sameGoings 5 (some .boolean) ∈ kw := kw_of 600 (by decide +kernel) (by decide +kernel)
theorem ki_X6_sameGoings : Cond.instanceMethod yX6_sameGoings ∈ kw := kw_of 599 (by decide +kernel) (by decide +kernel)
theorem ks_X6_sameGoings : Cond.selects yX6_sameGoings.cls yX6_sameGoings yX6_sameGoings ∈ kw := kw_of 21 (by decide +kernel) (by decide +kernel)
theorem km_RX6_60 : Cond.methodLink RX6 60 yX6_sameGoings ∈ kw := kw_of 597 (by decide +kernel) (by decide +kernel)
theorem cv_RX6_60 : Cv RX6 60 yX6_sameGoings cX6_sameGoings 5 (some .boolean) 4 := ⟨⟨kx_X6_sameGoings, km_RX6_60, kn_RX6, by decide +kernel, by decide +kernel, by decide +kernel⟩, ki_X6_sameGoings, ks_X6_sameGoings⟩
theorem kx_X7_letters : Cond.code yX7_letters cX7_letters 3 (some .int) ∈ kw := kw_of 297 (by decide +kernel) (by decide +kernel)
theorem ki_X7_letters : Cond.instanceMethod yX7_letters ∈ kw := kw_of 295 (by decide +kernel) (by decide +kernel)
theorem ks_X7_letters : Cond.selects yX7_letters.cls yX7_letters yX7_letters ∈ kw := kw_of 296 (by decide +kernel) (by decide +kernel)
theorem km_RL_13 : Cond.methodLink RL 13 yX7_letters ∈ kw := kw_of 294 (by decide +kernel) (by decide +kernel)
theorem cv_RL_13 : Cv RL 13 yX7_letters cX7_letters 3 (some .int) 1 := ⟨⟨kx_X7_letters, km_RL_13, kn_RX7, by decide +kernel, by decide +kernel, by decide +kernel⟩, ki_X7_letters, ks_X7_letters⟩
theorem kx_X8_letters : Cond.code yX8_letters cX8_letters 3 (some .int) ∈ kw := kw_of 736 (by decide +kernel) (by decide +kernel)
theorem ki_X8_letters : Cond.instanceMethod yX8_letters ∈ kw := kw_of 734 (by decide +kernel) (by decide +kernel)
theorem ks_X8_letters : Cond.selects yX8_letters.cls yX8_letters yX8_letters ∈ kw := kw_of 735 (by decide +kernel) (by decide +kernel)
theorem kn_RX8 : Cond.initialized RX8 ∈ kw := kw_of 49 (by decide +kernel) (by decide +kernel)
theorem km_RL_17 : Cond.methodLink RL 17 yX8_letters ∈ kw := kw_of 733 (by decide +kernel) (by decide +kernel)
theorem cv_RL_17 : Cv RL 17 yX8_letters cX8_letters 3 (some .int) 1 := ⟨⟨kx_X8_letters, km_RL_17, kn_RX8, by decide +kernel, by decide +kernel, by decide +kernel⟩, ki_X8_letters, ks_X8_letters⟩
theorem kx_X7_feed : Cond.code yX7_feed cX7_feed 5 (some .int) ∈ kw := kw_of 309 (by decide +kernel) (by decide +kernel)
theorem ki_X7_feed : Cond.instanceMethod yX7_feed ∈ kw := kw_of 307 (by decide +kernel) (by decide +kernel)
theorem ks_X7_feed : Cond.selects yX7_feed.cls yX7_feed yX7_feed ∈ kw := kw_of 308 (by decide +kernel) (by decide +kernel)
theorem km_RL_20 : Cond.methodLink RL 20 yX7_feed ∈ kw := kw_of 306 (by decide +kernel) (by decide +kernel)
theorem cv_RL_20 : Cv RL 20 yX7_feed cX7_feed 5 (some .int) 3 := ⟨⟨kx_X7_feed, km_RL_20, kn_RX7, by decide +kernel, by decide +kernel, by decide +kernel⟩, ki_X7_feed, ks_X7_feed⟩
theorem kx_X8_feed : Cond.code yX8_feed cX8_feed 7 (some .int) ∈ kw := kw_of 755 (by decide +kernel) (by decide +kernel)
theorem ki_X8_feed : Cond.instanceMethod yX8_feed ∈ kw := kw_of 753 (by decide +kernel) (by decide +kernel)
theorem ks_X8_feed : Cond.selects yX8_feed.cls yX8_feed yX8_feed ∈ kw := kw_of 754 (by decide +kernel) (by decide +kernel)
theorem km_RL_24 : Cond.methodLink RL 24 yX8_feed ∈ kw := kw_of 752 (by decide +kernel) (by decide +kernel)
theorem cv_RL_24 : Cv RL 24 yX8_feed cX8_feed 7 (some .int) 3 := ⟨⟨kx_X8_feed, km_RL_24, kn_RX8, by decide +kernel, by decide +kernel, by decide +kernel⟩, ki_X8_feed, ks_X8_feed⟩
theorem kx_X7_tear : Cond.code yX7_tear cX7_tear 3 (some .int) ∈ kw := kw_of 329 (by decide +kernel) (by decide +kernel)
theorem ki_X7_tear : Cond.instanceMethod yX7_tear ∈ kw := kw_of 327 (by decide +kernel) (by decide +kernel)
theorem ks_X7_tear : Cond.selects yX7_tear.cls yX7_tear yX7_tear ∈ kw := kw_of 328 (by decide +kernel) (by decide +kernel)
theorem km_RL_25 : Cond.methodLink RL 25 yX7_tear ∈ kw := kw_of 326 (by decide +kernel) (by decide +kernel)
theorem cv_RL_25 : Cv RL 25 yX7_tear cX7_tear 3 (some .int) 1 := ⟨⟨kx_X7_tear, km_RL_25, kn_RX7, by decide +kernel, by decide +kernel, by decide +kernel⟩, ki_X7_tear, ks_X7_tear⟩
theorem kx_X8_tear : Cond.code yX8_tear cX8_tear 2 (some .int) ∈ kw := kw_of 759 (by decide +kernel) (by decide +kernel)
theorem ki_X8_tear : Cond.instanceMethod yX8_tear ∈ kw := kw_of 757 (by decide +kernel) (by decide +kernel)
theorem ks_X8_tear : Cond.selects yX8_tear.cls yX8_tear yX8_tear ∈ kw := kw_of 758 (by decide +kernel) (by decide +kernel)
theorem km_RL_28 : Cond.methodLink RL 28 yX8_tear ∈ kw := kw_of 756 (by decide +kernel) (by decide +kernel)
theorem cv_RL_28 : Cv RL 28 yX8_tear cX8_tear 2 (some .int) 1 := ⟨⟨kx_X8_tear, km_RL_28, kn_RX8, by decide +kernel, by decide +kernel, by decide +kernel⟩, ki_X8_tear, ks_X8_tear⟩
theorem kx_X7_often : Cond.code yX7_often cX7_often 3 (some .int) ∈ kw := kw_of 337 (by decide +kernel) (by decide +kernel)
theorem ki_X7_often : Cond.instanceMethod yX7_often ∈ kw := kw_of 335 (by decide +kernel) (by decide +kernel)
theorem ks_X7_often : Cond.selects yX7_often.cls yX7_often yX7_often ∈ kw := kw_of 336 (by decide +kernel) (by decide +kernel)
theorem km_RL_29 : Cond.methodLink RL 29 yX7_often ∈ kw := kw_of 334 (by decide +kernel) (by decide +kernel)
theorem cv_RL_29 : Cv RL 29 yX7_often cX7_often 3 (some .int) 2 := ⟨⟨kx_X7_often, km_RL_29, kn_RX7, by decide +kernel, by decide +kernel, by decide +kernel⟩, ki_X7_often, ks_X7_often⟩
theorem kx_X8_often : Cond.code yX8_often cX8_often 3 (some .int) ∈ kw := kw_of 763 (by decide +kernel) (by decide +kernel)
theorem ki_X8_often : Cond.instanceMethod yX8_often ∈ kw := kw_of 761 (by decide +kernel) (by decide +kernel)
theorem ks_X8_often : Cond.selects yX8_often.cls yX8_often yX8_often ∈ kw := kw_of 762 (by decide +kernel) (by decide +kernel)
theorem km_RL_33 : Cond.methodLink RL 33 yX8_often ∈ kw := kw_of 760 (by decide +kernel) (by decide +kernel)
theorem cv_RL_33 : Cv RL 33 yX8_often cX8_often 3 (some .int) 2 := ⟨⟨kx_X8_often, km_RL_33, kn_RX8, by decide +kernel, by decide +kernel, by decide +kernel⟩, ki_X8_often, ks_X8_often⟩
theorem kx_X7_key : Cond.code yX7_key cX7_key 3 (some .int) ∈ kw := kw_of 345 (by decide +kernel) (by decide +kernel)
theorem ki_X7_key : Cond.instanceMethod yX7_key ∈ kw := kw_of 343 (by decide +kernel) (by decide +kernel)
theorem ks_X7_key : Cond.selects yX7_key.cls yX7_key yX7_key ∈ kw := kw_of 344 (by decide +kernel) (by decide +kernel)
theorem km_RL_34 : Cond.methodLink RL 34 yX7_key ∈ kw := kw_of 342 (by decide +kernel) (by decide +kernel)
theorem cv_RL_34 : Cv RL 34 yX7_key cX7_key 3 (some .int) 2 := ⟨⟨kx_X7_key, km_RL_34, kn_RX7, by decide +kernel, by decide +kernel, by decide +kernel⟩, ki_X7_key, ks_X7_key⟩
theorem kx_X8_key : Cond.code yX8_key cX8_key 3 (some .int) ∈ kw := kw_of 767 (by decide +kernel) (by decide +kernel)
theorem ki_X8_key : Cond.instanceMethod yX8_key ∈ kw := kw_of 765 (by decide +kernel) (by decide +kernel)
theorem ks_X8_key : Cond.selects yX8_key.cls yX8_key yX8_key ∈ kw := kw_of 766 (by decide +kernel) (by decide +kernel)
theorem km_RL_37 : Cond.methodLink RL 37 yX8_key ∈ kw := kw_of 764 (by decide +kernel) (by decide +kernel)
theorem cv_RL_37 : Cv RL 37 yX8_key cX8_key 3 (some .int) 2 := ⟨⟨kx_X8_key, km_RL_37, kn_RX8, by decide +kernel, by decide +kernel, by decide +kernel⟩, ki_X8_key, ks_X8_key⟩
theorem kx_X7_go : Cond.code yX7_go cX7_go 4 (some .int) ∈ kw := kw_of 357 (by decide +kernel) (by decide +kernel)
theorem ki_X7_go : Cond.instanceMethod yX7_go ∈ kw := kw_of 355 (by decide +kernel) (by decide +kernel)
theorem ks_X7_go : Cond.selects yX7_go.cls yX7_go yX7_go ∈ kw := kw_of 356 (by decide +kernel) (by decide +kernel)
theorem km_RL_38 : Cond.methodLink RL 38 yX7_go ∈ kw := kw_of 354 (by decide +kernel) (by decide +kernel)
theorem cv_RL_38 : Cv RL 38 yX7_go cX7_go 4 (some .int) 3 := ⟨⟨kx_X7_go, km_RL_38, kn_RX7, by decide +kernel, by decide +kernel, by decide +kernel⟩, ki_X7_go, ks_X7_go⟩
theorem kx_X8_go : Cond.code yX8_go cX8_go 5 (some .int) ∈ kw := kw_of 771 (by decide +kernel) (by decide +kernel)
theorem ki_X8_go : Cond.instanceMethod yX8_go ∈ kw := kw_of 769 (by decide +kernel) (by decide +kernel)
theorem ks_X8_go : Cond.selects yX8_go.cls yX8_go yX8_go ∈ kw := kw_of 770 (by decide +kernel) (by decide +kernel)
theorem km_RL_42 : Cond.methodLink RL 42 yX8_go ∈ kw := kw_of 768 (by decide +kernel) (by decide +kernel)
theorem cv_RL_42 : Cv RL 42 yX8_go cX8_go 5 (some .int) 3 := ⟨⟨kx_X8_go, km_RL_42, kn_RX8, by decide +kernel, by decide +kernel, by decide +kernel⟩, ki_X8_go, ks_X8_go⟩
theorem kx_X7_cost : Cond.code yX7_cost cX7_cost 3 (some .int) ∈ kw := kw_of 369 (by decide +kernel) (by decide +kernel)
theorem ki_X7_cost : Cond.instanceMethod yX7_cost ∈ kw := kw_of 367 (by decide +kernel) (by decide +kernel)
theorem ks_X7_cost : Cond.selects yX7_cost.cls yX7_cost yX7_cost ∈ kw := kw_of 368 (by decide +kernel) (by decide +kernel)
theorem km_RL_43 : Cond.methodLink RL 43 yX7_cost ∈ kw := kw_of 366 (by decide +kernel) (by decide +kernel)
theorem cv_RL_43 : Cv RL 43 yX7_cost cX7_cost 3 (some .int) 2 := ⟨⟨kx_X7_cost, km_RL_43, kn_RX7, by decide +kernel, by decide +kernel, by decide +kernel⟩, ki_X7_cost, ks_X7_cost⟩
theorem kx_X8_cost : Cond.code yX8_cost cX8_cost 3 (some .int) ∈ kw := kw_of 779 (by decide +kernel) (by decide +kernel)
theorem ki_X8_cost : Cond.instanceMethod yX8_cost ∈ kw := kw_of 777 (by decide +kernel) (by decide +kernel)
theorem ks_X8_cost : Cond.selects yX8_cost.cls yX8_cost yX8_cost ∈ kw := kw_of 778 (by decide +kernel) (by decide +kernel)
theorem km_RL_46 : Cond.methodLink RL 46 yX8_cost ∈ kw := kw_of 776 (by decide +kernel) (by decide +kernel)
theorem cv_RL_46 : Cv RL 46 yX8_cost cX8_cost 3 (some .int) 2 := ⟨⟨kx_X8_cost, km_RL_46, kn_RX8, by decide +kernel, by decide +kernel, by decide +kernel⟩, ki_X8_cost, ks_X8_cost⟩
theorem kx_X7_body : Cond.code yX7_body cX7_body 2 (some .int) ∈ kw := kw_of 381 (by decide +kernel) (by decide +kernel)
theorem ki_X7_body : Cond.instanceMethod yX7_body ∈ kw := kw_of 379 (by decide +kernel) (by decide +kernel)
theorem ks_X7_body : Cond.selects yX7_body.cls yX7_body yX7_body ∈ kw := kw_of 380 (by decide +kernel) (by decide +kernel)
theorem km_RL_47 : Cond.methodLink RL 47 yX7_body ∈ kw := kw_of 378 (by decide +kernel) (by decide +kernel)
theorem cv_RL_47 : Cv RL 47 yX7_body cX7_body 2 (some .int) 1 := ⟨⟨kx_X7_body, km_RL_47, kn_RX7, by decide +kernel, by decide +kernel, by decide +kernel⟩, ki_X7_body, ks_X7_body⟩
theorem kx_X8_body : Cond.code yX8_body cX8_body 2 (some .int) ∈ kw := kw_of 787 (by decide +kernel) (by decide +kernel)
theorem ki_X8_body : Cond.instanceMethod yX8_body ∈ kw := kw_of 785 (by decide +kernel) (by decide +kernel)
theorem ks_X8_body : Cond.selects yX8_body.cls yX8_body yX8_body ∈ kw := kw_of 786 (by decide +kernel) (by decide +kernel)
theorem km_RL_50 : Cond.methodLink RL 50 yX8_body ∈ kw := kw_of 784 (by decide +kernel) (by decide +kernel)
theorem cv_RL_50 : Cv RL 50 yX8_body cX8_body 2 (some .int) 1 := ⟨⟨kx_X8_body, km_RL_50, kn_RX8, by decide +kernel, by decide +kernel, by decide +kernel⟩, ki_X8_body, ks_X8_body⟩
theorem kx_X7_fix : Cond.code yX7_fix cX7_fix 3 (some .int) ∈ kw := kw_of 385 (by decide +kernel) (by decide +kernel)
theorem ki_X7_fix : Cond.instanceMethod yX7_fix ∈ kw := kw_of 383 (by decide +kernel) (by decide +kernel)
theorem ks_X7_fix : Cond.selects yX7_fix.cls yX7_fix yX7_fix ∈ kw := kw_of 384 (by decide +kernel) (by decide +kernel)
theorem km_RL_51 : Cond.methodLink RL 51 yX7_fix ∈ kw := kw_of 382 (by decide +kernel) (by decide +kernel)
theorem cv_RL_51 : Cv RL 51 yX7_fix cX7_fix 3 (some .int) 2 := ⟨⟨kx_X7_fix, km_RL_51, kn_RX7, by decide +kernel, by decide +kernel, by decide +kernel⟩, ki_X7_fix, ks_X7_fix⟩
theorem kx_X8_fix : Cond.code yX8_fix cX8_fix 4 (some .int) ∈ kw := kw_of 791 (by decide +kernel) (by decide +kernel)
theorem ki_X8_fix : Cond.instanceMethod yX8_fix ∈ kw := kw_of 789 (by decide +kernel) (by decide +kernel)
theorem ks_X8_fix : Cond.selects yX8_fix.cls yX8_fix yX8_fix ∈ kw := kw_of 790 (by decide +kernel) (by decide +kernel)
theorem km_RL_54 : Cond.methodLink RL 54 yX8_fix ∈ kw := kw_of 788 (by decide +kernel) (by decide +kernel)
theorem cv_RL_54 : Cv RL 54 yX8_fix cX8_fix 4 (some .int) 2 := ⟨⟨kx_X8_fix, km_RL_54, kn_RX8, by decide +kernel, by decide +kernel, by decide +kernel⟩, ki_X8_fix, ks_X8_fix⟩
theorem kx_X7_first : Cond.code yX7_first cX7_first 1 (some .int) ∈ kw := kw_of 397 (by decide +kernel) (by decide +kernel)
theorem ki_X7_first : Cond.instanceMethod yX7_first ∈ kw := kw_of 395 (by decide +kernel) (by decide +kernel)
theorem ks_X7_first : Cond.selects yX7_first.cls yX7_first yX7_first ∈ kw := kw_of 396 (by decide +kernel) (by decide +kernel)
theorem km_RL_55 : Cond.methodLink RL 55 yX7_first ∈ kw := kw_of 394 (by decide +kernel) (by decide +kernel)
theorem cv_RL_55 : Cv RL 55 yX7_first cX7_first 1 (some .int) 0 := ⟨⟨kx_X7_first, km_RL_55, kn_RX7, by decide +kernel, by decide +kernel, by decide +kernel⟩, ki_X7_first, ks_X7_first⟩
theorem kx_X8_first : Cond.code yX8_first cX8_first 3 (some .int) ∈ kw := kw_of 795 (by decide +kernel) (by decide +kernel)
theorem ki_X8_first : Cond.instanceMethod yX8_first ∈ kw := kw_of 793 (by decide +kernel) (by decide +kernel)
theorem ks_X8_first : Cond.selects yX8_first.cls yX8_first yX8_first ∈ kw := kw_of 794 (by decide +kernel) (by decide +kernel)
theorem km_RL_59 : Cond.methodLink RL 59 yX8_first ∈ kw := kw_of 792 (by decide +kernel) (by decide +kernel)
theorem cv_RL_59 : Cv RL 59 yX8_first cX8_first 3 (some .int) 0 := ⟨⟨kx_X8_first, km_RL_59, kn_RX8, by decide +kernel, by decide +kernel, by decide +kernel⟩, ki_X8_first, ks_X8_first⟩
theorem kx_X7_put : Cond.code yX7_put cX7_put 3 (some .int) ∈ kw := kw_of 417 (by decide +kernel) (by decide +kernel)
theorem ki_X7_put : Cond.instanceMethod yX7_put ∈ kw := kw_of 415 (by decide +kernel) (by decide +kernel)
theorem ks_X7_put : Cond.selects yX7_put.cls yX7_put yX7_put ∈ kw := kw_of 416 (by decide +kernel) (by decide +kernel)
theorem km_RL_60 : Cond.methodLink RL 60 yX7_put ∈ kw := kw_of 414 (by decide +kernel) (by decide +kernel)
theorem cv_RL_60 : Cv RL 60 yX7_put cX7_put 3 (some .int) 2 := ⟨⟨kx_X7_put, km_RL_60, kn_RX7, by decide +kernel, by decide +kernel, by decide +kernel⟩, ki_X7_put, ks_X7_put⟩
theorem kx_X8_put : Cond.code yX8_put cX8_put 4 (some .int) ∈ kw := kw_of 803 (by decide +kernel) (by decide +kernel)
theorem ki_X8_put : Cond.instanceMethod yX8_put ∈ kw := kw_of 801 (by decide +kernel) (by decide +kernel)
theorem ks_X8_put : Cond.selects yX8_put.cls yX8_put yX8_put ∈ kw := kw_of 802 (by decide +kernel) (by decide +kernel)
theorem km_RL_63 : Cond.methodLink RL 63 yX8_put ∈ kw := kw_of 800 (by decide +kernel) (by decide +kernel)
theorem cv_RL_63 : Cv RL 63 yX8_put cX8_put 4 (some .int) 2 := ⟨⟨kx_X8_put, km_RL_63, kn_RX8, by decide +kernel, by decide +kernel, by decide +kernel⟩, ki_X8_put, ks_X8_put⟩
theorem kx_X7_at : Cond.code yX7_at cX7_at 2 (some .int) ∈ kw := kw_of 430 (by decide +kernel) (by decide +kernel)
theorem ki_X7_at : Cond.instanceMethod yX7_at ∈ kw := kw_of 428 (by decide +kernel) (by decide +kernel)
theorem ks_X7_at : Cond.selects yX7_at.cls yX7_at yX7_at ∈ kw := kw_of 429 (by decide +kernel) (by decide +kernel)
theorem km_RL_64 : Cond.methodLink RL 64 yX7_at ∈ kw := kw_of 427 (by decide +kernel) (by decide +kernel)
theorem cv_RL_64 : Cv RL 64 yX7_at cX7_at 2 (some .int) 1 := ⟨⟨kx_X7_at, km_RL_64, kn_RX7, by decide +kernel, by decide +kernel, by decide +kernel⟩, ki_X7_at, ks_X7_at⟩
theorem kx_X8_at : Cond.code yX8_at cX8_at 2 (some .int) ∈ kw := kw_of 811 (by decide +kernel) (by decide +kernel)
theorem ki_X8_at : Cond.instanceMethod yX8_at ∈ kw := kw_of 809 (by decide +kernel) (by decide +kernel)
theorem ks_X8_at : Cond.selects yX8_at.cls yX8_at yX8_at ∈ kw := kw_of 810 (by decide +kernel) (by decide +kernel)
theorem km_RL_67 : Cond.methodLink RL 67 yX8_at ∈ kw := kw_of 808 (by decide +kernel) (by decide +kernel)
theorem cv_RL_67 : Cv RL 67 yX8_at cX8_at 2 (some .int) 1 := ⟨⟨kx_X8_at, km_RL_67, kn_RX8, by decide +kernel, by decide +kernel, by decide +kernel⟩, ki_X8_at, ks_X8_at⟩
theorem kx_X7_all : Cond.code yX7_all cX7_all 1 (some .long) ∈ kw := kw_of 434 (by decide +kernel) (by decide +kernel)
theorem ki_X7_all : Cond.instanceMethod yX7_all ∈ kw := kw_of 432 (by decide +kernel) (by decide +kernel)
theorem ks_X7_all : Cond.selects yX7_all.cls yX7_all yX7_all ∈ kw := kw_of 433 (by decide +kernel) (by decide +kernel)
theorem km_RL_68 : Cond.methodLink RL 68 yX7_all ∈ kw := kw_of 431 (by decide +kernel) (by decide +kernel)
theorem cv_RL_68 : Cv RL 68 yX7_all cX7_all 1 (some .long) 0 := ⟨⟨kx_X7_all, km_RL_68, kn_RX7, by decide +kernel, by decide +kernel, by decide +kernel⟩, ki_X7_all, ks_X7_all⟩
theorem kx_X8_all : Cond.code yX8_all cX8_all 1 (some .long) ∈ kw := kw_of 815 (by decide +kernel) (by decide +kernel)
theorem ki_X8_all : Cond.instanceMethod yX8_all ∈ kw := kw_of 813 (by decide +kernel) (by decide +kernel)
theorem ks_X8_all : Cond.selects yX8_all.cls yX8_all yX8_all ∈ kw := kw_of 814 (by decide +kernel) (by decide +kernel)
theorem km_RL_72 : Cond.methodLink RL 72 yX8_all ∈ kw := kw_of 812 (by decide +kernel) (by decide +kernel)
theorem cv_RL_72 : Cv RL 72 yX8_all cX8_all 1 (some .long) 0 := ⟨⟨kx_X8_all, km_RL_72, kn_RX8, by decide +kernel, by decide +kernel, by decide +kernel⟩, ki_X8_all, ks_X8_all⟩
theorem kx_X7_share : Cond.code yX7_share cX7_share 2 (some .long) ∈ kw := kw_of 447 (by decide +kernel) (by decide +kernel)
theorem ki_X7_share : Cond.instanceMethod yX7_share ∈ kw := kw_of 445 (by decide +kernel) (by decide +kernel)
theorem ks_X7_share : Cond.selects yX7_share.cls yX7_share yX7_share ∈ kw := kw_of 446 (by decide +kernel) (by decide +kernel)
theorem km_RL_73 : Cond.methodLink RL 73 yX7_share ∈ kw := kw_of 444 (by decide +kernel) (by decide +kernel)
theorem cv_RL_73 : Cv RL 73 yX7_share cX7_share 2 (some .long) 1 := ⟨⟨kx_X7_share, km_RL_73, kn_RX7, by decide +kernel, by decide +kernel, by decide +kernel⟩, ki_X7_share, ks_X7_share⟩
theorem kx_X8_share : Cond.code yX8_share cX8_share 5 (some .long) ∈ kw := kw_of 828 (by decide +kernel) (by decide +kernel)
theorem ki_X8_share : Cond.instanceMethod yX8_share ∈ kw := kw_of 826 (by decide +kernel) (by decide +kernel)
theorem ks_X8_share : Cond.selects yX8_share.cls yX8_share yX8_share ∈ kw := kw_of 827 (by decide +kernel) (by decide +kernel)
theorem km_RL_77 : Cond.methodLink RL 77 yX8_share ∈ kw := kw_of 825 (by decide +kernel) (by decide +kernel)
theorem cv_RL_77 : Cv RL 77 yX8_share cX8_share 5 (some .long) 1 := ⟨⟨kx_X8_share, km_RL_77, kn_RX8, by decide +kernel, by decide +kernel, by decide +kernel⟩, ki_X8_share, ks_X8_share⟩
theorem kx_X7_better : Cond.code yX7_better cX7_better 1 (some .int) ∈ kw := kw_of 457 (by decide +kernel) (by decide +kernel)
theorem ki_X7_better : Cond.instanceMethod yX7_better ∈ kw := kw_of 455 (by decide +kernel) (by decide +kernel)
theorem ks_X7_better : Cond.selects yX7_better.cls yX7_better yX7_better ∈ kw := kw_of 456 (by decide +kernel) (by decide +kernel)
theorem km_RL_78 : Cond.methodLink RL 78 yX7_better ∈ kw := kw_of 454 (by decide +kernel) (by decide +kernel)
theorem cv_RL_78 : Cv RL 78 yX7_better cX7_better 1 (some .int) 0 := ⟨⟨kx_X7_better, km_RL_78, kn_RX7, by decide +kernel, by decide +kernel, by decide +kernel⟩, ki_X7_better, ks_X7_better⟩
theorem kx_X8_better : Cond.code yX8_better cX8_better 15 (some .int) ∈ kw := kw_of 833 (by decide +kernel) (by decide +kernel)
theorem ki_X8_better : Cond.instanceMethod yX8_better ∈ kw := kw_of 831 (by decide +kernel) (by decide +kernel)
theorem ks_X8_better : Cond.selects yX8_better.cls yX8_better yX8_better ∈ kw := kw_of 832 (by decide +kernel) (by decide +kernel)
theorem km_RL_81 : Cond.methodLink RL 81 yX8_better ∈ kw := kw_of 830 (by decide +kernel) (by decide +kernel)
theorem cv_RL_81 : Cv RL 81 yX8_better cX8_better 15 (some .int) 0 := ⟨⟨kx_X8_better, km_RL_81, kn_RX8, by decide +kernel, by decide +kernel, by decide +kernel⟩, ki_X8_better, ks_X8_better⟩
theorem kx_X7_change : Cond.code yX7_change cX7_change 3 (some .long) ∈ kw := kw_of 493 (by decide +kernel) (by decide +kernel)
theorem ki_X7_change : Cond.instanceMethod yX7_change ∈ kw := kw_of 491 (by decide +kernel) (by decide +kernel)
theorem ks_X7_change : Cond.selects yX7_change.cls yX7_change yX7_change ∈ kw := kw_of 492 (by decide +kernel) (by decide +kernel)
theorem km_RL_82 : Cond.methodLink RL 82 yX7_change ∈ kw := kw_of 490 (by decide +kernel) (by decide +kernel)
theorem cv_RL_82 : Cv RL 82 yX7_change cX7_change 3 (some .long) 2 := ⟨⟨kx_X7_change, km_RL_82, kn_RX7, by decide +kernel, by decide +kernel, by decide +kernel⟩, ki_X7_change, ks_X7_change⟩
theorem kx_X8_change : Cond.code yX8_change cX8_change 7 (some .long) ∈ kw := kw_of 841 (by decide +kernel) (by decide +kernel)
theorem ki_X8_change : Cond.instanceMethod yX8_change ∈ kw := kw_of 839 (by decide +kernel) (by decide +kernel)
theorem ks_X8_change : Cond.selects yX8_change.cls yX8_change yX8_change ∈ kw := kw_of 840 (by decide +kernel) (by decide +kernel)
theorem km_RL_86 : Cond.methodLink RL 86 yX8_change ∈ kw := kw_of 838 (by decide +kernel) (by decide +kernel)
theorem cv_RL_86 : Cv RL 86 yX8_change cX8_change 7 (some .long) 2 := ⟨⟨kx_X8_change, km_RL_86, kn_RX8, by decide +kernel, by decide +kernel, by decide +kernel⟩, ki_X8_change, ks_X8_change⟩
theorem kx_X7_search : Cond.code yX7_search cX7_search 1 (some .int) ∈ kw := kw_of 500 (by decide +kernel) (by decide +kernel)
theorem ki_X7_search : Cond.instanceMethod yX7_search ∈ kw := kw_of 498 (by decide +kernel) (by decide +kernel)
theorem ks_X7_search : Cond.selects yX7_search.cls yX7_search yX7_search ∈ kw := kw_of 499 (by decide +kernel) (by decide +kernel)
theorem km_RL_87 : Cond.methodLink RL 87 yX7_search ∈ kw := kw_of 497 (by decide +kernel) (by decide +kernel)
theorem cv_RL_87 : Cv RL 87 yX7_search cX7_search 1 (some .int) 0 := ⟨⟨kx_X7_search, km_RL_87, kn_RX7, by decide +kernel, by decide +kernel, by decide +kernel⟩, ki_X7_search, ks_X7_search⟩
theorem kx_X8_search : Cond.code yX8_search cX8_search 3 (some .int) ∈ kw := kw_of 847 (by decide +kernel) (by decide +kernel)
theorem ki_X8_search : Cond.instanceMethod yX8_search ∈ kw := kw_of 845 (by decide +kernel) (by decide +kernel)
theorem ks_X8_search : Cond.selects yX8_search.cls yX8_search yX8_search ∈ kw := kw_of 846 (by decide +kernel) (by decide +kernel)
theorem km_RL_90 : Cond.methodLink RL 90 yX8_search ∈ kw := kw_of 844 (by decide +kernel) (by decide +kernel)
theorem cv_RL_90 : Cv RL 90 yX8_search cX8_search 3 (some .int) 0 := ⟨⟨kx_X8_search, km_RL_90, kn_RX8, by decide +kernel, by decide +kernel, by decide +kernel⟩, ki_X8_search, ks_X8_search⟩
theorem km_RL_91 : Cond.methodLink RL 91 yX7_least ∈ kw := kw_of 523 (by decide +kernel) (by decide +kernel)
theorem cv_RL_91 : Cv RL 91 yX7_least cX7_least 1 (some .long) 0 := ⟨⟨kx_X7_least, km_RL_91, kn_RX7, by decide +kernel, by decide +kernel, by decide +kernel⟩, ki_X7_least, ks_X7_least⟩
theorem kx_X8_least : Cond.code yX8_least cX8_least 1 (some .long) ∈ kw := kw_of 855 (by decide +kernel) (by decide +kernel)
theorem ki_X8_least : Cond.instanceMethod yX8_least ∈ kw := kw_of 853 (by decide +kernel) (by decide +kernel)
theorem ks_X8_least : Cond.selects yX8_least.cls yX8_least yX8_least ∈ kw := kw_of 854 (by decide +kernel) (by decide +kernel)
theorem km_RL_94 : Cond.methodLink RL 94 yX8_least ∈ kw := kw_of 852 (by decide +kernel) (by decide +kernel)
theorem cv_RL_94 : Cv RL 94 yX8_least cX8_least 1 (some .long) 0 := ⟨⟨kx_X8_least, km_RL_94, kn_RX8, by decide +kernel, by decide +kernel, by decide +kernel⟩, ki_X8_least, ks_X8_least⟩
theorem kx_X7_take : Cond.code yX7_take cX7_take 1 (some .int) ∈ kw := kw_of 531 (by decide +kernel) (by decide +kernel)
theorem ki_X7_take : Cond.instanceMethod yX7_take ∈ kw := kw_of 529 (by decide +kernel) (by decide +kernel)
theorem ks_X7_take : Cond.selects yX7_take.cls yX7_take yX7_take ∈ kw := kw_of 530 (by decide +kernel) (by decide +kernel)
theorem km_RL_95 : Cond.methodLink RL 95 yX7_take ∈ kw := kw_of 528 (by decide +kernel) (by decide +kernel)
theorem cv_RL_95 : Cv RL 95 yX7_take cX7_take 1 (some .int) 0 := ⟨⟨kx_X7_take, km_RL_95, kn_RX7, by decide +kernel, by decide +kernel, by decide +kernel⟩, ki_X7_take, ks_X7_take⟩
theorem kx_X8_take : Cond.code yX8_take cX8_take 2 (some .int) ∈ kw := kw_of 860 (by decide +kernel) (by decide +kernel)
theorem ki_X8_take : Cond.instanceMethod yX8_take ∈ kw := kw_of 858 (by decide +kernel) (by decide +kernel)
theorem ks_X8_take : Cond.selects yX8_take.cls yX8_take yX8_take ∈ kw := kw_of 859 (by decide +kernel) (by decide +kernel)
theorem km_RL_98 : Cond.methodLink RL 98 yX8_take ∈ kw := kw_of 857 (by decide +kernel) (by decide +kernel)
theorem cv_RL_98 : Cv RL 98 yX8_take cX8_take 2 (some .int) 0 := ⟨⟨kx_X8_take, km_RL_98, kn_RX8, by decide +kernel, by decide +kernel, by decide +kernel⟩, ki_X8_take, ks_X8_take⟩
theorem kx_X7_tries : Cond.code yX7_tries cX7_tries 1 (some .int) ∈ kw := kw_of 539 (by decide +kernel) (by decide +kernel)
theorem ki_X7_tries : Cond.instanceMethod yX7_tries ∈ kw := kw_of 537 (by decide +kernel) (by decide +kernel)
theorem ks_X7_tries : Cond.selects yX7_tries.cls yX7_tries yX7_tries ∈ kw := kw_of 538 (by decide +kernel) (by decide +kernel)
theorem km_RL_99 : Cond.methodLink RL 99 yX7_tries ∈ kw := kw_of 536 (by decide +kernel) (by decide +kernel)
theorem cv_RL_99 : Cv RL 99 yX7_tries cX7_tries 1 (some .int) 0 := ⟨⟨kx_X7_tries, km_RL_99, kn_RX7, by decide +kernel, by decide +kernel, by decide +kernel⟩, ki_X7_tries, ks_X7_tries⟩
theorem kx_X8_tries : Cond.code yX8_tries cX8_tries 1 (some .int) ∈ kw := kw_of 864 (by decide +kernel) (by decide +kernel)
theorem ki_X8_tries : Cond.instanceMethod yX8_tries ∈ kw := kw_of 862 (by decide +kernel) (by decide +kernel)
theorem ks_X8_tries : Cond.selects yX8_tries.cls yX8_tries yX8_tries ∈ kw := kw_of 863 (by decide +kernel) (by decide +kernel)
theorem km_RL_102 : Cond.methodLink RL 102 yX8_tries ∈ kw := kw_of 861 (by decide +kernel) (by decide +kernel)
theorem cv_RL_102 : Cv RL 102 yX8_tries cX8_tries 1 (some .int) 0 := ⟨⟨kx_X8_tries, km_RL_102, kn_RX8, by decide +kernel, by decide +kernel, by decide +kernel⟩, ki_X8_tries, ks_X8_tries⟩
theorem kx_X7_bound : Cond.code yX7_bound cX7_bound 1 (some .long) ∈ kw := kw_of 543 (by decide +kernel) (by decide +kernel)
theorem ki_X7_bound : Cond.instanceMethod yX7_bound ∈ kw := kw_of 541 (by decide +kernel) (by decide +kernel)
theorem ks_X7_bound : Cond.selects yX7_bound.cls yX7_bound yX7_bound ∈ kw := kw_of 542 (by decide +kernel) (by decide +kernel)
theorem km_RL_103 : Cond.methodLink RL 103 yX7_bound ∈ kw := kw_of 540 (by decide +kernel) (by decide +kernel)
theorem cv_RL_103 : Cv RL 103 yX7_bound cX7_bound 1 (some .long) 0 := ⟨⟨kx_X7_bound, km_RL_103, kn_RX7, by decide +kernel, by decide +kernel, by decide +kernel⟩, ki_X7_bound, ks_X7_bound⟩
theorem kx_X8_bound : Cond.code yX8_bound cX8_bound 9 (some .long) ∈ kw := kw_of 868 (by decide +kernel) (by decide +kernel)
theorem ki_X8_bound : Cond.instanceMethod yX8_bound ∈ kw := kw_of 866 (by decide +kernel) (by decide +kernel)
theorem ks_X8_bound : Cond.selects yX8_bound.cls yX8_bound yX8_bound ∈ kw := kw_of 867 (by decide +kernel) (by decide +kernel)
theorem km_RL_106 : Cond.methodLink RL 106 yX8_bound ∈ kw := kw_of 865 (by decide +kernel) (by decide +kernel)
theorem cv_RL_106 : Cv RL 106 yX8_bound cX8_bound 9 (some .long) 0 := ⟨⟨kx_X8_bound, km_RL_106, kn_RX8, by decide +kernel, by decide +kernel, by decide +kernel⟩, ki_X8_bound, ks_X8_bound⟩
theorem kx_X7_price : Cond.code yX7_price cX7_price 3 (some .long) ∈ kw := kw_of 578 (by decide +kernel) (by decide +kernel)
theorem ki_X7_price : Cond.instanceMethod yX7_price ∈ kw := kw_of 576 (by decide +kernel) (by decide +kernel)
theorem ks_X7_price : Cond.selects yX7_price.cls yX7_price yX7_price ∈ kw := kw_of 577 (by decide +kernel) (by decide +kernel)
theorem km_RL_107 : Cond.methodLink RL 107 yX7_price ∈ kw := kw_of 575 (by decide +kernel) (by decide +kernel)
theorem cv_RL_107 : Cv RL 107 yX7_price cX7_price 3 (some .long) 2 := ⟨⟨kx_X7_price, km_RL_107, kn_RX7, by decide +kernel, by decide +kernel, by decide +kernel⟩, ki_X7_price, ks_X7_price⟩
theorem kx_X8_price : Cond.code yX8_price cX8_price 3 (some .long) ∈ kw := kw_of 876 (by decide +kernel) (by decide +kernel)
theorem ki_X8_price : Cond.instanceMethod yX8_price ∈ kw := kw_of 874 (by decide +kernel) (by decide +kernel)
theorem ks_X8_price : Cond.selects yX8_price.cls yX8_price yX8_price ∈ kw := kw_of 875 (by decide +kernel) (by decide +kernel)
theorem km_RL_110 : Cond.methodLink RL 110 yX8_price ∈ kw := kw_of 873 (by decide +kernel) (by decide +kernel)
theorem cv_RL_110 : Cv RL 110 yX8_price cX8_price 3 (some .long) 2 := ⟨⟨kx_X8_price, km_RL_110, kn_RX8, by decide +kernel, by decide +kernel, by decide +kernel⟩, ki_X8_price, ks_X8_price⟩
theorem kx_X7_turns : Cond.code yX7_turns cX7_turns 1 (some .int) ∈ kw := kw_of 583 (by decide +kernel) (by decide +kernel)
theorem ki_X7_turns : Cond.instanceMethod yX7_turns ∈ kw := kw_of 581 (by decide +kernel) (by decide +kernel)
theorem ks_X7_turns : Cond.selects yX7_turns.cls yX7_turns yX7_turns ∈ kw := kw_of 582 (by decide +kernel) (by decide +kernel)
theorem km_RL_111 : Cond.methodLink RL 111 yX7_turns ∈ kw := kw_of 580 (by decide +kernel) (by decide +kernel)
theorem cv_RL_111 : Cv RL 111 yX7_turns cX7_turns 1 (some .int) 0 := ⟨⟨kx_X7_turns, km_RL_111, kn_RX7, by decide +kernel, by decide +kernel, by decide +kernel⟩, ki_X7_turns, ks_X7_turns⟩
theorem kx_X8_turns : Cond.code yX8_turns cX8_turns 1 (some .int) ∈ kw := kw_of 880 (by decide +kernel) (by decide +kernel)
theorem ki_X8_turns : Cond.instanceMethod yX8_turns ∈ kw := kw_of 878 (by decide +kernel) (by decide +kernel)
theorem ks_X8_turns : Cond.selects yX8_turns.cls yX8_turns yX8_turns ∈ kw := kw_of 879 (by decide +kernel) (by decide +kernel)
theorem km_RL_114 : Cond.methodLink RL 114 yX8_turns ∈ kw := kw_of 877 (by decide +kernel) (by decide +kernel)
theorem cv_RL_114 : Cv RL 114 yX8_turns cX8_turns 1 (some .int) 0 := ⟨⟨kx_X8_turns, km_RL_114, kn_RX8, by decide +kernel, by decide +kernel, by decide +kernel⟩, ki_X8_turns, ks_X8_turns⟩
theorem kx_X7_alike : Cond.code yX7_alike cX7_alike 1 (some .int) ∈ kw := kw_of 608 (by decide +kernel) (by decide +kernel)
theorem ki_X7_alike : Cond.instanceMethod yX7_alike ∈ kw := kw_of 606 (by decide +kernel) (by decide +kernel)
theorem ks_X7_alike : Cond.selects yX7_alike.cls yX7_alike yX7_alike ∈ kw := kw_of 607 (by decide +kernel) (by decide +kernel)
theorem km_RL_115 : Cond.methodLink RL 115 yX7_alike ∈ kw := kw_of 605 (by decide +kernel) (by decide +kernel)
theorem cv_RL_115 : Cv RL 115 yX7_alike cX7_alike 1 (some .int) 0 := ⟨⟨kx_X7_alike, km_RL_115, kn_RX7, by decide +kernel, by decide +kernel, by decide +kernel⟩, ki_X7_alike, ks_X7_alike⟩
theorem kx_X8_alike : Cond.code yX8_alike cX8_alike 1 (some .int) ∈ kw := kw_of 896 (by decide +kernel) (by decide +kernel)
theorem ki_X8_alike : Cond.instanceMethod yX8_alike ∈ kw := kw_of 894 (by decide +kernel) (by decide +kernel)
theorem ks_X8_alike : Cond.selects yX8_alike.cls yX8_alike yX8_alike ∈ kw := kw_of 895 (by decide +kernel) (by decide +kernel)
theorem km_RL_118 : Cond.methodLink RL 118 yX8_alike ∈ kw := kw_of 893 (by decide +kernel) (by decide +kernel)
theorem cv_RL_118 : Cv RL 118 yX8_alike cX8_alike 1 (some .int) 0 := ⟨⟨kx_X8_alike, km_RL_118, kn_RX8, by decide +kernel, by decide +kernel, by decide +kernel⟩, ki_X8_alike, ks_X8_alike⟩
theorem km_RL_119 : Cond.methodLink RL 119 yX7_count ∈ kw := kw_of 613 (by decide +kernel) (by decide +kernel)
theorem cv_RL_119 : Cv RL 119 yX7_count cX7_count 2 (some .int) 1 := ⟨⟨kx_X7_count, km_RL_119, kn_RX7, by decide +kernel, by decide +kernel, by decide +kernel⟩, ki_X7_count, ks_X7_count⟩
theorem kx_X8_count : Cond.code yX8_count cX8_count 4 (some .int) ∈ kw := kw_of 900 (by decide +kernel) (by decide +kernel)
theorem ki_X8_count : Cond.instanceMethod yX8_count ∈ kw := kw_of 898 (by decide +kernel) (by decide +kernel)
theorem ks_X8_count : Cond.selects yX8_count.cls yX8_count yX8_count ∈ kw := kw_of 899 (by decide +kernel) (by decide +kernel)
theorem km_RL_122 : Cond.methodLink RL 122 yX8_count ∈ kw := kw_of 897 (by decide +kernel) (by decide +kernel)
theorem cv_RL_122 : Cv RL 122 yX8_count cX8_count 4 (some .int) 1 := ⟨⟨kx_X8_count, km_RL_122, kn_RX8, by decide +kernel, by decide +kernel, by decide +kernel⟩, ki_X8_count, ks_X8_count⟩
theorem kx_X7_digest : Cond.code yX7_digest cX7_digest 4 (some .long) ∈ kw := kw_of 636 (by decide +kernel) (by decide +kernel)
theorem ki_X7_digest : Cond.instanceMethod yX7_digest ∈ kw := kw_of 634 (by decide +kernel) (by decide +kernel)
theorem ks_X7_digest : Cond.selects yX7_digest.cls yX7_digest yX7_digest ∈ kw := kw_of 635 (by decide +kernel) (by decide +kernel)
theorem km_RL_123 : Cond.methodLink RL 123 yX7_digest ∈ kw := kw_of 633 (by decide +kernel) (by decide +kernel)
theorem cv_RL_123 : Cv RL 123 yX7_digest cX7_digest 4 (some .long) 0 := ⟨⟨kx_X7_digest, km_RL_123, kn_RX7, by decide +kernel, by decide +kernel, by decide +kernel⟩, ki_X7_digest, ks_X7_digest⟩
theorem kx_X8_digest : Cond.code yX8_digest cX8_digest 5 (some .long) ∈ kw := kw_of 904 (by decide +kernel) (by decide +kernel)
theorem ki_X8_digest : Cond.instanceMethod yX8_digest ∈ kw := kw_of 902 (by decide +kernel) (by decide +kernel)
theorem ks_X8_digest : Cond.selects yX8_digest.cls yX8_digest yX8_digest ∈ kw := kw_of 903 (by decide +kernel) (by decide +kernel)
theorem km_RL_126 : Cond.methodLink RL 126 yX8_digest ∈ kw := kw_of 901 (by decide +kernel) (by decide +kernel)
theorem cv_RL_126 : Cv RL 126 yX8_digest cX8_digest 5 (some .long) 0 := ⟨⟨kx_X8_digest, km_RL_126, kn_RX8, by decide +kernel, by decide +kernel, by decide +kernel⟩, ki_X8_digest, ks_X8_digest⟩
theorem kx_X8_unfix : Cond.code yX8_unfix cX8_unfix 2 none ∈ kw := kw_of 653 (by decide +kernel) (by decide +kernel)
theorem ki_X8_unfix : Cond.instanceMethod yX8_unfix ∈ kw := kw_of 652 (by decide +kernel) (by decide +kernel)
theorem ks_X8_unfix : Cond.selects yX8_unfix.cls yX8_unfix yX8_unfix ∈ kw := kw_of 23 (by decide +kernel) (by decide +kernel)
theorem km_RX8_73 : Cond.methodLink RX8 73 yX8_unfix ∈ kw := kw_of 650 (by decide +kernel) (by decide +kernel)
theorem cv_RX8_73 : Cv RX8 73 yX8_unfix cX8_unfix 2 none 0 := ⟨⟨kx_X8_unfix, km_RX8_73, kn_RX8, by decide +kernel, by decide +kernel, by decide +kernel⟩, ki_X8_unfix, ks_X8_unfix⟩
theorem kx_X8_in : Cond.code yX8_in cX8_in 3 (some .boolean) ∈ kw := kw_of 739 (by decide +kernel) (by decide +kernel)
theorem kt_X8_in : Cond.static yX8_in ∈ kw := kw_of 738 (by decide +kernel) (by decide +kernel)
theorem km_RX8_76 : Cond.methodLink RX8 76 yX8_in ∈ kw := kw_of 737 (by decide +kernel) (by decide +kernel)
theorem cv_RX8_76 : Cs RX8 76 yX8_in cX8_in 3 (some .boolean) 3 := ⟨⟨kx_X8_in, km_RX8_76, kn_RX8, by decide +kernel, by decide +kernel, by decide +kernel⟩, kt_X8_in⟩
theorem kx_X8_counts : Cond.code yX8_counts cX8_counts 5 none ∈ kw := kw_of 743 (by decide +kernel) (by decide +kernel)
theorem ki_X8_counts : Cond.instanceMethod yX8_counts ∈ kw := kw_of 742 (by decide +kernel) (by decide +kernel)
theorem ks_X8_counts : Cond.selects yX8_counts.cls yX8_counts yX8_counts ∈ kw := kw_of 24 (by decide +kernel) (by decide +kernel)
theorem km_RX8_90 : Cond.methodLink RX8 90 yX8_counts ∈ kw := kw_of 740 (by decide +kernel) (by decide +kernel)
theorem cv_RX8_90 : Cv RX8 90 yX8_counts cX8_counts 5 none 0 := ⟨⟨kx_X8_counts, km_RX8_90, kn_RX8, by decide +kernel, by decide +kernel, by decide +kernel⟩, ki_X8_counts, ks_X8_counts⟩
theorem kx_X8_isLetter : Cond.code yX8_isLetter cX8_isLetter 2 (some .boolean) ∈ kw := kw_of 751 (by decide +kernel) (by decide +kernel)
theorem ki_X8_isLetter : Cond.instanceMethod yX8_isLetter ∈ kw := kw_of 750 (by decide +kernel) (by decide +kernel)
theorem ks_X8_isLetter : Cond.selects yX8_isLetter.cls yX8_isLetter yX8_isLetter ∈ kw := kw_of 26 (by decide +kernel) (by decide +kernel)
theorem km_RX8_93 : Cond.methodLink RX8 93 yX8_isLetter ∈ kw := kw_of 748 (by decide +kernel) (by decide +kernel)
theorem cv_RX8_93 : Cv RX8 93 yX8_isLetter cX8_isLetter 2 (some .boolean) 1 := ⟨⟨kx_X8_isLetter, km_RX8_93, kn_RX8, by decide +kernel, by decide +kernel, by decide +kernel⟩, ki_X8_isLetter, ks_X8_isLetter⟩
theorem kx_X8_letterAt : Cond.code yX8_letterAt cX8_letterAt 4 (some .int) ∈ kw := kw_of 747 (by decide +kernel) (by decide +kernel)
theorem ki_X8_letterAt : Cond.instanceMethod yX8_letterAt ∈ kw := kw_of 746 (by decide +kernel) (by decide +kernel)
theorem ks_X8_letterAt : Cond.selects yX8_letterAt.cls yX8_letterAt yX8_letterAt ∈ kw := kw_of 25 (by decide +kernel) (by decide +kernel)
theorem km_RX8_97 : Cond.methodLink RX8 97 yX8_letterAt ∈ kw := kw_of 744 (by decide +kernel) (by decide +kernel)
theorem cv_RX8_97 : Cv RX8 97 yX8_letterAt cX8_letterAt 4 (some .int) 2 := ⟨⟨kx_X8_letterAt, km_RX8_97, kn_RX8, by decide +kernel, by decide +kernel, by decide +kernel⟩, ki_X8_letterAt, ks_X8_letterAt⟩
theorem kx_X8_isKey : Cond.code yX8_isKey cX8_isKey 2 (some .boolean) ∈ kw := kw_of 775 (by decide +kernel) (by decide +kernel)
theorem ki_X8_isKey : Cond.instanceMethod yX8_isKey ∈ kw := kw_of 774 (by decide +kernel) (by decide +kernel)
theorem ks_X8_isKey : Cond.selects yX8_isKey.cls yX8_isKey yX8_isKey ∈ kw := kw_of 27 (by decide +kernel) (by decide +kernel)
theorem km_RX8_101 : Cond.methodLink RX8 101 yX8_isKey ∈ kw := kw_of 772 (by decide +kernel) (by decide +kernel)
theorem cv_RX8_101 : Cv RX8 101 yX8_isKey cX8_isKey 2 (some .boolean) 1 := ⟨⟨kx_X8_isKey, km_RX8_101, kn_RX8, by decide +kernel, by decide +kernel, by decide +kernel⟩, ki_X8_isKey, ks_X8_isKey⟩
theorem kx_X8_costOf : Cond.code yX8_costOf cX8_costOf 4 (some .int) ∈ kw := kw_of 783 (by decide +kernel) (by decide +kernel)
theorem ki_X8_costOf : Cond.instanceMethod yX8_costOf ∈ kw := kw_of 782 (by decide +kernel) (by decide +kernel)
theorem ks_X8_costOf : Cond.selects yX8_costOf.cls yX8_costOf yX8_costOf ∈ kw := kw_of 28 (by decide +kernel) (by decide +kernel)
theorem km_RX8_107 : Cond.methodLink RX8 107 yX8_costOf ∈ kw := kw_of 780 (by decide +kernel) (by decide +kernel)
theorem cv_RX8_107 : Cv RX8 107 yX8_costOf cX8_costOf 4 (some .int) 2 := ⟨⟨kx_X8_costOf, km_RX8_107, kn_RX8, by decide +kernel, by decide +kernel, by decide +kernel⟩, ki_X8_costOf, ks_X8_costOf⟩
theorem kx_X8_mayBear : Cond.code yX8_mayBear cX8_mayBear 6 (some .boolean) ∈ kw := kw_of 799 (by decide +kernel) (by decide +kernel)
theorem ki_X8_mayBear : Cond.instanceMethod yX8_mayBear ∈ kw := kw_of 798 (by decide +kernel) (by decide +kernel)
theorem ks_X8_mayBear : Cond.selects yX8_mayBear.cls yX8_mayBear yX8_mayBear ∈ kw := kw_of 29 (by decide +kernel) (by decide +kernel)
theorem km_RX8_110 : Cond.methodLink RX8 110 yX8_mayBear ∈ kw := kw_of 796 (by decide +kernel) (by decide +kernel)
theorem cv_RX8_110 : Cv RX8 110 yX8_mayBear cX8_mayBear 6 (some .boolean) 4 := ⟨⟨kx_X8_mayBear, km_RX8_110, kn_RX8, by decide +kernel, by decide +kernel, by decide +kernel⟩, ki_X8_mayBear, ks_X8_mayBear⟩
theorem kx_X8_borne : Cond.code yX8_borne cX8_borne 3 (some .int) ∈ kw := kw_of 807 (by decide +kernel) (by decide +kernel)
theorem ki_X8_borne : Cond.instanceMethod yX8_borne ∈ kw := kw_of 806 (by decide +kernel) (by decide +kernel)
theorem ks_X8_borne : Cond.selects yX8_borne.cls yX8_borne yX8_borne ∈ kw := kw_of 30 (by decide +kernel) (by decide +kernel)
theorem km_RX8_114 : Cond.methodLink RX8 114 yX8_borne ∈ kw := kw_of 804 (by decide +kernel) (by decide +kernel)
theorem cv_RX8_114 : Cv RX8 114 yX8_borne cX8_borne 3 (some .int) 1 := ⟨⟨kx_X8_borne, km_RX8_114, kn_RX8, by decide +kernel, by decide +kernel, by decide +kernel⟩, ki_X8_borne, ks_X8_borne⟩
theorem kx_X8_between : Cond.code yX8_between cX8_between 5 (some .long) ∈ kw := kw_of 823 (by decide +kernel) (by decide +kernel)
theorem ki_X8_between : Cond.instanceMethod yX8_between ∈ kw := kw_of 822 (by decide +kernel) (by decide +kernel)
theorem ks_X8_between : Cond.selects yX8_between.cls yX8_between yX8_between ∈ kw := kw_of 32 (by decide +kernel) (by decide +kernel)
theorem km_RX8_118 : Cond.methodLink RX8 118 yX8_between ∈ kw := kw_of 820 (by decide +kernel) (by decide +kernel)
theorem cv_RX8_118 : Cv RX8 118 yX8_between cX8_between 5 (some .long) 4 := ⟨⟨kx_X8_between, km_RX8_118, kn_RX8, by decide +kernel, by decide +kernel, by decide +kernel⟩, ki_X8_between, ks_X8_between⟩
theorem kx_X8_costAll : Cond.code yX8_costAll cX8_costAll 5 (some .long) ∈ kw := kw_of 819 (by decide +kernel) (by decide +kernel)
theorem ki_X8_costAll : Cond.instanceMethod yX8_costAll ∈ kw := kw_of 818 (by decide +kernel) (by decide +kernel)
theorem ks_X8_costAll : Cond.selects yX8_costAll.cls yX8_costAll yX8_costAll ∈ kw := kw_of 31 (by decide +kernel) (by decide +kernel)
theorem km_RX8_122 : Cond.methodLink RX8 122 yX8_costAll ∈ kw := kw_of 816 (by decide +kernel) (by decide +kernel)
theorem cv_RX8_122 : Cv RX8 122 yX8_costAll cX8_costAll 5 (some .long) 0 := ⟨⟨kx_X8_costAll, km_RX8_122, kn_RX8, by decide +kernel, by decide +kernel, by decide +kernel⟩, ki_X8_costAll, ks_X8_costAll⟩
theorem kx_X8_exchange : Cond.code yX8_exchange cX8_exchange 4 none ∈ kw := kw_of 837 (by decide +kernel) (by decide +kernel)
theorem ki_X8_exchange : Cond.instanceMethod yX8_exchange ∈ kw := kw_of 836 (by decide +kernel) (by decide +kernel)
theorem ks_X8_exchange : Cond.selects yX8_exchange.cls yX8_exchange yX8_exchange ∈ kw := kw_of 33 (by decide +kernel) (by decide +kernel)
theorem km_RX8_130 : Cond.methodLink RX8 130 yX8_exchange ∈ kw := kw_of 834 (by decide +kernel) (by decide +kernel)
theorem cv_RX8_130 : Cv RX8 130 yX8_exchange cX8_exchange 4 none 2 := ⟨⟨kx_X8_exchange, km_RX8_130, kn_RX8, by decide +kernel, by decide +kernel, by decide +kernel⟩, ki_X8_exchange, ks_X8_exchange⟩
theorem kx_X8_added : Cond.code yX8_added cX8_added 5 (some .long) ∈ kw := kw_of 851 (by decide +kernel) (by decide +kernel)
theorem ki_X8_added : Cond.instanceMethod yX8_added ∈ kw := kw_of 850 (by decide +kernel) (by decide +kernel)
theorem ks_X8_added : Cond.selects yX8_added.cls yX8_added yX8_added ∈ kw := kw_of 34 (by decide +kernel) (by decide +kernel)
theorem km_RX8_141 : Cond.methodLink RX8 141 yX8_added ∈ kw := kw_of 848 (by decide +kernel) (by decide +kernel)
theorem cv_RX8_141 : Cv RX8 141 yX8_added cX8_added 5 (some .long) 1 := ⟨⟨kx_X8_added, km_RX8_141, kn_RX8, by decide +kernel, by decide +kernel, by decide +kernel⟩, ki_X8_added, ks_X8_added⟩
theorem kx_X8_priceOf : Cond.code yX8_priceOf cX8_priceOf 8 (some .long) ∈ kw := kw_of 872 (by decide +kernel) (by decide +kernel)
theorem ki_X8_priceOf : Cond.instanceMethod yX8_priceOf ∈ kw := kw_of 871 (by decide +kernel) (by decide +kernel)
theorem ks_X8_priceOf : Cond.selects yX8_priceOf.cls yX8_priceOf yX8_priceOf ∈ kw := kw_of 35 (by decide +kernel) (by decide +kernel)
theorem km_RX8_151 : Cond.methodLink RX8 151 yX8_priceOf ∈ kw := kw_of 869 (by decide +kernel) (by decide +kernel)
theorem cv_RX8_151 : Cv RX8 151 yX8_priceOf cX8_priceOf 8 (some .long) 2 := ⟨⟨kx_X8_priceOf, km_RX8_151, kn_RX8, by decide +kernel, by decide +kernel, by decide +kernel⟩, ki_X8_priceOf, ks_X8_priceOf⟩
theorem kx_X8_isTurned : Cond.code yX8_isTurned cX8_isTurned 4 (some .boolean) ∈ kw := kw_of 888 (by decide +kernel) (by decide +kernel)
theorem ki_X8_isTurned : Cond.instanceMethod yX8_isTurned ∈ kw := kw_of 887 (by decide +kernel) (by decide +kernel)
theorem ks_X8_isTurned : Cond.selects yX8_isTurned.cls yX8_isTurned yX8_isTurned ∈ kw := kw_of 37 (by decide +kernel) (by decide +kernel)
theorem km_RX8_155 : Cond.methodLink RX8 155 yX8_isTurned ∈ kw := kw_of 885 (by decide +kernel) (by decide +kernel)
theorem cv_RX8_155 : Cv RX8 155 yX8_isTurned cX8_isTurned 4 (some .boolean) 1 := ⟨⟨kx_X8_isTurned, km_RX8_155, kn_RX8, by decide +kernel, by decide +kernel, by decide +kernel⟩, ki_X8_isTurned, ks_X8_isTurned⟩
theorem kx_X8_leads : Cond.code yX8_leads cX8_leads 2 (some .boolean) ∈ kw := kw_of 892 (by decide +kernel) (by decide +kernel)
theorem ki_X8_leads : Cond.instanceMethod yX8_leads ∈ kw := kw_of 891 (by decide +kernel) (by decide +kernel)
theorem ks_X8_leads : Cond.selects yX8_leads.cls yX8_leads yX8_leads ∈ kw := kw_of 38 (by decide +kernel) (by decide +kernel)
theorem km_RX8_158 : Cond.methodLink RX8 158 yX8_leads ∈ kw := kw_of 889 (by decide +kernel) (by decide +kernel)
theorem cv_RX8_158 : Cv RX8 158 yX8_leads cX8_leads 2 (some .boolean) 0 := ⟨⟨kx_X8_leads, km_RX8_158, kn_RX8, by decide +kernel, by decide +kernel, by decide +kernel⟩, ki_X8_leads, ks_X8_leads⟩
theorem kx_X8_turned : Cond.code yX8_turned cX8_turned 4 (some .int) ∈ kw := kw_of 884 (by decide +kernel) (by decide +kernel)
theorem ki_X8_turned : Cond.instanceMethod yX8_turned ∈ kw := kw_of 883 (by decide +kernel) (by decide +kernel)
theorem ks_X8_turned : Cond.selects yX8_turned.cls yX8_turned yX8_turned ∈ kw := kw_of 36 (by decide +kernel) (by decide +kernel)
theorem km_RX8_162 : Cond.methodLink RX8 162 yX8_turned ∈ kw := kw_of 881 (by decide +kernel) (by decide +kernel)
theorem cv_RX8_162 : Cv RX8 162 yX8_turned cX8_turned 4 (some .int) 1 := ⟨⟨kx_X8_turned, km_RX8_162, kn_RX8, by decide +kernel, by decide +kernel, by decide +kernel⟩, ki_X8_turned, ks_X8_turned⟩
theorem km_RX8_170 : Cond.methodLink RX8 170 yX8_count ∈ kw := kw_of 907 (by decide +kernel) (by decide +kernel)
theorem cv_RX8_170 : Cv RX8 170 yX8_count cX8_count 4 (some .int) 1 := ⟨⟨kx_X8_count, km_RX8_170, kn_RX8, by decide +kernel, by decide +kernel, by decide +kernel⟩, ki_X8_count, ks_X8_count⟩
theorem km_RX8_173 : Cond.methodLink RX8 173 yX8_least ∈ kw := kw_of 908 (by decide +kernel) (by decide +kernel)
theorem cv_RX8_173 : Cv RX8 173 yX8_least cX8_least 1 (some .long) 0 := ⟨⟨kx_X8_least, km_RX8_173, kn_RX8, by decide +kernel, by decide +kernel, by decide +kernel⟩, ki_X8_least, ks_X8_least⟩
theorem ka_il {x : Int} (h : iR x) : lR x := by omega
abbrev rm_J7_fill_53178_c9 : Room := { frames := 0, cells := 0, slots := 0, locals := 0 }
abbrev rm_J7_fill_53178_c10 : Room := { frames := 0, cells := 0, slots := 0, locals := 0 }
abbrev rm_X3_startAnew : Room := { frames := 1, cells := 0, slots := 0, locals := 23 }
abbrev rm_X1_forget : Room := { frames := 0, cells := 0, slots := 0, locals := 0 }
abbrev rm_X7_letters : Room := { frames := 2, cells := 0, slots := 0, locals := 44 }
abbrev rm_X8_in : Room := { frames := 0, cells := 0, slots := 0, locals := 0 }
abbrev rm_X8_unfix : Room := { frames := 0, cells := 0, slots := 0, locals := 0 }
abbrev rm_X8_isLetter : Room := { frames := 1, cells := 0, slots := 0, locals := 22 }
abbrev rm_X8_letterAt : Room := { frames := 2, cells := 0, slots := 0, locals := 43 }
abbrev rm_X8_counts : Room := { frames := 3, cells := 0, slots := 0, locals := 66 }
abbrev rm_X8_letters : Room := { frames := 4, cells := 0, slots := 0, locals := 90 }
abbrev rm_X7_isPage : Room := { frames := 0, cells := 0, slots := 0, locals := 0 }
abbrev rm_X4_countPair : Room := { frames := 0, cells := 0, slots := 0, locals := 0 }
abbrev rm_X4_append : Room := { frames := 1, cells := 0, slots := 0, locals := 25 }
abbrev rm_X4_write : Room := { frames := 2, cells := 0, slots := 0, locals := 48 }
abbrev rm_X7_feed : Room := { frames := 3, cells := 0, slots := 0, locals := 73 }
abbrev rm_X8_feed : Room := { frames := 4, cells := 0, slots := 0, locals := 90 }
abbrev rm_X4_wipe : Room := { frames := 1, cells := 0, slots := 0, locals := 25 }
abbrev rm_X7_tear : Room := { frames := 2, cells := 0, slots := 0, locals := 47 }
abbrev rm_X8_tear : Room := { frames := 4, cells := 0, slots := 0, locals := 90 }
abbrev rm_X3_has : Room := { frames := 0, cells := 0, slots := 0, locals := 0 }
abbrev rm_X7_often : Room := { frames := 1, cells := 0, slots := 0, locals := 21 }
abbrev rm_X8_often : Room := { frames := 2, cells := 0, slots := 0, locals := 43 }
abbrev rm_X2_reckonCost : Room := { frames := 0, cells := 0, slots := 0, locals := 0 }
abbrev rm_X2_append : Room := { frames := 1, cells := 0, slots := 0, locals := 23 }
abbrev rm_X7_key : Room := { frames := 2, cells := 0, slots := 0, locals := 47 }
abbrev rm_X8_key : Room := { frames := 1, cells := 0, slots := 0, locals := 22 }
abbrev rm_X2_has : Room := { frames := 0, cells := 0, slots := 0, locals := 0 }
abbrev rm_X2_setGoing : Room := { frames := 1, cells := 0, slots := 0, locals := 23 }
abbrev rm_X7_go : Room := { frames := 2, cells := 0, slots := 0, locals := 47 }
abbrev rm_X8_isKey : Room := { frames := 1, cells := 0, slots := 0, locals := 22 }
abbrev rm_X8_go : Room := { frames := 2, cells := 0, slots := 0, locals := 43 }
abbrev rm_X2_writeBody : Room := { frames := 0, cells := 0, slots := 0, locals := 0 }
abbrev rm_X2_writeBodies : Room := { frames := 1, cells := 0, slots := 0, locals := 21 }
abbrev rm_X7_cost : Room := { frames := 2, cells := 0, slots := 0, locals := 43 }
abbrev rm_X8_costOf : Room := { frames := 0, cells := 0, slots := 0, locals := 0 }
abbrev rm_X8_cost : Room := { frames := 2, cells := 0, slots := 0, locals := 43 }
abbrev rm_X7_body : Room := { frames := 0, cells := 0, slots := 0, locals := 0 }
abbrev rm_X8_body : Room := { frames := 1, cells := 0, slots := 0, locals := 22 }
abbrev rm_X3_fixOn : Room := { frames := 0, cells := 0, slots := 0, locals := 0 }
abbrev rm_X3_isFixedByOther : Room := { frames := 0, cells := 0, slots := 0, locals := 0 }
abbrev rm_X7_fix : Room := { frames := 1, cells := 0, slots := 0, locals := 23 }
abbrev rm_X8_fix : Room := { frames := 2, cells := 0, slots := 0, locals := 43 }
abbrev rm_X7_tooFewKeys : Room := { frames := 0, cells := 0, slots := 0, locals := 0 }
abbrev rm_X3_isFixed : Room := { frames := 0, cells := 0, slots := 0, locals := 0 }
abbrev rm_X5_unfixedFrom : Room := { frames := 0, cells := 0, slots := 0, locals := 0 }
abbrev rm_X5_becomeFirst : Room := { frames := 1, cells := 0, slots := 0, locals := 22 }
abbrev rm_X7_first : Room := { frames := 2, cells := 0, slots := 0, locals := 44 }
abbrev rm_X8_mayBear_c38 : Room := { frames := 0, cells := 0, slots := 0, locals := 0 }
abbrev rm_X8_first : Room := { frames := 1, cells := 0, slots := 0, locals := 25 }
abbrev rm_X5_letterOn : Room := { frames := 0, cells := 0, slots := 0, locals := 0 }
abbrev rm_X5_move : Room := { frames := 1, cells := 0, slots := 0, locals := 22 }
abbrev rm_X7_put : Room := { frames := 2, cells := 0, slots := 0, locals := 45 }
abbrev rm_X8_borne : Room := { frames := 0, cells := 0, slots := 0, locals := 0 }
abbrev rm_X8_put : Room := { frames := 2, cells := 0, slots := 0, locals := 43 }
abbrev rm_X7_at : Room := { frames := 1, cells := 0, slots := 0, locals := 21 }
abbrev rm_X8_at : Room := { frames := 2, cells := 0, slots := 0, locals := 43 }
abbrev rm_X5_pairCost : Room := { frames := 0, cells := 0, slots := 0, locals := 0 }
abbrev rm_X5_wholeCost : Room := { frames := 1, cells := 0, slots := 0, locals := 22 }
abbrev rm_X7_all : Room := { frames := 2, cells := 0, slots := 0, locals := 46 }
abbrev rm_X8_between : Room := { frames := 1, cells := 0, slots := 0, locals := 23 }
abbrev rm_X8_costAll : Room := { frames := 2, cells := 0, slots := 0, locals := 47 }
abbrev rm_X8_all : Room := { frames := 3, cells := 0, slots := 0, locals := 71 }
abbrev rm_X5_shareOf : Room := { frames := 1, cells := 0, slots := 0, locals := 22 }
abbrev rm_X7_share : Room := { frames := 2, cells := 0, slots := 0, locals := 47 }
abbrev rm_X8_share : Room := { frames := 2, cells := 0, slots := 0, locals := 47 }
abbrev rm_X5_changeByMove : Room := { frames := 2, cells := 0, slots := 0, locals := 47 }
abbrev rm_X5_weigh : Room := { frames := 3, cells := 0, slots := 0, locals := 75 }
abbrev rm_X5_weighExchanges : Room := { frames := 4, cells := 0, slots := 0, locals := 99 }
abbrev rm_X3_allow : Room := { frames := 1, cells := 0, slots := 0, locals := 21 }
abbrev rm_X5_weighGoings : Room := { frames := 4, cells := 0, slots := 0, locals := 99 }
abbrev rm_X5_findBestChange : Room := { frames := 5, cells := 0, slots := 0, locals := 121 }
abbrev rm_X5_betterToTheEnd : Room := { frames := 6, cells := 0, slots := 0, locals := 142 }
abbrev rm_X7_better : Room := { frames := 7, cells := 0, slots := 0, locals := 163 }
abbrev rm_X8_exchange : Room := { frames := 0, cells := 0, slots := 0, locals := 0 }
abbrev rm_X8_better : Room := { frames := 3, cells := 0, slots := 0, locals := 71 }
abbrev rm_X7_change : Room := { frames := 3, cells := 0, slots := 0, locals := 75 }
abbrev rm_X8_change : Room := { frames := 3, cells := 0, slots := 0, locals := 71 }
abbrev rm_X1_costAddedBy : Room := { frames := 0, cells := 0, slots := 0, locals := 0 }
abbrev rm_X1_keep : Room := { frames := 0, cells := 0, slots := 0, locals := 0 }
abbrev rm_X1_tryOn (d : Nat) : Room := { frames := 2 * d + 5, cells := 0, slots := 0, locals := 80 * d + 240 }
abbrev rm_X1_placeFrom (d : Nat) : Room := { frames := 2 * d + 4, cells := 0, slots := 0, locals := 80 * d + 200 }
abbrev rm_X1_findLeast : Room := { frames := 29, cells := 0, slots := 0, locals := 1184 }
abbrev rm_X7_search : Room := { frames := 30, cells := 0, slots := 0, locals := 1204 }
abbrev rm_X8_mayBear_c41 : Room := { frames := 0, cells := 0, slots := 0, locals := 0 }
abbrev rm_X8_added : Room := { frames := 2, cells := 0, slots := 0, locals := 47 }
abbrev rm_X8_search : Room := { frames := 3, cells := 0, slots := 0, locals := 71 }
abbrev rm_X7_least : Room := { frames := 0, cells := 0, slots := 0, locals := 0 }
abbrev rm_X8_least : Room := { frames := 0, cells := 0, slots := 0, locals := 0 }
abbrev rm_X5_become_c22 : Room := { frames := 0, cells := 0, slots := 0, locals := 0 }
abbrev rm_X7_take : Room := { frames := 1, cells := 0, slots := 0, locals := 22 }
abbrev rm_X8_take : Room := { frames := 0, cells := 0, slots := 0, locals := 0 }
abbrev rm_X7_tries : Room := { frames := 0, cells := 0, slots := 0, locals := 0 }
abbrev rm_X8_tries : Room := { frames := 0, cells := 0, slots := 0, locals := 0 }
abbrev rm_J7_fill_d0a16_c26 : Room := { frames := 0, cells := 0, slots := 0, locals := 0 }
abbrev rm_X0_insert_c23 : Room := { frames := 0, cells := 0, slots := 0, locals := 0 }
abbrev rm_X0_gatherOftens : Room := { frames := 1, cells := 0, slots := 0, locals := 23 }
abbrev rm_X0_insert_c24 : Room := { frames := 0, cells := 0, slots := 0, locals := 0 }
abbrev rm_X0_gatherWays : Room := { frames := 1, cells := 0, slots := 0, locals := 23 }
abbrev rm_X0_priceOn : Room := { frames := 2, cells := 0, slots := 0, locals := 46 }
abbrev rm_X0_leastWithLatestKey : Room := { frames := 1, cells := 0, slots := 0, locals := 40 }
abbrev rm_X0_leastSum : Room := { frames := 3, cells := 0, slots := 0, locals := 73 }
abbrev rm_X7_bound : Room := { frames := 4, cells := 0, slots := 0, locals := 96 }
abbrev rm_X8_priceOf : Room := { frames := 1, cells := 0, slots := 0, locals := 23 }
abbrev rm_X8_bound : Room := { frames := 2, cells := 0, slots := 0, locals := 50 }
abbrev rm_X7_price : Room := { frames := 3, cells := 0, slots := 0, locals := 73 }
abbrev rm_X8_price : Room := { frames := 2, cells := 0, slots := 0, locals := 50 }
abbrev rm_J7_fill_53178_c28 : Room := { frames := 0, cells := 0, slots := 0, locals := 0 }
abbrev rm_X6_sameGoings : Room := { frames := 0, cells := 0, slots := 0, locals := 0 }
abbrev rm_X6_mayGo : Room := { frames := 1, cells := 0, slots := 0, locals := 24 }
abbrev rm_X6_turnsWith (d : Nat) : Room := { frames := 2 * d + 5, cells := 0, slots := 0, locals := 80 * d + 240 }
abbrev rm_X6_turnsFrom (d : Nat) : Room := { frames := 2 * d + 4, cells := 0, slots := 0, locals := 80 * d + 200 }
abbrev rm_X6_countTurns : Room := { frames := 23, cells := 0, slots := 0, locals := 943 }
abbrev rm_X7_turns : Room := { frames := 24, cells := 0, slots := 0, locals := 963 }
abbrev rm_X8_isTurned : Room := { frames := 0, cells := 0, slots := 0, locals := 0 }
abbrev rm_X8_leads : Room := { frames := 0, cells := 0, slots := 0, locals := 0 }
abbrev rm_X8_turned : Room := { frames := 1, cells := 0, slots := 0, locals := 23 }
abbrev rm_X8_turns : Room := { frames := 2, cells := 0, slots := 0, locals := 46 }
abbrev rm_X6_leads_c19_c22 : Room := { frames := 23, cells := 0, slots := 0, locals := 943 }
abbrev rm_X7_alike : Room := { frames := 24, cells := 0, slots := 0, locals := 967 }
abbrev rm_X8_alike : Room := { frames := 2, cells := 0, slots := 0, locals := 46 }
abbrev rm_X4_present : Room := { frames := 0, cells := 0, slots := 0, locals := 0 }
abbrev rm_X4_signsTogether : Room := { frames := 0, cells := 0, slots := 0, locals := 0 }
abbrev rm_X4_pairsOf : Room := { frames := 0, cells := 0, slots := 0, locals := 0 }
abbrev rm_X3_fixedTogether : Room := { frames := 1, cells := 0, slots := 0, locals := 21 }
abbrev rm_X7_count : Room := { frames := 2, cells := 0, slots := 0, locals := 43 }
abbrev rm_X8_count : Room := { frames := 0, cells := 0, slots := 0, locals := 0 }
abbrev rm_X7_mixSquare_c13 : Room := { frames := 0, cells := 0, slots := 0, locals := 0 }
abbrev rm_X7_mixSquare_c17 : Room := { frames := 0, cells := 0, slots := 0, locals := 0 }
abbrev rm_X7_digest : Room := { frames := 3, cells := 0, slots := 0, locals := 64 }
abbrev rm_X8_digest : Room := { frames := 1, cells := 0, slots := 0, locals := 23 }
