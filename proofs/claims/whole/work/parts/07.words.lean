/-! THE WORDS that the tables' links ask, each in lw_tbl: by their places -/
def xq_C (ci : Nat) : vw_C := match ci with
  | 0 => (RX0, TX0, 4)
  | 1 => (RX1, TX1, 7)
  | 2 => (RX2, TX2, 2)
  | 3 => (RX3, TX3, 5)
  | 4 => (RX4, TX4, 12)
  | 5 => (RX5, TX5, 3)
  | 6 => (RX6, TX6, 3)
  | 7 => (RX7, TX7, 9)
  | 8 => (RX8, TX8, 7)
  | 9 => (RX9, TX9, 3)
  | 10 => (RX10, TX10, 19)
  | _ => (RX11, TX11, 47)
/-- the words that a callee may take over -/
def xq_g : List Cond := lw_tbl.filter goodWord
theorem xq_mem {α : Type} {f : α → Cond} {l : List α} {ps : List Nat} {T : List Cond} (hg : ∀ a, goodWord (f a) = true) (h : l.map f = ps.filterMap (fun i => T[i]?)) (hT : ∀ w ∈ T, w ∈ lw_tbl) : ∀ a ∈ l, f a ∈ xq_g := by
  intro a ha
  have h1 : f a ∈ l.map f := List.mem_map.mpr ⟨a, ha, rfl⟩
  rw [h] at h1
  obtain ⟨i, -, hi⟩ := List.mem_filterMap.mp h1
  exact List.mem_filter.mpr ⟨hT _ (List.mem_of_getElem? hi), hg a⟩
theorem xq_T0 : ∀ w ∈ k2_sels lw_privs, w ∈ lw_tbl := fun w h => List.mem_append_left _ h
theorem xq_T1 : ∀ w ∈ tables_1_1, w ∈ lw_tbl := fun w h => List.mem_append_right _ (List.mem_append_left _ h)
theorem xq_T2 : ∀ w ∈ tables_1_2, w ∈ lw_tbl := fun w h => List.mem_append_right _ (List.mem_append_right _ (List.mem_append_left _ h))
theorem xq_T3 : ∀ w ∈ tables_1_3, w ∈ lw_tbl := fun w h => List.mem_append_right _ (List.mem_append_right _ (List.mem_append_right _ (List.mem_append_left _ h)))
theorem xq_T4 : ∀ w ∈ tables_1_4, w ∈ lw_tbl := fun w h => List.mem_append_right _ (List.mem_append_right _ (List.mem_append_right _ (List.mem_append_right _ (List.mem_append_left _ h))))
theorem xq_T5 : ∀ w ∈ tables_1_5, w ∈ lw_tbl := fun w h => List.mem_append_right _ (List.mem_append_right _ (List.mem_append_right _ (List.mem_append_right _ (List.mem_append_right _ (List.mem_append_left _ h)))))
theorem xq_T6 : ∀ w ∈ tables_1_6, w ∈ lw_tbl := fun w h => List.mem_append_right _ (List.mem_append_right _ (List.mem_append_right _ (List.mem_append_right _ (List.mem_append_right _ (List.mem_append_right _ (List.mem_append_left _ h))))))
theorem xq_T7 : ∀ w ∈ tables_1_7, w ∈ lw_tbl := fun w h => List.mem_append_right _ (List.mem_append_right _ (List.mem_append_right _ (List.mem_append_right _ (List.mem_append_right _ (List.mem_append_right _ (List.mem_append_right _ (List.mem_append_left _ h)))))))
theorem xq_T8 : ∀ w ∈ tables_1_8, w ∈ lw_tbl := fun w h => List.mem_append_right _ (List.mem_append_right _ (List.mem_append_right _ (List.mem_append_right _ (List.mem_append_right _ (List.mem_append_right _ (List.mem_append_right _ (List.mem_append_right _ (h))))))))
def xq_f_code : Nat → Cond := fun i => .code (xq_m i).1 (xq_m i).2.1 (xq_m i).2.2.1 (xq_m i).2.2.2.1
theorem xq_gw_code : ∀ a, goodWord (xq_f_code a) = true := fun a => by rfl
def xq_l_code_1_0 : List (Nat) := [0, 4, 26, 56, 68, 74, 79, 99]
set_option maxRecDepth 100000 in
theorem xq_w_code_1_0 : ∀ a ∈ xq_l_code_1_0, xq_f_code a ∈ xq_g := xq_mem xq_gw_code (ps := [186, 74, 80, 212, 169, 126, 37, 29]) (T := tables_1_1) rfl xq_T1
def xq_l_code_2_0 : List (Nat) := [6, 20, 21, 28, 29, 32, 34, 41, 44, 66, 67, 80, 92, 95, 96, 97, 100, 105, 106, 117, 120, 122, 126, 128, 136, 142, 271, 272]
set_option maxRecDepth 100000 in
theorem xq_w_code_2_0 : ∀ a ∈ xq_l_code_2_0, xq_f_code a ∈ xq_g := xq_mem xq_gw_code (ps := [150, 230, 226, 157, 171, 179, 175, 187, 37, 211, 215, 138, 59, 195, 199, 203, 134, 142, 146, 166, 183, 191, 207, 222, 237, 162, 218, 233]) (T := tables_1_2) rfl xq_T2
def xq_l_code_3_0 : List (Nat) := [57, 58, 59, 60, 61, 62, 64, 65, 73, 81, 82, 83, 84, 85, 86, 87, 88, 89, 101, 137, 138, 139, 141, 273, 274, 275, 276, 277, 278, 279, 280, 281]
set_option maxRecDepth 100000 in
theorem xq_w_code_3_0 : ∀ a ∈ xq_l_code_3_0, xq_f_code a ∈ xq_g := xq_mem xq_gw_code (ps := [121, 136, 149, 214, 218, 222, 235, 239, 1, 113, 128, 210, 132, 229, 145, 226, 140, 154, 38, 22, 26, 30, 42, 116, 158, 168, 162, 172, 178, 175, 124, 183]) (T := tables_1_3) rfl xq_T3
def xq_l_code_4_0 : List (Nat) := [5, 7, 8, 9, 10, 11, 12, 13, 14, 16, 17, 18, 27, 30, 33, 35, 38, 39, 45, 46, 47, 48, 49, 50, 51, 52, 53, 54, 55, 63, 75, 76, 77, 78, 90, 91, 93, 94, 102, 103, 104, 107, 143, 145, 146]
set_option maxRecDepth 100000 in
theorem xq_w_code_4_0 : ∀ a ∈ xq_l_code_4_0, xq_f_code a ∈ xq_g := xq_mem xq_gw_code (ps := [18, 137, 150, 154, 181, 186, 190, 145, 141, 194, 235, 239, 23, 177, 173, 167, 158, 162, 28, 45, 49, 53, 57, 88, 75, 70, 198, 202, 205, 5, 100, 104, 123, 111, 63, 9, 32, 218, 40, 96, 214, 231, 14, 129, 133]) (T := tables_1_4) rfl xq_T4
def xq_l_code_5_0 : List (Nat) := [15, 22, 23, 24, 25, 31, 36, 40, 42, 43, 69, 70, 71, 72, 98, 108, 109, 110, 111, 112, 113, 114, 115, 116, 118, 119, 121, 123, 124, 125, 127, 129, 130, 131, 132, 140, 147]
set_option maxRecDepth 100000 in
theorem xq_w_code_5_0 : ∀ a ∈ xq_l_code_5_0, xq_f_code a ∈ xq_g := xq_mem xq_gw_code (ps := [160, 211, 215, 227, 231, 98, 3, 117, 129, 134, 186, 191, 195, 199, 148, 11, 38, 47, 54, 62, 70, 78, 86, 93, 105, 113, 125, 144, 156, 168, 175, 182, 206, 223, 239, 15, 137]) (T := tables_1_5) rfl xq_T5
def xq_l_code_6_0 : List (Nat) := [1, 2, 3, 19, 37, 133, 134, 135, 144, 148, 149, 150, 151, 152, 156, 158, 170, 175, 176, 178]
set_option maxRecDepth 100000 in
theorem xq_w_code_6_0 : ∀ a ∈ xq_l_code_6_0, xq_f_code a ∈ xq_g := xq_mem xq_gw_code (ps := [25, 35, 30, 14, 41, 6, 21, 49, 10, 54, 61, 214, 229, 225, 218, 237, 233, 222, 68, 65]) (T := tables_1_6) rfl xq_T6
def xq_l_code_7_0 : List (Nat) := [153, 154, 157, 159, 160, 161, 162, 163, 164, 165, 166, 167, 168, 169, 171, 172, 173, 174, 177, 179, 180, 181, 182, 183, 184, 185, 186, 187, 188, 189, 190, 191, 192, 193, 194, 195, 196, 197, 198, 199, 200, 201, 202, 203, 204, 205, 206, 207, 208, 209, 210, 211, 212, 213, 214, 215, 216, 217, 218, 221]
set_option maxRecDepth 100000 in
theorem xq_w_code_7_0 : ∀ a ∈ xq_l_code_7_0, xq_f_code a ∈ xq_g := xq_mem xq_gw_code (ps := [186, 189, 1, 27, 38, 20, 35, 17, 23, 13, 31, 83, 47, 87, 51, 9, 5, 43, 110, 75, 71, 59, 63, 79, 67, 55, 183, 180, 107, 103, 91, 95, 148, 168, 151, 165, 162, 159, 155, 145, 208, 139, 142, 136, 133, 129, 125, 176, 205, 172, 122, 118, 114, 99, 193, 201, 197, 216, 224, 212]) (T := tables_1_7) rfl xq_T7
def xq_l_code_7_1 : List (Nat) := [222, 223, 224, 225]
set_option maxRecDepth 100000 in
theorem xq_w_code_7_1 : ∀ a ∈ xq_l_code_7_1, xq_f_code a ∈ xq_g := xq_mem xq_gw_code (ps := [220, 228, 232, 236]) (T := tables_1_7) rfl xq_T7
def xq_l_code_8_0 : List (Nat) := [155, 219, 220, 226, 227, 228, 229, 230, 231, 232, 233, 234, 235, 236, 237, 238, 239, 240, 241, 242, 243, 244, 245, 246, 247, 248, 249, 250, 251, 252, 253, 254, 255, 256, 257, 258, 259, 260, 261, 262, 263, 264, 265, 266, 267, 268, 269, 270]
set_option maxRecDepth 100000 in
theorem xq_w_code_8_0 : ∀ a ∈ xq_l_code_8_0, xq_f_code a ∈ xq_g := xq_mem xq_gw_code (ps := [43, 4, 58, 0, 8, 12, 20, 16, 28, 24, 32, 40, 36, 51, 47, 55, 62, 70, 66, 74, 78, 86, 82, 90, 102, 98, 94, 110, 114, 106, 122, 118, 126, 138, 134, 130, 142, 157, 153, 149, 146, 162, 174, 170, 166, 178, 182, 186]) (T := tables_1_8) rfl xq_T8
def xq_L_code : List (Nat) := xq_l_code_1_0 ++ (xq_l_code_2_0 ++ (xq_l_code_3_0 ++ (xq_l_code_4_0 ++ (xq_l_code_5_0 ++ (xq_l_code_6_0 ++ (xq_l_code_7_0 ++ (xq_l_code_7_1 ++ (xq_l_code_8_0))))))))
theorem xq_W_code : ∀ a ∈ xq_L_code, xq_f_code a ∈ xq_g := List.forall_mem_append.mpr ⟨xq_w_code_1_0, List.forall_mem_append.mpr ⟨xq_w_code_2_0, List.forall_mem_append.mpr ⟨xq_w_code_3_0, List.forall_mem_append.mpr ⟨xq_w_code_4_0, List.forall_mem_append.mpr ⟨xq_w_code_5_0, List.forall_mem_append.mpr ⟨xq_w_code_6_0, List.forall_mem_append.mpr ⟨xq_w_code_7_0, List.forall_mem_append.mpr ⟨xq_w_code_7_1, xq_w_code_8_0⟩⟩⟩⟩⟩⟩⟩⟩
def xq_f_codeWith : Nat → Cond := fun i => .codeWith (xq_m i).1 (xq_m i).2.1 (xq_m i).2.2.1 (xq_m i).2.2.2.1 (xq_m i).2.2.2.2.1
theorem xq_gw_codeWith : ∀ a, goodWord (xq_f_codeWith a) = true := fun a => by rfl
def xq_l_codeWith_3_0 : List (Nat) := [282]
set_option maxRecDepth 100000 in
theorem xq_w_codeWith_3_0 : ∀ a ∈ xq_l_codeWith_3_0, xq_f_codeWith a ∈ xq_g := xq_mem xq_gw_codeWith (ps := [33]) (T := tables_1_3) rfl xq_T3
def xq_l_codeWith_4_0 : List (Nat) := [283, 284, 285, 286]
set_option maxRecDepth 100000 in
theorem xq_w_codeWith_4_0 : ∀ a ∈ xq_l_codeWith_4_0, xq_f_codeWith a ∈ xq_g := xq_mem xq_gw_codeWith (ps := [36, 92, 210, 227]) (T := tables_1_4) rfl xq_T4
def xq_l_codeWith_5_0 : List (Nat) := [287, 288, 289, 290, 291, 292, 293, 294, 295, 296, 297, 298, 299, 300, 301, 302, 303, 304, 305, 306]
set_option maxRecDepth 100000 in
theorem xq_w_codeWith_5_0 : ∀ a ∈ xq_l_codeWith_5_0, xq_f_codeWith a ∈ xq_g := xq_mem xq_gw_codeWith (ps := [6, 34, 43, 50, 58, 66, 74, 82, 89, 101, 109, 121, 140, 152, 164, 171, 178, 202, 219, 235]) (T := tables_1_5) rfl xq_T5
def xq_l_codeWith_6_0 : List (Nat) := [307, 308, 309]
set_option maxRecDepth 100000 in
theorem xq_w_codeWith_6_0 : ∀ a ∈ xq_l_codeWith_6_0, xq_f_codeWith a ∈ xq_g := xq_mem xq_gw_codeWith (ps := [2, 17, 45]) (T := tables_1_6) rfl xq_T6
def xq_L_codeWith : List (Nat) := xq_l_codeWith_3_0 ++ (xq_l_codeWith_4_0 ++ (xq_l_codeWith_5_0 ++ (xq_l_codeWith_6_0)))
theorem xq_W_codeWith : ∀ a ∈ xq_L_codeWith, xq_f_codeWith a ∈ xq_g := List.forall_mem_append.mpr ⟨xq_w_codeWith_3_0, List.forall_mem_append.mpr ⟨xq_w_codeWith_4_0, List.forall_mem_append.mpr ⟨xq_w_codeWith_5_0, xq_w_codeWith_6_0⟩⟩⟩
def xq_f_static : Nat → Cond := fun i => .static (xq_m i).1
theorem xq_gw_static : ∀ a, goodWord (xq_f_static a) = true := fun a => by rfl
def xq_l_static_2_0 : List (Nat) := [271, 272]
set_option maxRecDepth 100000 in
theorem xq_w_static_2_0 : ∀ a ∈ xq_l_static_2_0, xq_f_static a ∈ xq_g := xq_mem xq_gw_static (ps := [217, 232]) (T := tables_1_2) rfl xq_T2
def xq_l_static_3_0 : List (Nat) := [85, 86, 273, 278, 279, 280, 281, 282]
set_option maxRecDepth 100000 in
theorem xq_w_static_3_0 : ∀ a ∈ xq_l_static_3_0, xq_f_static a ∈ xq_g := xq_mem xq_gw_static (ps := [228, 144, 115, 177, 174, 123, 182, 32]) (T := tables_1_3) rfl xq_T3
def xq_l_static_4_0 : List (Nat) := [55, 283, 284, 285, 286]
set_option maxRecDepth 100000 in
theorem xq_w_static_4_0 : ∀ a ∈ xq_l_static_4_0, xq_f_static a ∈ xq_g := xq_mem xq_gw_static (ps := [204, 35, 91, 209, 226]) (T := tables_1_4) rfl xq_T4
def xq_l_static_5_0 : List (Nat) := [147, 287, 288, 289, 290, 291, 292, 293, 294, 295, 296, 297, 298, 299, 300, 301, 302, 303, 304, 305, 306]
set_option maxRecDepth 100000 in
theorem xq_w_static_5_0 : ∀ a ∈ xq_l_static_5_0, xq_f_static a ∈ xq_g := xq_mem xq_gw_static (ps := [136, 5, 33, 42, 49, 57, 65, 73, 81, 88, 100, 108, 120, 139, 151, 163, 170, 177, 201, 218, 234]) (T := tables_1_5) rfl xq_T5
def xq_l_static_6_0 : List (Nat) := [152, 176, 307, 308, 309]
set_option maxRecDepth 100000 in
theorem xq_w_static_6_0 : ∀ a ∈ xq_l_static_6_0, xq_f_static a ∈ xq_g := xq_mem xq_gw_static (ps := [224, 67, 1, 16, 44]) (T := tables_1_6) rfl xq_T6
def xq_l_static_7_0 : List (Nat) := [153, 154, 160, 161, 164, 177, 186, 192, 193, 194, 195, 196, 199, 200, 201, 202, 203, 206]
set_option maxRecDepth 100000 in
theorem xq_w_static_7_0 : ∀ a ∈ xq_l_static_7_0, xq_f_static a ∈ xq_g := xq_mem xq_gw_static (ps := [185, 188, 37, 19, 22, 109, 182, 147, 167, 150, 164, 161, 144, 207, 138, 141, 135, 124]) (T := tables_1_7) rfl xq_T7
def xq_l_static_8_0 : List (Nat) := [155, 220, 262]
set_option maxRecDepth 100000 in
theorem xq_w_static_8_0 : ∀ a ∈ xq_l_static_8_0, xq_f_static a ∈ xq_g := xq_mem xq_gw_static (ps := [42, 57, 148]) (T := tables_1_8) rfl xq_T8
def xq_L_static : List (Nat) := xq_l_static_2_0 ++ (xq_l_static_3_0 ++ (xq_l_static_4_0 ++ (xq_l_static_5_0 ++ (xq_l_static_6_0 ++ (xq_l_static_7_0 ++ (xq_l_static_8_0))))))
theorem xq_W_static : ∀ a ∈ xq_L_static, xq_f_static a ∈ xq_g := List.forall_mem_append.mpr ⟨xq_w_static_2_0, List.forall_mem_append.mpr ⟨xq_w_static_3_0, List.forall_mem_append.mpr ⟨xq_w_static_4_0, List.forall_mem_append.mpr ⟨xq_w_static_5_0, List.forall_mem_append.mpr ⟨xq_w_static_6_0, List.forall_mem_append.mpr ⟨xq_w_static_7_0, xq_w_static_8_0⟩⟩⟩⟩⟩⟩
def xq_f_inst : Nat → Cond := fun i => .instanceMethod (xq_m i).1
theorem xq_gw_inst : ∀ a, goodWord (xq_f_inst a) = true := fun a => by rfl
def xq_l_inst_1_0 : List (Nat) := [0, 4, 26, 56, 68, 74, 79, 99]
set_option maxRecDepth 100000 in
theorem xq_w_inst_1_0 : ∀ a ∈ xq_l_inst_1_0, xq_f_inst a ∈ xq_g := xq_mem xq_gw_inst (ps := [185, 73, 79, 211, 168, 125, 36, 28]) (T := tables_1_1) rfl xq_T1
def xq_l_inst_2_0 : List (Nat) := [6, 20, 21, 28, 29, 32, 34, 41, 44, 66, 67, 80, 92, 95, 96, 97, 100, 105, 106, 117, 120, 122, 126, 128, 136, 142]
set_option maxRecDepth 100000 in
theorem xq_w_inst_2_0 : ∀ a ∈ xq_l_inst_2_0, xq_f_inst a ∈ xq_g := xq_mem xq_gw_inst (ps := [148, 228, 224, 155, 169, 178, 173, 185, 36, 209, 214, 136, 58, 193, 198, 202, 132, 140, 144, 164, 181, 189, 205, 220, 235, 161]) (T := tables_1_2) rfl xq_T2
def xq_l_inst_3_0 : List (Nat) := [57, 58, 59, 60, 61, 62, 64, 65, 73, 81, 82, 83, 84, 87, 88, 89, 101, 137, 138, 139, 141, 274, 275, 276, 277]
set_option maxRecDepth 100000 in
theorem xq_w_inst_3_0 : ∀ a ∈ xq_l_inst_3_0, xq_f_inst a ∈ xq_g := xq_mem xq_gw_inst (ps := [119, 135, 148, 213, 217, 221, 234, 238, 0, 111, 126, 208, 130, 224, 138, 152, 36, 20, 24, 28, 41, 156, 166, 160, 170]) (T := tables_1_3) rfl xq_T3
def xq_l_inst_4_0 : List (Nat) := [5, 7, 8, 9, 10, 11, 12, 13, 14, 16, 17, 18, 27, 30, 33, 35, 38, 39, 45, 46, 47, 48, 49, 50, 51, 52, 53, 54, 63, 75, 76, 77, 78, 90, 91, 93, 94, 102, 103, 104, 107, 143, 145, 146]
set_option maxRecDepth 100000 in
theorem xq_w_inst_4_0 : ∀ a ∈ xq_l_inst_4_0, xq_f_inst a ∈ xq_g := xq_mem xq_gw_inst (ps := [16, 135, 148, 152, 179, 184, 188, 143, 139, 192, 233, 237, 21, 175, 171, 165, 156, 161, 26, 43, 48, 52, 56, 87, 74, 69, 196, 201, 4, 98, 103, 122, 110, 61, 7, 30, 216, 38, 94, 212, 229, 13, 128, 132]) (T := tables_1_4) rfl xq_T4
def xq_l_inst_5_0 : List (Nat) := [15, 22, 23, 24, 25, 31, 36, 40, 42, 43, 69, 70, 71, 72, 98, 108, 109, 110, 111, 112, 113, 114, 115, 116, 118, 119, 121, 123, 124, 125, 127, 129, 130, 131, 132, 140]
set_option maxRecDepth 100000 in
theorem xq_w_inst_5_0 : ∀ a ∈ xq_l_inst_5_0, xq_f_inst a ∈ xq_g := xq_mem xq_gw_inst (ps := [158, 209, 214, 225, 229, 96, 1, 115, 127, 132, 184, 190, 194, 197, 146, 9, 36, 45, 52, 60, 68, 76, 84, 91, 103, 111, 123, 142, 154, 166, 173, 180, 204, 221, 237, 14]) (T := tables_1_5) rfl xq_T5
def xq_l_inst_6_0 : List (Nat) := [1, 2, 3, 19, 37, 133, 134, 135, 144, 148, 149, 150, 151, 156, 158, 170, 175, 178]
set_option maxRecDepth 100000 in
theorem xq_w_inst_6_0 : ∀ a ∈ xq_l_inst_6_0, xq_f_inst a ∈ xq_g := xq_mem xq_gw_inst (ps := [23, 34, 29, 12, 39, 4, 19, 47, 9, 53, 60, 212, 228, 216, 236, 232, 220, 64]) (T := tables_1_6) rfl xq_T6
def xq_l_inst_7_0 : List (Nat) := [157, 159, 162, 163, 165, 166, 167, 168, 169, 171, 172, 173, 174, 179, 180, 181, 182, 183, 184, 185, 187, 188, 189, 190, 191, 197, 198, 204, 205, 207, 208, 209, 210, 211, 212, 213, 214, 215, 216, 217, 218, 221, 222, 223, 224, 225, 226]
set_option maxRecDepth 100000 in
theorem xq_w_inst_7_0 : ∀ a ∈ xq_l_inst_7_0, xq_f_inst a ∈ xq_g := xq_mem xq_gw_inst (ps := [0, 26, 34, 16, 12, 30, 82, 46, 86, 50, 8, 4, 42, 74, 70, 58, 62, 78, 66, 53, 179, 106, 102, 89, 93, 158, 154, 132, 128, 175, 204, 171, 121, 117, 113, 97, 191, 200, 195, 215, 223, 210, 218, 226, 230, 234, 238]) (T := tables_1_7) rfl xq_T7
def xq_l_inst_8_0 : List (Nat) := [219, 227, 228, 229, 230, 231, 232, 233, 234, 235, 236, 237, 238, 239, 240, 241, 242, 243, 244, 245, 246, 247, 248, 249, 250, 251, 252, 253, 254, 255, 256, 257, 258, 259, 260, 261, 263, 264, 265, 266, 267, 268, 269, 270]
set_option maxRecDepth 100000 in
theorem xq_w_inst_8_0 : ∀ a ∈ xq_l_inst_8_0, xq_f_inst a ∈ xq_g := xq_mem xq_gw_inst (ps := [3, 6, 10, 19, 14, 27, 22, 30, 39, 34, 50, 45, 53, 60, 69, 64, 72, 76, 85, 80, 88, 101, 97, 92, 109, 113, 104, 121, 116, 124, 137, 133, 128, 140, 156, 152, 144, 160, 173, 169, 164, 176, 180, 184]) (T := tables_1_8) rfl xq_T8
def xq_L_inst : List (Nat) := xq_l_inst_1_0 ++ (xq_l_inst_2_0 ++ (xq_l_inst_3_0 ++ (xq_l_inst_4_0 ++ (xq_l_inst_5_0 ++ (xq_l_inst_6_0 ++ (xq_l_inst_7_0 ++ (xq_l_inst_8_0)))))))
theorem xq_W_inst : ∀ a ∈ xq_L_inst, xq_f_inst a ∈ xq_g := List.forall_mem_append.mpr ⟨xq_w_inst_1_0, List.forall_mem_append.mpr ⟨xq_w_inst_2_0, List.forall_mem_append.mpr ⟨xq_w_inst_3_0, List.forall_mem_append.mpr ⟨xq_w_inst_4_0, List.forall_mem_append.mpr ⟨xq_w_inst_5_0, List.forall_mem_append.mpr ⟨xq_w_inst_6_0, List.forall_mem_append.mpr ⟨xq_w_inst_7_0, xq_w_inst_8_0⟩⟩⟩⟩⟩⟩⟩
def xq_f_sel : Nat → Cond := fun i => .selects (xq_m i).1.cls (xq_m i).1 (xq_m i).1
theorem xq_gw_sel : ∀ a, goodWord (xq_f_sel a) = true := fun a => by rfl
def xq_l_sel_0_0 : List (Nat) := [2, 3, 23, 32, 39, 47, 48, 49, 50, 51, 52, 54, 58, 59, 60, 61, 62, 63, 64, 65, 67, 70, 71, 76, 77, 78, 96, 97, 140, 141, 142, 143, 144, 145, 146, 149, 151, 157, 158, 159, 162, 163, 165, 166, 167, 168, 169, 170, 171, 172, 173, 174, 178, 179, 180, 181, 182, 183, 184, 187]
set_option maxRecDepth 100000 in
theorem xq_w_sel_0_0 : ∀ a ∈ xq_l_sel_0_0, xq_f_sel a ∈ xq_g := xq_mem xq_gw_sel (ps := [35, 34, 32, 1, 27, 16, 17, 18, 21, 20, 19, 28, 7, 8, 9, 10, 11, 14, 12, 13, 4, 30, 31, 22, 24, 23, 2, 3, 29, 5, 0, 15, 33, 25, 26, 36, 38, 41, 40, 46, 48, 45, 44, 47, 58, 50, 59, 39, 51, 43, 42, 49, 37, 56, 55, 52, 53, 57, 54, 71]) (T := k2_sels lw_privs) rfl xq_T0
def xq_l_sel_0_1 : List (Nat) := [188, 189, 197, 198, 204, 205, 207, 208, 209, 210, 211, 212, 215, 217, 218, 219, 229, 231, 234, 236, 240, 244, 247, 248, 250, 251, 253, 256, 257, 260, 261, 265, 266]
set_option maxRecDepth 100000 in
theorem xq_w_sel_0_1 : ∀ a ∈ xq_l_sel_0_1, xq_f_sel a ∈ xq_g := xq_mem xq_gw_sel (ps := [61, 60, 68, 67, 66, 65, 70, 73, 69, 64, 63, 62, 72, 74, 75, 76, 77, 78, 79, 80, 81, 82, 84, 83, 85, 86, 87, 89, 88, 91, 90, 93, 92]) (T := k2_sels lw_privs) rfl xq_T0
def xq_l_sel_2_0 : List (Nat) := [6, 20, 21, 28, 29, 34, 41, 66, 80, 95, 100, 105, 106, 117, 120, 122, 126, 128, 136]
set_option maxRecDepth 100000 in
theorem xq_w_sel_2_0 : ∀ a ∈ xq_l_sel_2_0, xq_f_sel a ∈ xq_g := xq_mem xq_gw_sel (ps := [149, 229, 225, 156, 170, 174, 186, 210, 137, 194, 133, 141, 145, 165, 182, 190, 206, 221, 236]) (T := tables_1_2) rfl xq_T2
def xq_l_sel_3_0 : List (Nat) := [57, 81, 82, 83, 84, 87, 88, 89, 101, 137, 138, 139, 274, 275, 276, 277]
set_option maxRecDepth 100000 in
theorem xq_w_sel_3_0 : ∀ a ∈ xq_l_sel_3_0, xq_f_sel a ∈ xq_g := xq_mem xq_gw_sel (ps := [120, 112, 127, 209, 131, 225, 139, 153, 37, 21, 25, 29, 157, 167, 161, 171]) (T := tables_1_3) rfl xq_T3
def xq_l_sel_4_0 : List (Nat) := [5, 7, 8, 9, 10, 11, 12, 13, 14, 16, 17, 18, 27, 30, 33, 35, 38, 45, 46, 53, 75, 90, 91, 93, 94, 102, 103, 104, 107]
set_option maxRecDepth 100000 in
theorem xq_w_sel_4_0 : ∀ a ∈ xq_l_sel_4_0, xq_f_sel a ∈ xq_g := xq_mem xq_gw_sel (ps := [17, 136, 149, 153, 180, 185, 189, 144, 140, 193, 234, 238, 22, 176, 172, 166, 157, 27, 44, 197, 99, 62, 8, 31, 217, 39, 95, 213, 230]) (T := tables_1_4) rfl xq_T4
def xq_l_sel_5_0 : List (Nat) := [15, 22, 24, 25, 31, 36, 40, 42, 43, 69, 72, 98, 108, 109, 110, 111, 112, 113, 114, 115, 116, 118, 119, 121, 123, 124, 125, 127, 129, 130, 131, 132]
set_option maxRecDepth 100000 in
theorem xq_w_sel_5_0 : ∀ a ∈ xq_l_sel_5_0, xq_f_sel a ∈ xq_g := xq_mem xq_gw_sel (ps := [159, 210, 226, 230, 97, 2, 116, 128, 133, 185, 198, 147, 10, 37, 46, 53, 61, 69, 77, 85, 92, 104, 112, 124, 143, 155, 167, 174, 181, 205, 222, 238]) (T := tables_1_5) rfl xq_T5
def xq_l_sel_6_0 : List (Nat) := [1, 19, 37, 133, 134, 135, 150, 156, 175]
set_option maxRecDepth 100000 in
theorem xq_w_sel_6_0 : ∀ a ∈ xq_l_sel_6_0, xq_f_sel a ∈ xq_g := xq_mem xq_gw_sel (ps := [24, 13, 40, 5, 20, 48, 213, 217, 221]) (T := tables_1_6) rfl xq_T6
def xq_l_sel_7_0 : List (Nat) := [185, 190, 191, 213, 214, 216, 221, 222, 223, 224, 225, 226]
set_option maxRecDepth 100000 in
theorem xq_w_sel_7_0 : ∀ a ∈ xq_l_sel_7_0, xq_f_sel a ∈ xq_g := xq_mem xq_gw_sel (ps := [54, 90, 94, 98, 192, 196, 211, 219, 227, 231, 235, 239]) (T := tables_1_7) rfl xq_T7
def xq_l_sel_8_0 : List (Nat) := [227, 228, 230, 232, 233, 235, 237, 238, 239, 241, 242, 243, 245, 246, 249, 252, 254, 255, 258, 259, 263, 264, 267, 268, 269, 270]
set_option maxRecDepth 100000 in
theorem xq_w_sel_8_0 : ∀ a ∈ xq_l_sel_8_0, xq_f_sel a ∈ xq_g := xq_mem xq_gw_sel (ps := [7, 11, 15, 23, 31, 35, 46, 54, 61, 65, 73, 77, 81, 89, 93, 105, 117, 125, 129, 141, 145, 161, 165, 177, 181, 185]) (T := tables_1_8) rfl xq_T8
def xq_L_sel : List (Nat) := xq_l_sel_0_0 ++ (xq_l_sel_0_1 ++ (xq_l_sel_2_0 ++ (xq_l_sel_3_0 ++ (xq_l_sel_4_0 ++ (xq_l_sel_5_0 ++ (xq_l_sel_6_0 ++ (xq_l_sel_7_0 ++ (xq_l_sel_8_0))))))))
theorem xq_W_sel : ∀ a ∈ xq_L_sel, xq_f_sel a ∈ xq_g := List.forall_mem_append.mpr ⟨xq_w_sel_0_0, List.forall_mem_append.mpr ⟨xq_w_sel_0_1, List.forall_mem_append.mpr ⟨xq_w_sel_2_0, List.forall_mem_append.mpr ⟨xq_w_sel_3_0, List.forall_mem_append.mpr ⟨xq_w_sel_4_0, List.forall_mem_append.mpr ⟨xq_w_sel_5_0, List.forall_mem_append.mpr ⟨xq_w_sel_6_0, List.forall_mem_append.mpr ⟨xq_w_sel_7_0, xq_w_sel_8_0⟩⟩⟩⟩⟩⟩⟩⟩
def xq_f_init : Nat → Cond := fun o => .initialized (xq_on o)
theorem xq_gw_init : ∀ a, goodWord (xq_f_init a) = true := fun a => by rfl
def xq_l_init_1_0 : List (Nat) := [0, 1, 2, 3, 4, 5, 6, 7, 8, 9, 10, 11, 12, 13, 14, 15, 16, 17]
set_option maxRecDepth 100000 in
theorem xq_w_init_1_0 : ∀ a ∈ xq_l_init_1_0, xq_f_init a ∈ xq_g := xq_mem xq_gw_init (ps := [7, 3, 4, 9, 8, 6, 23, 5, 2, 10, 1, 11, 0, 16, 18, 19, 20, 17]) (T := tables_1_1) rfl xq_T1
def xq_L_init : List (Nat) := xq_l_init_1_0
theorem xq_W_init : ∀ a ∈ xq_L_init, xq_f_init a ∈ xq_g := xq_w_init_1_0
def xq_f_ml : Nat × Nat × Nat → Cond := fun q => .methodLink (xq_on q.1) q.2.1 (xq_m q.2.2).1
theorem xq_gw_ml : ∀ a, goodWord (xq_f_ml a) = true := fun a => by rfl
def xq_l_ml_1_0 : List (Nat × Nat × Nat) := [(0, 11, 26), (1, 33, 26), (10, 9, 79), (10, 18, 4), (10, 28, 74), (10, 35, 68), (10, 42, 0), (10, 55, 56), (12, 103, 99)]
set_option maxRecDepth 100000 in
theorem xq_w_ml_1_0 : ∀ a ∈ xq_l_ml_1_0, xq_f_ml a ∈ xq_g := xq_mem xq_gw_ml (ps := [189, 78, 35, 72, 124, 167, 184, 210, 27]) (T := tables_1_1) rfl xq_T1
def xq_l_ml_2_0 : List (Nat × Nat × Nat) := [(1, 67, 28), (1, 133, 20), (2, 33, 32), (4, 129, 67), (9, 61, 96), (9, 70, 97), (10, 65, 44), (10, 75, 92), (10, 106, 80), (10, 146, 142), (10, 154, 73), (10, 179, 6), (10, 266, 28), (10, 269, 29), (10, 274, 34), (10, 283, 41), (10, 295, 95), (10, 309, 66), (10, 313, 21), (12, 107, 100), (12, 131, 105), (12, 135, 106), (12, 172, 117), (12, 182, 120), (12, 189, 122), (12, 202, 126), (12, 209, 128), (12, 235, 136)]
set_option maxRecDepth 100000 in
theorem xq_w_ml_2_0 : ∀ a ∈ xq_l_ml_2_0, xq_f_ml a ∈ xq_g := xq_mem xq_gw_ml (ps := [154, 227, 176, 212, 196, 200, 35, 57, 135, 159, 239, 147, 167, 168, 172, 184, 192, 208, 223, 131, 139, 143, 163, 180, 188, 204, 219, 234]) (T := tables_1_2) rfl xq_T2
def xq_l_ml_3_0 : List (Nat × Nat × Nat) := [(4, 49, 280), (4, 55, 82), (4, 61, 84), (4, 65, 58), (4, 73, 88), (4, 76, 59), (4, 83, 83), (4, 87, 60), (4, 91, 61), (4, 96, 89), (4, 106, 62), (4, 110, 64), (4, 116, 87), (4, 120, 65), (6, 9, 4), (6, 16, 6), (8, 43, 82), (8, 47, 84), (8, 51, 85), (8, 55, 83), (8, 60, 86), (8, 63, 274), (8, 67, 275), (10, 110, 141), (10, 114, 81), (10, 117, 57), (14, 335, 276), (14, 492, 277), (14, 495, 279), (14, 1059, 281), (15, 9, 278), (12, 7, 101), (12, 112, 282), (12, 239, 137), (12, 243, 138), (12, 247, 139)]
set_option maxRecDepth 100000 in
theorem xq_w_ml_3_0 : ∀ a ∈ xq_l_ml_3_0, xq_f_ml a ∈ xq_g := xq_mem xq_gw_ml (ps := [122, 125, 129, 133, 137, 146, 207, 211, 215, 151, 219, 232, 223, 236, 4, 5, 142, 141, 227, 230, 143, 155, 165, 39, 110, 118, 159, 169, 173, 181, 176, 35, 31, 19, 23, 27]) (T := tables_1_3) rfl xq_T3
def xq_l_ml_4_0 : List (Nat × Nat × Nat) := [(1, 47, 280), (1, 63, 27), (1, 71, 14), (1, 78, 38), (1, 82, 29), (1, 86, 35), (1, 92, 30), (1, 95, 12), (1, 99, 16), (1, 105, 53), (1, 116, 13), (2, 23, 29), (2, 37, 30), (2, 41, 34), (2, 44, 33), (2, 54, 39), (3, 28, 47), (3, 32, 84), (3, 41, 83), (3, 45, 48), (3, 48, 82), (3, 52, 90), (3, 56, 52), (3, 59, 49), (3, 62, 91), (3, 66, 85), (3, 69, 87), (3, 73, 88), (3, 76, 51), (3, 80, 50), (3, 89, 89), (3, 107, 54), (3, 118, 55), (4, 69, 91), (4, 113, 63), (4, 123, 86), (7, 40, 76), (7, 44, 82), (7, 50, 84), (7, 54, 88), (7, 57, 78), (7, 64, 83), (7, 68, 77), (7, 72, 91), (7, 81, 87), (7, 90, 89), (9, 22, 280), (9, 28, 93), (9, 31, 82), (9, 37, 84), (9, 41, 87), (9, 48, 83), (9, 52, 91), (10, 124, 82), (10, 131, 143), (10, 143, 46), (10, 150, 75), (10, 167, 145), (10, 170, 94), (10, 192, 17)]
set_option maxRecDepth 100000 in
theorem xq_w_ml_4_0 : ∀ a ∈ xq_l_ml_4_0, xq_f_ml a ∈ xq_g := xq_mem xq_gw_ml (ps := [19, 20, 138, 155, 163, 164, 182, 187, 191, 195, 142, 24, 174, 169, 170, 159, 46, 58, 59, 50, 89, 60, 67, 54, 64, 65, 66, 71, 72, 85, 77, 199, 203, 6, 2, 0, 101, 105, 106, 107, 108, 119, 120, 125, 124, 113, 33, 219, 220, 221, 222, 223, 224, 10, 11, 42, 97, 126, 215, 232]) (T := tables_1_4) rfl xq_T4
def xq_l_ml_4_1 : List (Nat × Nat × Nat) := [(10, 196, 18), (10, 374, 5), (10, 377, 45), (10, 380, 93), (10, 381, 11), (10, 394, 146), (10, 397, 7), (10, 406, 8), (10, 410, 9), (10, 413, 10), (12, 15, 102), (12, 18, 103), (12, 21, 104), (12, 24, 107), (12, 122, 283), (12, 125, 284), (12, 128, 285), (12, 139, 286)]
set_option maxRecDepth 100000 in
theorem xq_w_ml_4_1 : ∀ a ∈ xq_l_ml_4_1, xq_f_ml a ∈ xq_g := xq_mem xq_gw_ml (ps := [236, 15, 25, 29, 183, 130, 134, 147, 151, 178, 37, 93, 211, 228, 34, 90, 208, 225]) (T := tables_1_4) rfl xq_T4
def xq_l_ml_5_0 : List (Nat × Nat × Nat) := [(1, 137, 23), (1, 144, 24), (2, 57, 38), (2, 60, 41), (5, 27, 20), (5, 33, 70), (5, 37, 71), (10, 204, 36), (10, 209, 140), (10, 232, 13), (10, 236, 38), (10, 243, 53), (10, 247, 14), (10, 251, 12), (10, 255, 20), (10, 263, 31), (10, 277, 35), (10, 280, 40), (10, 286, 42), (10, 289, 43), (10, 292, 147), (10, 302, 98), (10, 306, 15), (10, 319, 69), (10, 324, 72), (10, 327, 16), (10, 330, 22), (10, 333, 24), (10, 336, 25), (12, 27, 108), (12, 32, 109), (12, 36, 110), (12, 40, 111), (12, 44, 112), (12, 48, 113), (12, 51, 114), (12, 54, 115), (12, 57, 116), (12, 60, 118), (12, 63, 119), (12, 66, 121), (12, 69, 123), (12, 72, 124), (12, 75, 125), (12, 78, 127), (12, 81, 129), (12, 84, 130), (12, 87, 131), (12, 90, 132), (12, 142, 287), (12, 145, 288), (12, 149, 289), (12, 153, 290), (12, 157, 291), (12, 160, 292), (12, 163, 293), (12, 166, 294), (12, 169, 295), (12, 176, 296), (12, 179, 297)]
set_option maxRecDepth 100000 in
theorem xq_w_ml_5_0 : ∀ a ∈ xq_l_ml_5_0, xq_f_ml a ∈ xq_g := xq_mem xq_gw_ml (ps := [212, 232, 118, 130, 187, 188, 192, 0, 12, 39, 40, 55, 63, 71, 79, 95, 106, 114, 126, 131, 135, 145, 157, 183, 196, 207, 208, 224, 228, 8, 35, 44, 51, 59, 67, 75, 83, 90, 102, 110, 122, 141, 153, 165, 172, 179, 203, 220, 236, 4, 32, 41, 48, 56, 64, 72, 80, 87, 99, 107]) (T := tables_1_5) rfl xq_T5
def xq_l_ml_5_1 : List (Nat × Nat × Nat) := [(12, 186, 298), (12, 193, 299), (12, 196, 300), (12, 199, 301), (12, 206, 302), (12, 213, 303), (12, 216, 304), (12, 219, 305), (12, 222, 306)]
set_option maxRecDepth 100000 in
theorem xq_w_ml_5_1 : ∀ a ∈ xq_l_ml_5_1, xq_f_ml a ∈ xq_g := xq_mem xq_gw_ml (ps := [119, 138, 150, 162, 169, 176, 200, 217, 233]) (T := tables_1_5) rfl xq_T5
def xq_l_ml_6_0 : List (Nat × Nat × Nat) := [(0, 28, 28), (0, 32, 3), (0, 36, 2), (0, 40, 35), (0, 48, 33), (10, 339, 144), (10, 342, 19), (10, 345, 1), (10, 356, 37), (11, 91, 149), (11, 94, 178), (11, 109, 157), (11, 119, 158), (11, 131, 152), (11, 173, 151), (11, 177, 170), (11, 186, 176), (12, 93, 133), (12, 96, 134), (12, 100, 135), (12, 106, 148), (12, 111, 156), (12, 117, 175), (12, 118, 150), (12, 225, 307), (12, 228, 308), (12, 232, 309)]
set_option maxRecDepth 100000 in
theorem xq_w_ml_6_0 : ∀ a ∈ xq_l_ml_6_0, xq_f_ml a ∈ xq_g := xq_mem xq_gw_ml (ps := [26, 27, 32, 37, 36, 7, 11, 22, 38, 58, 62, 238, 234, 223, 226, 230, 66, 3, 18, 46, 52, 215, 219, 211, 0, 15, 43]) (T := tables_1_6) rfl xq_T6
def xq_l_ml_7_0 : List (Nat × Nat × Nat) := [(11, 122, 160), (11, 126, 159), (11, 135, 161), (11, 138, 163), (11, 142, 164), (11, 146, 165), (11, 150, 166), (11, 159, 172), (11, 162, 162), (11, 166, 174), (11, 170, 168), (11, 180, 173), (11, 183, 171), (11, 208, 182), (11, 211, 169), (11, 214, 179), (11, 217, 184), (11, 220, 167), (11, 223, 180), (11, 227, 181), (11, 230, 183), (11, 233, 153), (11, 236, 154), (11, 239, 186), (11, 243, 188), (11, 249, 189), (11, 252, 192), (11, 256, 193), (11, 259, 196), (11, 262, 197), (11, 266, 195), (11, 269, 194), (11, 273, 201), (11, 277, 202), (11, 280, 203), (11, 283, 204), (11, 286, 187), (11, 289, 206), (11, 293, 207), (11, 296, 205), (11, 299, 210), (11, 302, 199), (11, 305, 198), (11, 308, 209), (11, 315, 212), (11, 318, 211), (11, 325, 177), (11, 329, 215), (11, 332, 208), (11, 335, 200), (11, 338, 217), (11, 341, 218), (12, 124, 185), (12, 127, 213), (12, 130, 190), (12, 134, 191), (12, 138, 214), (12, 141, 216), (12, 144, 221), (12, 148, 222)]
set_option maxRecDepth 100000 in
theorem xq_w_ml_7_0 : ∀ a ∈ xq_l_ml_7_0, xq_f_ml a ∈ xq_g := xq_mem xq_gw_ml (ps := [36, 24, 18, 14, 21, 10, 28, 6, 32, 40, 44, 2, 48, 60, 84, 72, 64, 80, 68, 56, 76, 184, 187, 181, 104, 100, 146, 166, 160, 156, 163, 149, 137, 140, 134, 130, 177, 123, 173, 126, 119, 143, 152, 169, 111, 115, 108, 198, 202, 206, 213, 221, 52, 96, 88, 92, 190, 194, 209, 217]) (T := tables_1_7) rfl xq_T7
def xq_l_ml_7_1 : List (Nat × Nat × Nat) := [(12, 152, 223), (12, 156, 224), (12, 221, 225), (12, 224, 226)]
set_option maxRecDepth 100000 in
theorem xq_w_ml_7_1 : ∀ a ∈ xq_l_ml_7_1, xq_f_ml a ∈ xq_g := xq_mem xq_gw_ml (ps := [225, 229, 233, 237]) (T := tables_1_7) rfl xq_T7
def xq_l_ml_8_0 : List (Nat × Nat × Nat) := [(11, 344, 219), (11, 347, 229), (11, 350, 231), (11, 353, 155), (11, 357, 234), (11, 361, 236), (11, 364, 220), (11, 367, 240), (11, 370, 244), (11, 373, 247), (11, 376, 248), (11, 379, 250), (11, 382, 251), (11, 385, 253), (11, 388, 256), (11, 391, 257), (11, 404, 260), (11, 407, 262), (11, 410, 261), (11, 417, 265), (11, 421, 266), (12, 159, 227), (12, 162, 228), (12, 165, 230), (12, 168, 238), (12, 171, 239), (12, 175, 241), (12, 178, 242), (12, 181, 243), (12, 185, 245), (12, 188, 246), (12, 192, 249), (12, 195, 252), (12, 198, 254), (12, 201, 255), (12, 205, 258), (12, 208, 232), (12, 212, 233), (12, 215, 235), (12, 218, 237), (12, 227, 259), (12, 231, 263), (12, 234, 264), (12, 238, 267), (12, 242, 268), (12, 246, 269), (12, 250, 270)]
set_option maxRecDepth 100000 in
theorem xq_w_ml_8_0 : ∀ a ∈ xq_l_ml_8_0, xq_f_ml a ∈ xq_g := xq_mem xq_gw_ml (ps := [1, 17, 25, 41, 37, 48, 56, 67, 83, 99, 95, 107, 111, 119, 135, 131, 154, 147, 150, 171, 167, 5, 9, 13, 52, 59, 63, 71, 75, 79, 87, 91, 103, 115, 123, 127, 21, 29, 33, 44, 139, 143, 159, 163, 175, 179, 183]) (T := tables_1_8) rfl xq_T8
def xq_L_ml : List (Nat × Nat × Nat) := xq_l_ml_1_0 ++ (xq_l_ml_2_0 ++ (xq_l_ml_3_0 ++ (xq_l_ml_4_0 ++ (xq_l_ml_4_1 ++ (xq_l_ml_5_0 ++ (xq_l_ml_5_1 ++ (xq_l_ml_6_0 ++ (xq_l_ml_7_0 ++ (xq_l_ml_7_1 ++ (xq_l_ml_8_0))))))))))
theorem xq_W_ml : ∀ a ∈ xq_L_ml, xq_f_ml a ∈ xq_g := List.forall_mem_append.mpr ⟨xq_w_ml_1_0, List.forall_mem_append.mpr ⟨xq_w_ml_2_0, List.forall_mem_append.mpr ⟨xq_w_ml_3_0, List.forall_mem_append.mpr ⟨xq_w_ml_4_0, List.forall_mem_append.mpr ⟨xq_w_ml_4_1, List.forall_mem_append.mpr ⟨xq_w_ml_5_0, List.forall_mem_append.mpr ⟨xq_w_ml_5_1, List.forall_mem_append.mpr ⟨xq_w_ml_6_0, List.forall_mem_append.mpr ⟨xq_w_ml_7_0, List.forall_mem_append.mpr ⟨xq_w_ml_7_1, xq_w_ml_8_0⟩⟩⟩⟩⟩⟩⟩⟩⟩⟩
def xq_f_ol : Nat × Nat → Cond := fun q => .methodLink (xq_on q.1) q.2 objectInit
theorem xq_gw_ol : ∀ a, goodWord (xq_f_ol a) = true := fun a => by rfl
def xq_l_ol_1_0 : List (Nat × Nat) := [(0, 3), (1, 3), (2, 3), (4, 3), (5, 3), (7, 3), (8, 3), (10, 1)]
set_option maxRecDepth 100000 in
theorem xq_w_ol_1_0 : ∀ a ∈ xq_l_ol_1_0, xq_f_ol a ∈ xq_g := xq_mem xq_gw_ol (ps := [187, 75, 81, 213, 170, 127, 38, 30]) (T := tables_1_1) rfl xq_T1
def xq_l_ol_2_0 : List (Nat × Nat) := [(3, 3), (9, 3)]
set_option maxRecDepth 100000 in
theorem xq_w_ol_2_0 : ∀ a ∈ xq_l_ol_2_0, xq_f_ol a ∈ xq_g := xq_mem xq_gw_ol (ps := [38, 60]) (T := tables_1_2) rfl xq_T2
def xq_l_ol_3_0 : List (Nat × Nat) := [(6, 1)]
set_option maxRecDepth 100000 in
theorem xq_w_ol_3_0 : ∀ a ∈ xq_l_ol_3_0, xq_f_ol a ∈ xq_g := xq_mem xq_gw_ol (ps := [2]) (T := tables_1_3) rfl xq_T3
def xq_l_ol_6_0 : List (Nat × Nat) := [(11, 1)]
set_option maxRecDepth 100000 in
theorem xq_w_ol_6_0 : ∀ a ∈ xq_l_ol_6_0, xq_f_ol a ∈ xq_g := xq_mem xq_gw_ol (ps := [55]) (T := tables_1_6) rfl xq_T6
def xq_L_ol : List (Nat × Nat) := xq_l_ol_1_0 ++ (xq_l_ol_2_0 ++ (xq_l_ol_3_0 ++ (xq_l_ol_6_0)))
theorem xq_W_ol : ∀ a ∈ xq_L_ol, xq_f_ol a ∈ xq_g := List.forall_mem_append.mpr ⟨xq_w_ol_1_0, List.forall_mem_append.mpr ⟨xq_w_ol_2_0, List.forall_mem_append.mpr ⟨xq_w_ol_3_0, xq_w_ol_6_0⟩⟩⟩
def xq_f_al : Nat × Nat → Cond := fun q => .methodLink (xq_on q.1) q.2 arraycopyName
theorem xq_gw_al : ∀ a, goodWord (xq_f_al a) = true := fun a => by rfl
def xq_l_al_2_0 : List (Nat × Nat) := [(1, 41), (2, 27)]
set_option maxRecDepth 100000 in
theorem xq_w_al_2_0 : ∀ a ∈ xq_l_al_2_0, xq_f_al a ∈ xq_g := xq_mem xq_gw_al (ps := [151, 158]) (T := tables_1_2) rfl xq_T2
def xq_L_al : List (Nat × Nat) := xq_l_al_2_0
theorem xq_W_al : ∀ a ∈ xq_L_al, xq_f_al a ∈ xq_g := xq_w_al_2_0
def xq_f_mx : Nat × Nat → Cond := fun q => .methodLink (xq_on q.1) q.2 Lib.Math.max.name
theorem xq_gw_mx : ∀ a, goodWord (xq_f_mx a) = true := fun a => by rfl
def xq_l_mx_2_0 : List (Nat × Nat) := [(10, 316)]
set_option maxRecDepth 100000 in
theorem xq_w_mx_2_0 : ∀ a ∈ xq_l_mx_2_0, xq_f_mx a ∈ xq_g := xq_mem xq_gw_mx (ps := [231]) (T := tables_1_2) rfl xq_T2
def xq_l_mx_3_0 : List (Nat × Nat) := [(8, 40)]
set_option maxRecDepth 100000 in
theorem xq_w_mx_3_0 : ∀ a ∈ xq_l_mx_3_0, xq_f_mx a ∈ xq_g := xq_mem xq_gw_mx (ps := [117]) (T := tables_1_3) rfl xq_T3
def xq_l_mx_4_0 : List (Nat × Nat) := [(3, 115)]
set_option maxRecDepth 100000 in
theorem xq_w_mx_4_0 : ∀ a ∈ xq_l_mx_4_0, xq_f_mx a ∈ xq_g := xq_mem xq_gw_mx (ps := [207]) (T := tables_1_4) rfl xq_T4
def xq_l_mx_5_0 : List (Nat × Nat) := [(1, 123), (9, 80)]
set_option maxRecDepth 100000 in
theorem xq_w_mx_5_0 : ∀ a ∈ xq_l_mx_5_0, xq_f_mx a ∈ xq_g := xq_mem xq_gw_mx (ps := [161, 149]) (T := tables_1_5) rfl xq_T5
def xq_l_mx_6_0 : List (Nat × Nat) := [(2, 48)]
set_option maxRecDepth 100000 in
theorem xq_w_mx_6_0 : ∀ a ∈ xq_l_mx_6_0, xq_f_mx a ∈ xq_g := xq_mem xq_gw_mx (ps := [42]) (T := tables_1_6) rfl xq_T6
def xq_L_mx : List (Nat × Nat) := xq_l_mx_2_0 ++ (xq_l_mx_3_0 ++ (xq_l_mx_4_0 ++ (xq_l_mx_5_0 ++ (xq_l_mx_6_0))))
theorem xq_W_mx : ∀ a ∈ xq_L_mx, xq_f_mx a ∈ xq_g := List.forall_mem_append.mpr ⟨xq_w_mx_2_0, List.forall_mem_append.mpr ⟨xq_w_mx_3_0, List.forall_mem_append.mpr ⟨xq_w_mx_4_0, List.forall_mem_append.mpr ⟨xq_w_mx_5_0, xq_w_mx_6_0⟩⟩⟩⟩
def xq_f_mn : Nat × Nat → Cond := fun q => .methodLink (xq_on q.1) q.2 Lib.Math.min.name
theorem xq_gw_mn : ∀ a, goodWord (xq_f_mn a) = true := fun a => by rfl
def xq_l_mn_3_0 : List (Nat × Nat) := [(8, 34)]
set_option maxRecDepth 100000 in
theorem xq_w_mn_3_0 : ∀ a ∈ xq_l_mn_3_0, xq_f_mn a ∈ xq_g := xq_mem xq_gw_mn (ps := [114]) (T := tables_1_3) rfl xq_T3
def xq_l_mn_4_0 : List (Nat × Nat) := [(3, 110), (10, 137)]
set_option maxRecDepth 100000 in
theorem xq_w_mn_4_0 : ∀ a ∈ xq_l_mn_4_0, xq_f_mn a ∈ xq_g := xq_mem xq_gw_mn (ps := [206, 41]) (T := tables_1_4) rfl xq_T4
def xq_l_mn_5_0 : List (Nat × Nat) := [(1, 141)]
set_option maxRecDepth 100000 in
theorem xq_w_mn_5_0 : ∀ a ∈ xq_l_mn_5_0, xq_f_mn a ∈ xq_g := xq_mem xq_gw_mn (ps := [216]) (T := tables_1_5) rfl xq_T5
def xq_L_mn : List (Nat × Nat) := xq_l_mn_3_0 ++ (xq_l_mn_4_0 ++ (xq_l_mn_5_0))
theorem xq_W_mn : ∀ a ∈ xq_L_mn, xq_f_mn a ∈ xq_g := List.forall_mem_append.mpr ⟨xq_w_mn_3_0, List.forall_mem_append.mpr ⟨xq_w_mn_4_0, xq_w_mn_5_0⟩⟩
def xq_f_mb : Nat × Nat → Cond := fun q => .methodLink (xq_on q.1) q.2 Lib.Math.abs.name
theorem xq_gw_mb : ∀ a, goodWord (xq_f_mb a) = true := fun a => by rfl
def xq_l_mb_2_0 : List (Nat × Nat) := [(4, 133)]
set_option maxRecDepth 100000 in
theorem xq_w_mb_2_0 : ∀ a ∈ xq_l_mb_2_0, xq_f_mb a ∈ xq_g := xq_mem xq_gw_mb (ps := [216]) (T := tables_1_2) rfl xq_T2
def xq_l_mb_4_0 : List (Nat × Nat) := [(1, 111)]
set_option maxRecDepth 100000 in
theorem xq_w_mb_4_0 : ∀ a ∈ xq_l_mb_4_0, xq_f_mb a ∈ xq_g := xq_mem xq_gw_mb (ps := [146]) (T := tables_1_4) rfl xq_T4
def xq_L_mb : List (Nat × Nat) := xq_l_mb_2_0 ++ (xq_l_mb_4_0)
theorem xq_W_mb : ∀ a ∈ xq_L_mb, xq_f_mb a ∈ xq_g := List.forall_mem_append.mpr ⟨xq_w_mb_2_0, xq_w_mb_4_0⟩
def xq_f_fl : Nat × Nat × Nat × Nat → Cond := fun q => .fieldLink (xq_on q.1) q.2.1 (xq_C q.2.2.1).1 ((xq_C q.2.2.1).2.1 q.2.2.2).2.1 ((xq_C q.2.2.1).2.1 q.2.2.2).2.2.1
theorem xq_gw_fl : ∀ a, goodWord (xq_f_fl a) = true := fun a => by rfl
def xq_l_fl_1_0 : List (Nat × Nat × Nat × Nat) := [(0, 12, 0, 0), (0, 18, 0, 1), (0, 22, 0, 2), (0, 25, 0, 3), (0, 44, 2, 0), (1, 9, 1, 0), (1, 15, 1, 1), (1, 19, 1, 2), (1, 22, 1, 3), (1, 25, 1, 4), (1, 28, 1, 5), (1, 34, 1, 6), (1, 38, 4, 4), (1, 53, 4, 1), (1, 56, 4, 5), (1, 59, 4, 6), (1, 75, 4, 7), (1, 89, 2, 0), (1, 120, 4, 2), (1, 127, 4, 8), (1, 130, 4, 0), (2, 9, 2, 0), (2, 15, 2, 1), (3, 38, 8, 3), (3, 84, 8, 4), (4, 9, 4, 0), (4, 15, 4, 1), (4, 18, 4, 2), (4, 21, 4, 3), (4, 24, 4, 4), (4, 28, 4, 5), (4, 31, 4, 6), (4, 34, 4, 7), (4, 37, 4, 8), (4, 80, 8, 4), (5, 9, 5, 0), (5, 15, 5, 1), (5, 18, 5, 2), (5, 22, 4, 0), (7, 9, 7, 0), (7, 15, 7, 1), (7, 18, 7, 2), (7, 21, 7, 3), (7, 24, 7, 4), (7, 27, 7, 5), (7, 31, 7, 6), (7, 34, 7, 7), (7, 37, 7, 8), (7, 61, 8, 4), (7, 76, 4, 1), (7, 85, 4, 0), (8, 9, 8, 0), (8, 15, 8, 1), (8, 19, 8, 2), (8, 22, 8, 3), (8, 25, 8, 4), (8, 28, 8, 5), (8, 31, 8, 6), (9, 45, 8, 4), (9, 56, 4, 1)]
set_option maxRecDepth 100000 in
theorem xq_w_fl_1_0 : ∀ a ∈ xq_l_fl_1_0, xq_f_fl a ∈ xq_g := xq_mem xq_gw_fl (ps := [190, 192, 193, 195, 83, 92, 94, 96, 99, 101, 102, 105, 229, 220, 231, 233, 235, 84, 225, 239, 218, 82, 86, 44, 49, 214, 219, 224, 226, 228, 230, 232, 234, 237, 46, 171, 172, 173, 215, 128, 130, 132, 134, 136, 138, 140, 142, 144, 48, 223, 216, 39, 40, 42, 43, 45, 50, 52, 47, 222]) (T := tables_1_1) rfl xq_T1
def xq_l_fl_1_1 : List (Nat × Nat × Nat × Nat) := [(9, 65, 1, 2), (9, 77, 1, 5), (10, 103, 8, 1), (10, 121, 8, 6), (10, 128, 8, 5), (10, 134, 4, 1), (10, 157, 7, 6), (10, 160, 7, 7), (10, 163, 7, 8), (10, 166, 7, 5), (10, 186, 4, 0), (10, 189, 1, 0), (10, 200, 1, 6), (10, 213, 1, 1), (10, 217, 4, 7), (10, 220, 4, 8), (10, 226, 1, 2), (10, 229, 1, 3), (10, 240, 1, 5), (10, 259, 2, 0), (10, 271, 4, 3), (10, 323, 5, 2), (10, 349, 0, 2), (10, 352, 0, 3), (10, 355, 0, 0), (10, 385, 7, 0), (10, 388, 7, 1), (10, 391, 7, 4), (10, 400, 7, 2), (10, 403, 7, 3)]
set_option maxRecDepth 100000 in
theorem xq_w_fl_1_1 : ∀ a ∈ xq_l_fl_1_1, xq_f_fl a ∈ xq_g := xq_mem xq_gw_fl (ps := [97, 103, 41, 53, 51, 221, 141, 143, 145, 139, 217, 93, 106, 95, 236, 238, 98, 100, 104, 85, 227, 174, 194, 196, 191, 129, 131, 137, 133, 135]) (T := tables_1_1) rfl xq_T1
def xq_l_fl_2_0 : List (Nat × Nat × Nat × Nat) := [(1, 62, 4, 10), (1, 102, 4, 9), (2, 18, 4, 11), (3, 9, 3, 0), (3, 15, 3, 1), (3, 18, 3, 2), (3, 21, 3, 3), (3, 24, 3, 4), (4, 40, 4, 9), (4, 43, 4, 10), (4, 46, 4, 11), (9, 9, 9, 0), (9, 15, 9, 1), (9, 18, 9, 2), (9, 74, 4, 9), (10, 10, 10, 0), (10, 19, 10, 1), (10, 23, 10, 2), (10, 29, 10, 3), (10, 36, 10, 4), (10, 43, 10, 5), (10, 49, 10, 6), (10, 56, 10, 7), (10, 60, 10, 8), (10, 66, 10, 9), (10, 70, 10, 10), (10, 76, 10, 11), (10, 80, 10, 12), (10, 83, 10, 13), (10, 87, 10, 14), (10, 91, 10, 15), (10, 94, 10, 16), (10, 97, 10, 17), (10, 100, 10, 18), (10, 173, 9, 2), (10, 223, 4, 9), (10, 299, 9, 0)]
set_option maxRecDepth 100000 in
theorem xq_w_fl_2_0 : ∀ a ∈ xq_l_fl_2_0, xq_f_fl a ∈ xq_g := xq_mem xq_gw_fl (ps := [5, 2, 7, 39, 40, 41, 42, 43, 0, 4, 6, 61, 63, 64, 1, 73, 74, 75, 76, 77, 78, 79, 80, 81, 82, 83, 84, 85, 86, 87, 88, 89, 90, 91, 65, 3, 62]) (T := tables_1_2) rfl xq_T2
def xq_l_fl_3_0 : List (Nat × Nat × Nat × Nat) := [(6, 10, 6, 0), (6, 20, 6, 1), (6, 24, 6, 2), (10, 176, 6, 0), (10, 183, 6, 1), (10, 371, 6, 2)]
set_option maxRecDepth 100000 in
theorem xq_w_fl_3_0 : ∀ a ∈ xq_l_fl_3_0, xq_f_fl a ∈ xq_g := xq_mem xq_gw_fl (ps := [6, 8, 10, 7, 9, 11]) (T := tables_1_3) rfl xq_T3
def xq_l_fl_6_0 : List (Nat × Nat × Nat × Nat) := [(11, 9, 11, 3), (11, 13, 11, 9), (11, 17, 11, 10), (11, 20, 11, 11), (11, 23, 11, 12), (11, 26, 11, 13), (11, 29, 11, 14), (11, 32, 11, 15), (11, 35, 11, 16), (11, 40, 11, 17), (11, 43, 11, 18), (11, 46, 11, 19), (11, 49, 11, 20), (11, 52, 11, 23), (11, 55, 11, 24), (11, 58, 11, 25), (11, 61, 11, 26), (11, 64, 11, 27), (11, 67, 11, 28), (11, 70, 11, 29), (11, 73, 11, 31), (11, 76, 11, 32), (11, 79, 11, 33), (11, 82, 11, 34), (11, 85, 11, 42), (11, 88, 11, 43), (11, 97, 11, 0), (11, 100, 11, 1), (11, 103, 11, 2), (11, 106, 11, 4), (11, 113, 11, 5), (11, 116, 11, 6), (11, 153, 11, 7), (11, 156, 11, 8), (11, 190, 11, 21), (11, 193, 11, 35), (11, 196, 11, 36), (11, 199, 11, 37), (11, 202, 11, 38), (11, 205, 11, 22), (11, 246, 11, 30), (11, 312, 11, 40), (11, 322, 11, 41), (11, 394, 11, 44), (11, 398, 11, 45), (11, 401, 11, 46), (11, 414, 11, 39)]
set_option maxRecDepth 100000 in
theorem xq_w_fl_6_0 : ∀ a ∈ xq_l_fl_6_0, xq_f_fl a ∈ xq_g := xq_mem xq_gw_fl (ps := [72, 78, 79, 80, 81, 82, 83, 84, 85, 86, 87, 88, 89, 92, 93, 94, 95, 96, 97, 98, 100, 101, 102, 103, 111, 112, 69, 70, 71, 73, 74, 75, 76, 77, 90, 104, 105, 106, 107, 91, 99, 109, 110, 113, 114, 115, 108]) (T := tables_1_6) rfl xq_T6
def xq_L_fl : List (Nat × Nat × Nat × Nat) := xq_l_fl_1_0 ++ (xq_l_fl_1_1 ++ (xq_l_fl_2_0 ++ (xq_l_fl_3_0 ++ (xq_l_fl_6_0))))
theorem xq_W_fl : ∀ a ∈ xq_L_fl, xq_f_fl a ∈ xq_g := List.forall_mem_append.mpr ⟨xq_w_fl_1_0, List.forall_mem_append.mpr ⟨xq_w_fl_1_1, List.forall_mem_append.mpr ⟨xq_w_fl_2_0, List.forall_mem_append.mpr ⟨xq_w_fl_3_0, xq_w_fl_6_0⟩⟩⟩⟩
def xq_f_ck : Nat × Nat × Nat → Cond := fun q => .classLink (xq_on q.1) q.2.1 (xq_C q.2.2).1
theorem xq_gw_ck : ∀ a, goodWord (xq_f_ck a) = true := fun a => by rfl
def xq_l_ck_1_0 : List (Nat × Nat × Nat) := [(0, 9, 2), (1, 31, 2), (10, 7, 8), (10, 16, 1), (10, 26, 7), (10, 33, 5), (10, 40, 0), (10, 53, 4), (10, 47, 6), (12, 8, 10)]
set_option maxRecDepth 100000 in
theorem xq_w_ck_1_0 : ∀ a ∈ xq_l_ck_1_0, xq_f_ck a ∈ xq_g := xq_mem xq_gw_ck (ps := [188, 76, 33, 70, 122, 165, 182, 208, 206, 25]) (T := tables_1_1) rfl xq_T1
def xq_l_ck_2_0 : List (Nat × Nat × Nat) := [(10, 63, 3), (10, 73, 9)]
set_option maxRecDepth 100000 in
theorem xq_w_ck_2_0 : ∀ a ∈ xq_l_ck_2_0, xq_f_ck a ∈ xq_g := xq_mem xq_gw_ck (ps := [33, 55]) (T := tables_1_2) rfl xq_T2
def xq_l_ck_3_0 : List (Nat × Nat × Nat) := [(6, 7, 1)]
set_option maxRecDepth 100000 in
theorem xq_w_ck_3_0 : ∀ a ∈ xq_l_ck_3_0, xq_f_ck a ∈ xq_g := xq_mem xq_gw_ck (ps := [3]) (T := tables_1_3) rfl xq_T3
def xq_l_ck_6_0 : List (Nat × Nat × Nat) := [(12, 104, 11)]
set_option maxRecDepth 100000 in
theorem xq_w_ck_6_0 : ∀ a ∈ xq_l_ck_6_0, xq_f_ck a ∈ xq_g := xq_mem xq_gw_ck (ps := [50]) (T := tables_1_6) rfl xq_T6
def xq_L_ck : List (Nat × Nat × Nat) := xq_l_ck_1_0 ++ (xq_l_ck_2_0 ++ (xq_l_ck_3_0 ++ (xq_l_ck_6_0)))
theorem xq_W_ck : ∀ a ∈ xq_L_ck, xq_f_ck a ∈ xq_g := List.forall_mem_append.mpr ⟨xq_w_ck_1_0, List.forall_mem_append.mpr ⟨xq_w_ck_2_0, List.forall_mem_append.mpr ⟨xq_w_ck_3_0, xq_w_ck_6_0⟩⟩⟩
def xq_f_kl : Nat × Nat × Int32 → Cond := fun q => .constant (xq_on q.1) q.2.1 q.2.2
theorem xq_gw_kl : ∀ a, goodWord (xq_f_kl a) = true := fun a => by rfl
def xq_l_kl_3_0 : List (Nat × Nat × Int32) := [(8, 59, 100000)]
set_option maxRecDepth 100000 in
theorem xq_w_kl_3_0 : ∀ a ∈ xq_l_kl_3_0, xq_f_kl a ∈ xq_g := xq_mem xq_gw_kl (ps := [231]) (T := tables_1_3) rfl xq_T3
def xq_l_kl_4_0 : List (Nat × Nat × Int32) := [(2, 40, 1000000)]
set_option maxRecDepth 100000 in
theorem xq_w_kl_4_0 : ∀ a ∈ xq_l_kl_4_0, xq_f_kl a ∈ xq_g := xq_mem xq_gw_kl (ps := [168]) (T := tables_1_4) rfl xq_T4
def xq_l_kl_5_0 : List (Nat × Nat × Int32) := [(10, 262, 2147483647)]
set_option maxRecDepth 100000 in
theorem xq_w_kl_5_0 : ∀ a ∈ xq_l_kl_5_0, xq_f_kl a ∈ xq_g := xq_mem xq_gw_kl (ps := [94]) (T := tables_1_5) rfl xq_T5
def xq_l_kl_6_0 : List (Nat × Nat × Int32) := [(0, 51, 1103515245)]
set_option maxRecDepth 100000 in
theorem xq_w_kl_6_0 : ∀ a ∈ xq_l_kl_6_0, xq_f_kl a ∈ xq_g := xq_mem xq_gw_kl (ps := [31]) (T := tables_1_6) rfl xq_T6
def xq_l_kl_7_0 : List (Nat × Nat × Int32) := [(11, 130, 100000)]
set_option maxRecDepth 100000 in
theorem xq_w_kl_7_0 : ∀ a ∈ xq_l_kl_7_0, xq_f_kl a ∈ xq_g := xq_mem xq_gw_kl (ps := [39]) (T := tables_1_7) rfl xq_T7
def xq_l_kl_8_0 : List (Nat × Nat × Int32) := [(11, 397, 1103515245)]
set_option maxRecDepth 100000 in
theorem xq_w_kl_8_0 : ∀ a ∈ xq_l_kl_8_0, xq_f_kl a ∈ xq_g := xq_mem xq_gw_kl (ps := [158]) (T := tables_1_8) rfl xq_T8
def xq_L_kl : List (Nat × Nat × Int32) := xq_l_kl_3_0 ++ (xq_l_kl_4_0 ++ (xq_l_kl_5_0 ++ (xq_l_kl_6_0 ++ (xq_l_kl_7_0 ++ (xq_l_kl_8_0)))))
theorem xq_W_kl : ∀ a ∈ xq_L_kl, xq_f_kl a ∈ xq_g := List.forall_mem_append.mpr ⟨xq_w_kl_3_0, List.forall_mem_append.mpr ⟨xq_w_kl_4_0, List.forall_mem_append.mpr ⟨xq_w_kl_5_0, List.forall_mem_append.mpr ⟨xq_w_kl_6_0, List.forall_mem_append.mpr ⟨xq_w_kl_7_0, xq_w_kl_8_0⟩⟩⟩⟩⟩
def xq_f_lay : Nat × Nat → Cond := fun q => u_lay (xq_C q.1).1 (xq_C q.1).2.1 q.2
theorem xq_gw_lay : ∀ a, goodWord (xq_f_lay a) = true := fun a => by unfold xq_f_lay u_lay; split <;> rfl
def xq_l_lay_1_0 : List (Nat × Nat) := [(0, 0), (0, 1), (0, 2), (0, 3), (1, 0), (1, 1), (1, 2), (1, 3), (1, 4), (1, 5), (1, 6), (2, 0), (2, 1), (5, 0), (5, 1), (5, 2), (7, 0), (7, 1), (7, 2), (7, 3), (7, 4), (7, 5), (7, 6), (7, 7), (7, 8), (8, 0), (8, 1), (8, 2), (8, 3), (8, 4), (8, 5), (8, 6)]
set_option maxRecDepth 100000 in
theorem xq_w_lay_1_0 : ∀ a ∈ xq_l_lay_1_0, xq_f_lay a ∈ xq_g := xq_mem xq_gw_lay (ps := [197, 199, 201, 203, 107, 109, 111, 113, 115, 117, 119, 87, 89, 175, 177, 179, 146, 148, 150, 152, 154, 156, 158, 160, 162, 54, 56, 58, 60, 62, 64, 66]) (T := tables_1_1) rfl xq_T1
def xq_l_lay_2_0 : List (Nat × Nat) := [(3, 0), (3, 1), (3, 2), (3, 3), (3, 4), (4, 0), (4, 1), (4, 2), (4, 3), (4, 4), (4, 5), (4, 6), (4, 7), (4, 8), (4, 9), (4, 10), (4, 11), (9, 0), (9, 1), (9, 2), (10, 0), (10, 1), (10, 2), (10, 3), (10, 4), (10, 5), (10, 6), (10, 7), (10, 8), (10, 9), (10, 10), (10, 11), (10, 12), (10, 13), (10, 14), (10, 15), (10, 16), (10, 17), (10, 18)]
set_option maxRecDepth 100000 in
theorem xq_w_lay_2_0 : ∀ a ∈ xq_l_lay_2_0, xq_f_lay a ∈ xq_g := xq_mem xq_gw_lay (ps := [44, 46, 48, 50, 52, 8, 10, 12, 14, 16, 18, 20, 22, 24, 26, 28, 30, 66, 68, 70, 92, 94, 96, 98, 100, 102, 104, 106, 108, 110, 112, 114, 116, 118, 120, 122, 124, 126, 128]) (T := tables_1_2) rfl xq_T2
def xq_l_lay_3_0 : List (Nat × Nat) := [(6, 0), (6, 1), (6, 2)]
set_option maxRecDepth 100000 in
theorem xq_w_lay_3_0 : ∀ a ∈ xq_l_lay_3_0, xq_f_lay a ∈ xq_g := xq_mem xq_gw_lay (ps := [12, 14, 16]) (T := tables_1_3) rfl xq_T3
def xq_l_lay_6_0 : List (Nat × Nat) := [(11, 0), (11, 1), (11, 2), (11, 3), (11, 4), (11, 5), (11, 6), (11, 7), (11, 8), (11, 9), (11, 10), (11, 11), (11, 12), (11, 13), (11, 14), (11, 15), (11, 16), (11, 17), (11, 18), (11, 19), (11, 20), (11, 21), (11, 22), (11, 23), (11, 24), (11, 25), (11, 26), (11, 27), (11, 28), (11, 29), (11, 30), (11, 31), (11, 32), (11, 33), (11, 34), (11, 35), (11, 36), (11, 37), (11, 38), (11, 39), (11, 40), (11, 41), (11, 42), (11, 43), (11, 44), (11, 45), (11, 46)]
set_option maxRecDepth 100000 in
theorem xq_w_lay_6_0 : ∀ a ∈ xq_l_lay_6_0, xq_f_lay a ∈ xq_g := xq_mem xq_gw_lay (ps := [116, 118, 120, 122, 124, 126, 128, 130, 132, 134, 136, 138, 140, 142, 144, 146, 148, 150, 152, 154, 156, 158, 160, 162, 164, 166, 168, 170, 172, 174, 176, 178, 180, 182, 184, 186, 188, 190, 192, 194, 196, 198, 200, 202, 204, 206, 208]) (T := tables_1_6) rfl xq_T6
def xq_L_lay : List (Nat × Nat) := xq_l_lay_1_0 ++ (xq_l_lay_2_0 ++ (xq_l_lay_3_0 ++ (xq_l_lay_6_0)))
theorem xq_W_lay : ∀ a ∈ xq_L_lay, xq_f_lay a ∈ xq_g := List.forall_mem_append.mpr ⟨xq_w_lay_1_0, List.forall_mem_append.mpr ⟨xq_w_lay_2_0, List.forall_mem_append.mpr ⟨xq_w_lay_3_0, xq_w_lay_6_0⟩⟩⟩
def xq_f_insta : Nat → Cond := fun ci => .instantiable (xq_C ci).1 (xq_C ci).2.2
theorem xq_gw_insta : ∀ a, goodWord (xq_f_insta a) = true := fun a => by rfl
def xq_l_insta_1_0 : List (Nat) := [0, 1, 2, 4, 5, 7, 8, 10]
set_option maxRecDepth 100000 in
theorem xq_w_insta_1_0 : ∀ a ∈ xq_l_insta_1_0, xq_f_insta a ∈ xq_g := xq_mem xq_gw_insta (ps := [183, 71, 77, 209, 166, 123, 34, 26]) (T := tables_1_1) rfl xq_T1
def xq_l_insta_2_0 : List (Nat) := [3, 6, 9]
set_option maxRecDepth 100000 in
theorem xq_w_insta_2_0 : ∀ a ∈ xq_l_insta_2_0, xq_f_insta a ∈ xq_g := xq_mem xq_gw_insta (ps := [34, 238, 56]) (T := tables_1_2) rfl xq_T2
def xq_l_insta_6_0 : List (Nat) := [11]
set_option maxRecDepth 100000 in
theorem xq_w_insta_6_0 : ∀ a ∈ xq_l_insta_6_0, xq_f_insta a ∈ xq_g := xq_mem xq_gw_insta (ps := [51]) (T := tables_1_6) rfl xq_T6
def xq_L_insta : List (Nat) := xq_l_insta_1_0 ++ (xq_l_insta_2_0 ++ (xq_l_insta_6_0))
theorem xq_W_insta : ∀ a ∈ xq_L_insta, xq_f_insta a ∈ xq_g := List.forall_mem_append.mpr ⟨xq_w_insta_1_0, List.forall_mem_append.mpr ⟨xq_w_insta_2_0, xq_w_insta_6_0⟩⟩
set_option maxRecDepth 100000 in
theorem xq_o_sv : Cond.fieldLink RJ0 9 "java/lang/String" "value" "[B" ∈ xq_g := List.mem_filter.mpr ⟨xq_T8 _ (List.mem_of_getElem? (i := 205) rfl), rfl⟩
set_option maxRecDepth 100000 in
theorem xq_o_sc : Cond.fieldLink RJ0 15 "java/lang/String" "coder" "B" ∈ xq_g := List.mem_filter.mpr ⟨xq_T8 _ (List.mem_of_getElem? (i := 206) rfl), rfl⟩
set_option maxRecDepth 100000 in
theorem xq_o_cs : Cond.fieldLink RJ0 38 "java/lang/String" "COMPACT_STRINGS" "Z" ∈ xq_g := List.mem_filter.mpr ⟨xq_T3 _ (List.mem_of_getElem? (i := 163) rfl), rfl⟩
set_option maxRecDepth 100000 in
theorem xq_o_sf : Cond.fieldLink RJ0 1053 "jdk/internal/util/Preconditions" "SIOOBE_FORMATTER" "Ljava/util/function/BiFunction;" ∈ xq_g := List.mem_filter.mpr ⟨xq_T3 _ (List.mem_of_getElem? (i := 179) rfl), rfl⟩
set_option maxRecDepth 100000 in
theorem xq_o_saved : Cond.classLink RX10 47 RX6 ∈ xq_g := List.mem_filter.mpr ⟨xq_T1 _ (List.mem_of_getElem? (i := 206) rfl), rfl⟩
set_option maxRecDepth 100000 in
theorem xq_o_grid : Cond.classLink RX11 38 ("[" ++ (FieldType.array .int).toString) ∈ xq_g := List.mem_filter.mpr ⟨xq_T6 _ (List.mem_of_getElem? (i := 56) rfl), rfl⟩
set_option maxRecDepth 100000 in
theorem xq_o_oS : Cond.arrayOver (.object RX6) ∈ lw_tbl := xq_T1 _ (List.mem_of_getElem? (i := 207) rfl)
set_option maxRecDepth 100000 in
theorem xq_o_oI : Cond.arrayOver (.array .int) ∈ lw_tbl := xq_T6 _ (List.mem_of_getElem? (i := 57) rfl)
set_option maxRecDepth 100000 in
theorem xq_o_aI : Cond.arrayClass .int ∈ xq_g := List.mem_filter.mpr ⟨xq_T1 _ (List.mem_of_getElem? (i := 69) rfl), rfl⟩
set_option maxRecDepth 100000 in
theorem xq_o_aL : Cond.arrayClass .long ∈ xq_g := List.mem_filter.mpr ⟨xq_T8 _ (List.mem_of_getElem? (i := 187) rfl), rfl⟩
set_option maxRecDepth 100000 in
theorem xq_o_cpN : Cond.native arraycopyName ∈ xq_g := List.mem_filter.mpr ⟨xq_T2 _ (List.mem_of_getElem? (i := 153) rfl), rfl⟩
set_option maxRecDepth 100000 in
theorem xq_o_cpS : Cond.static arraycopyName ∈ xq_g := List.mem_filter.mpr ⟨xq_T2 _ (List.mem_of_getElem? (i := 152) rfl), rfl⟩
set_option maxRecDepth 100000 in
theorem xq_o_sys : Cond.initialized "java/lang/System" ∈ xq_g := List.mem_filter.mpr ⟨xq_T1 _ (List.mem_of_getElem? (i := 22) rfl), rfl⟩
set_option maxRecDepth 100000 in
theorem xq_o_ms_max : Cond.static Lib.Math.max.name ∈ xq_g := List.mem_filter.mpr ⟨xq_T2 _ (List.mem_of_getElem? (i := 232) rfl), rfl⟩
set_option maxRecDepth 100000 in
theorem xq_o_mc_max : Cond.code Lib.Math.max.name Lib.Math.max.code 2 (some .int) ∈ xq_g := List.mem_filter.mpr ⟨xq_T2 _ (List.mem_of_getElem? (i := 233) rfl), rfl⟩
set_option maxRecDepth 100000 in
theorem xq_o_ms_min : Cond.static Lib.Math.min.name ∈ xq_g := List.mem_filter.mpr ⟨xq_T3 _ (List.mem_of_getElem? (i := 115) rfl), rfl⟩
set_option maxRecDepth 100000 in
theorem xq_o_mc_min : Cond.code Lib.Math.min.name Lib.Math.min.code 2 (some .int) ∈ xq_g := List.mem_filter.mpr ⟨xq_T3 _ (List.mem_of_getElem? (i := 116) rfl), rfl⟩
set_option maxRecDepth 100000 in
theorem xq_o_ms_abs : Cond.static Lib.Math.abs.name ∈ xq_g := List.mem_filter.mpr ⟨xq_T2 _ (List.mem_of_getElem? (i := 217) rfl), rfl⟩
set_option maxRecDepth 100000 in
theorem xq_o_mc_abs : Cond.code Lib.Math.abs.name Lib.Math.abs.code 1 (some .int) ∈ xq_g := List.mem_filter.mpr ⟨xq_T2 _ (List.mem_of_getElem? (i := 218) rfl), rfl⟩
set_option maxRecDepth 100000 in
theorem xq_o_mat : Cond.initialized "java/lang/Math" ∈ xq_g := List.mem_filter.mpr ⟨xq_T1 _ (List.mem_of_getElem? (i := 16) rfl), rfl⟩
set_option maxRecDepth 100000 in
theorem xq_o_obI : Cond.instanceMethod objectInit ∈ xq_g := List.mem_filter.mpr ⟨xq_T1 _ (List.mem_of_getElem? (i := 31) rfl), rfl⟩
set_option maxRecDepth 100000 in
theorem xq_o_obC : Cond.code objectInit ⟨#[0xb1]⟩ 1 none ∈ xq_g := List.mem_filter.mpr ⟨xq_T1 _ (List.mem_of_getElem? (i := 32) rfl), rfl⟩
set_option maxRecDepth 100000 in
theorem xq_o_de0 : Cond.declares (Bundle.initS "java/lang/RuntimeException") ∈ lw_tbl := xq_T3 _ (List.mem_of_getElem? (i := 47) rfl)
set_option maxRecDepth 100000 in
theorem xq_o_de1 : Cond.declares (Bundle.initS "java/lang/Exception") ∈ lw_tbl := xq_T3 _ (List.mem_of_getElem? (i := 49) rfl)
set_option maxRecDepth 100000 in
theorem xq_o_de2 : Cond.declares (Bundle.initS "java/lang/Throwable") ∈ lw_tbl := xq_T3 _ (List.mem_of_getElem? (i := 51) rfl)
set_option maxRecDepth 100000 in
theorem xq_o_ia1 : Cond.castable "java/lang/IllegalArgumentException" "java/lang/IllegalArgumentException" ∈ lw_tbl := xq_T3 _ (List.mem_of_getElem? (i := 45) rfl)
set_option maxRecDepth 100000 in
theorem xq_o_ns1 : Cond.castable "java/util/NoSuchElementException" "java/util/NoSuchElementException" ∈ lw_tbl := xq_T5 _ (List.mem_of_getElem? (i := 18) rfl)
set_option maxRecDepth 100000 in
theorem xq_o_iaL : Cond.classLink RL 13 "java/lang/IllegalArgumentException" ∈ xq_g := List.mem_filter.mpr ⟨xq_T3 _ (List.mem_of_getElem? (i := 34) rfl), rfl⟩
set_option maxRecDepth 100000 in
theorem xq_o_nsL : Cond.classLink RL 30 "java/util/NoSuchElementException" ∈ xq_g := List.mem_filter.mpr ⟨xq_T5 _ (List.mem_of_getElem? (i := 7) rfl), rfl⟩
set_option maxRecDepth 100000 in
theorem xq_o_iaP : Cond.classLink RX10 366 "java/lang/IllegalArgumentException" ∈ xq_g := List.mem_filter.mpr ⟨xq_T3 _ (List.mem_of_getElem? (i := 43) rfl), rfl⟩
set_option maxRecDepth 100000 in
theorem xq_o_nsP : Cond.classLink RX10 359 "java/util/NoSuchElementException" ∈ xq_g := List.mem_filter.mpr ⟨xq_T5 _ (List.mem_of_getElem? (i := 16) rfl), rfl⟩
set_option maxRecDepth 100000 in
theorem xq_o_iaI : Cond.initialized "java/lang/IllegalArgumentException" ∈ xq_g := List.mem_filter.mpr ⟨xq_T1 _ (List.mem_of_getElem? (i := 15) rfl), rfl⟩
set_option maxRecDepth 100000 in
theorem xq_o_nsI : Cond.initialized "java/util/NoSuchElementException" ∈ xq_g := List.mem_filter.mpr ⟨xq_T1 _ (List.mem_of_getElem? (i := 24) rfl), rfl⟩
