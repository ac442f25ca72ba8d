/-- links of the classes' own pools: (class, place, class of the field, the field) -/
def zFL : List (Nat × Nat × Nat × Nat) := [(0, 9, 0, 0), (0, 15, 0, 1), (0, 19, 0, 2), (0, 22, 0, 3), (0, 25, 0, 4), (0, 28, 0, 5), (0, 32, 0, 6), (0, 36, 0, 7), (0, 39, 0, 8), (0, 42, 0, 9), (0, 45, 0, 10), (0, 48, 0, 11), (0, 51, 0, 12), (0, 54, 0, 13), (0, 57, 0, 14), (0, 74, 1, 0), (0, 87, 1, 2), (0, 97, 1, 10), (0, 100, 1, 11), (0, 113, 1, 5), (0, 122, 1, 9), (0, 125, 1, 8), (1, 9, 1, 0), (1, 15, 1, 1), (1, 18, 1, 2), (1, 21, 1, 3), (1, 24, 1, 4), (1, 27, 1, 5), (1, 31, 1, 6), (1, 34, 1, 7), (1, 37, 1, 8), (1, 40, 1, 9), (1, 43, 1, 10), (1, 46, 1, 11), (2, 11, 2, 0), (2, 17, 2, 1), (3, 12, 3, 0), (3, 18, 3, 1), (3, 22, 3, 2), (3, 26, 3, 4), (3, 29, 3, 5), (3, 32, 3, 6), (3, 38, 3, 3), (3, 73, 1, 0), (3, 76, 1, 5), (3, 79, 1, 1), (3, 87, 1, 2), (3, 94, 1, 6), (3, 97, 1, 7), (3, 100, 1, 8), (3, 103, 1, 9), (3, 110, 1, 3), (4, 9, 4, 0), (4, 15, 4, 1), (4, 18, 4, 2), (4, 21, 4, 3), (4, 25, 4, 4), (4, 28, 4, 5), (4, 34, 4, 6), (4, 38, 4, 7), (4, 42, 4, 8), (4, 55, 0, 4), (4, 68, 1, 3), (4, 81, 1, 2), (4, 84, 1, 6), (4, 90, 1, 7), (4, 101, 0, 1), (5, 9, 5, 0), (5, 15, 5, 1), (5, 19, 5, 2), (5, 22, 5, 3), (5, 25, 5, 4), (5, 28, 1, 6), (5, 33, 1, 7), (5, 46, 0, 8), (5, 49, 0, 7), (5, 60, 1, 8), (5, 69, 1, 9), (5, 72, 0, 10), (6, 9, 6, 0), (6, 15, 6, 1), (6, 19, 6, 2), (6, 23, 6, 3), (6, 26, 6, 4), (6, 30, 6, 5), (6, 36, 6, 6), (6, 43, 6, 7), (6, 47, 6, 8), (6, 56, 1, 3), (6, 65, 0, 5), (6, 75, 1, 2), (6, 89, 5, 0), (6, 92, 0, 0), (6, 93, 5, 1), (7, 9, 7, 0), (7, 15, 7, 1), (7, 18, 7, 2), (7, 21, 7, 3), (7, 28, 7, 4), (7, 32, 1, 2), (7, 37, 0, 0), (7, 54, 5, 0), (7, 65, 5, 1), (8, 7, 8, 0), (8, 13, 8, 1), (8, 19, 8, 3), (8, 26, 8, 4), (8, 30, 8, 5), (8, 36, 8, 6), (8, 43, 8, 7), (8, 50, 8, 8), (8, 57, 8, 9), (8, 64, 8, 10), (8, 71, 8, 11), (8, 75, 8, 2), (8, 94, 3, 0), (8, 100, 3, 1), (8, 107, 1, 6), (8, 110, 1, 7), (8, 113, 1, 8), (8, 116, 1, 9), (8, 122, 0, 10), (8, 125, 0, 11), (8, 128, 0, 3), (8, 140, 1, 5), (8, 143, 0, 6), (8, 146, 0, 7), (8, 149, 0, 8), (8, 152, 0, 9), (8, 159, 1, 3), (8, 174, 0, 1), (8, 178, 0, 4), (8, 181, 1, 4), (8, 193, 5, 0), (8, 196, 5, 1), (8, 218, 7, 0), (8, 221, 7, 1), (8, 224, 7, 2), (8, 231, 6, 1), (8, 234, 6, 0), (8, 237, 6, 2), (8, 241, 6, 3), (8, 247, 4, 0), (8, 250, 4, 1), (8, 253, 4, 2), (8, 258, 0, 5), (8, 261, 1, 0), (8, 264, 0, 2), (8, 280, 2, 1), (8, 284, 1, 2), (9, 7, 9, 0), (9, 13, 9, 1), (9, 16, 9, 4), (9, 19, 9, 5), (9, 22, 9, 6), (9, 25, 9, 7), (9, 28, 9, 8), (9, 31, 9, 9), (9, 34, 9, 10), (9, 37, 9, 12), (9, 40, 9, 18), (9, 43, 9, 19), (9, 46, 9, 20), (9, 49, 9, 21), (9, 52, 9, 22), (9, 55, 9, 23), (9, 58, 9, 24), (9, 61, 9, 25), (9, 64, 9, 26), (9, 67, 9, 27), (9, 70, 9, 28), (9, 73, 9, 29), (9, 76, 9, 30), (9, 79, 9, 32), (9, 82, 9, 33), (9, 85, 9, 35), (9, 88, 9, 36), (9, 91, 9, 37), (9, 94, 9, 38), (9, 97, 9, 39), (9, 100, 9, 41), (9, 103, 9, 42), (9, 106, 9, 43), (9, 109, 9, 44), (9, 112, 9, 52), (9, 126, 9, 2), (9, 133, 9, 14), (9, 136, 9, 13), (9, 150, 9, 16), (9, 153, 9, 15), (9, 166, 9, 17), (9, 185, 9, 3), (9, 188, 9, 11), (9, 195, 9, 31), (9, 231, 9, 34), (9, 244, 9, 54), (9, 248, 9, 55), (9, 258, 9, 45), (9, 261, 9, 46), (9, 264, 9, 47), (9, 267, 9, 48), (9, 273, 9, 40), (9, 290, 9, 53), (9, 293, 9, 49), (9, 296, 9, 50), (9, 299, 9, 51)]
/-- (class, place, the method, how many values it takes, 0 virtual 1 static 2 init 3 init of a nest mate 4 static of a nest mate) -/
def zML : List (Nat × Nat × Nat × Nat × Nat) := [(8, 18, 13, 1, 3), (8, 25, 0, 1, 3), (8, 35, 25, 1, 2), (8, 42, 29, 1, 3), (8, 49, 49, 1, 3), (8, 56, 63, 1, 3), (8, 63, 56, 1, 3), (8, 70, 39, 1, 3), (8, 79, 92, 1, 0), (8, 82, 91, 2, 0), (8, 86, 30, 3, 0), (8, 90, 26, 2, 0), (8, 97, 15, 2, 0), (8, 103, 18, 2, 0), (8, 119, 93, 2, 0), (8, 131, 17, 2, 0), (8, 134, 2, 2, 0), (8, 137, 19, 2, 0), (8, 155, 23, 3, 0), (8, 162, 1, 3, 0), (8, 166, 3, 2, 0), (8, 170, 21, 3, 0), (8, 184, 164, 1, 1), (8, 189, 50, 4, 0), (8, 199, 94, 3, 0), (8, 202, 52, 3, 0), (8, 206, 53, 3, 0), (8, 210, 95, 3, 0), (8, 214, 64, 3, 0), (8, 228, 58, 3, 0), (8, 244, 41, 3, 0), (8, 254, 42, 3, 0), (8, 267, 24, 2, 0), (8, 270, 20, 2, 0), (8, 273, 5, 2, 0), (8, 277, 6, 3, 0), (8, 281, 27, 2, 0), (8, 290, 89, 2, 0), (8, 293, 72, 3, 0), (8, 296, 71, 3, 0), (8, 299, 87, 2, 0), (8, 303, 57, 1, 0), (8, 306, 40, 1, 0), (8, 307, 51, 2, 0), (8, 310, 96, 3, 1), (0, 60, 19, 2, 0), (0, 66, 9, 5, 0), (0, 70, 7, 3, 0), (0, 77, 10, 3, 0), (0, 80, 11, 2, 0), (0, 84, 2, 2, 0), (0, 90, 12, 3, 0), (0, 94, 8, 3, 0), (0, 103, 22, 3, 0), (0, 107, 165, 2, 1), (1, 49, 165, 2, 1), (1, 61, 20, 2, 0), (2, 21, 13, 1, 3), (2, 22, 28, 1, 0), (2, 25, 15, 2, 0), (3, 11, 13, 1, 3), (3, 35, 14, 1, 0), (3, 41, 31, 1, 0), (3, 45, 16, 1, 0), (3, 48, 38, 1, 0), (3, 52, 34, 2, 0), (3, 56, 32, 2, 0), (3, 60, 17, 2, 0), (3, 63, 33, 2, 0), (3, 66, 36, 2, 0), (3, 70, 37, 2, 0), (3, 82, 164, 1, 1), (3, 90, 23, 3, 0), (3, 106, 35, 3, 0), (4, 33, 0, 1, 3), (4, 45, 44, 3, 0), (4, 49, 165, 2, 1), (4, 56, 47, 2, 0), (4, 60, 48, 2, 0), (4, 64, 45, 4, 0), (4, 73, 1, 3, 0), (4, 77, 43, 3, 0), (4, 87, 2, 2, 0), (4, 93, 21, 3, 0), (4, 97, 46, 2, 0), (4, 104, 3, 2, 0), (4, 108, 164, 1, 1), (5, 36, 4, 3, 0), (5, 42, 54, 3, 1), (5, 52, 55, 4, 0), (5, 56, 22, 3, 0), (6, 35, 0, 1, 3), (6, 42, 49, 1, 3), (6, 50, 165, 2, 1), (6, 61, 1, 3, 0), (6, 68, 61, 3, 0), (6, 72, 59, 3, 0), (6, 78, 21, 3, 0), (6, 82, 50, 4, 0), (6, 86, 60, 3, 0), (6, 95, 96, 3, 4), (6, 99, 62, 2, 0), (6, 103, 53, 3, 0), (6, 107, 52, 3, 0), (7, 27, 49, 1, 3), (7, 42, 21, 3, 0), (7, 46, 50, 4, 0), (7, 50, 65, 3, 0), (7, 57, 52, 3, 0), (7, 61, 53, 3, 0), (7, 68, 66, 4, 0), (9, 115, 118, 1, 0), (9, 118, 98, 3, 1), (9, 122, 99, 2, 0), (9, 130, 102, 2, 0), (9, 139, 103, 2, 0), (9, 143, 104, 2, 0), (9, 147, 105, 2, 0), (9, 156, 107, 2, 0), (9, 159, 108, 3, 0), (9, 163, 110, 2, 0), (9, 169, 109, 1, 0), (9, 172, 106, 1, 0), (9, 175, 111, 1, 0), (9, 179, 112, 1, 0), (9, 182, 115, 1, 0), (9, 191, 114, 2, 0), (9, 198, 117, 3, 0), (9, 202, 119, 2, 0), (9, 206, 123, 2, 0), (9, 209, 124, 2, 0), (9, 212, 121, 1, 0), (9, 215, 125, 2, 0), (9, 218, 122, 1, 0), (9, 221, 130, 1, 0), (9, 225, 132, 3, 0), (9, 228, 135, 2, 0), (9, 234, 137, 2, 0), (9, 237, 138, 2, 0), (9, 240, 120, 1, 0), (9, 251, 139, 2, 0), (9, 254, 141, 3, 0), (9, 270, 143, 1, 0), (9, 276, 148, 2, 0), (9, 279, 149, 3, 0), (9, 282, 147, 1, 0), (9, 285, 150, 2, 0), (9, 302, 152, 1, 0), (9, 305, 153, 1, 0), (9, 308, 154, 2, 0), (9, 311, 158, 2, 0), (9, 314, 157, 1, 0), (9, 317, 159, 2, 0), (9, 320, 161, 2, 0), (9, 327, 127, 3, 0), (9, 329, 126, 3, 0)]
def zOI : List (Nat × Nat) := [(0, 3), (1, 3), (2, 3), (3, 3), (4, 3), (5, 3), (6, 3), (7, 3), (8, 1), (9, 1)]
def zAC : List (Nat × Nat) := [(0, 116), (1, 55)]
def zAB : List (Nat × Nat) := [(5, 63)]
def zCK : List (Nat × Nat × Nat) := [(2, 9, 1), (3, 9, 1), (4, 31, 0), (6, 33, 0), (6, 40, 5), (7, 25, 5), (8, 16, 1), (8, 23, 0), (8, 33, 2), (8, 40, 3), (8, 47, 5), (8, 54, 7), (8, 61, 6), (8, 68, 4)]
def zCI : List (Nat × Nat × Int) := [(6, 111, -1640531535), (8, 227, 1000000), (10, 265, 1431655765), (10, 266, 858993459), (10, 267, 252645135)]
def zCJ : List (Nat × Nat × Int) := [(8, 286, 2267), (8, 288, 31), (9, 288, -1), (9, 323, 2267), (9, 325, 31)]
/-- which fields are final, which are boolean -/
def zfin (c j : Nat) : Bool := ([[false, false, false, false, false, false, true, true, true, true, true, true, true, false, false], [false, false, false, false, false, true, true, true, true, true, true, true], [true, false], [true, false, true, false, false, false, false], [false, false, false, true, false, true, true, false, false], [false, true, true, true, false], [false, false, false, false, true, true, true, true, false], [false, false, false, false, true], [true, true, false, true, true, true, true, true, true, true, true, true], [true, true, false, false, true, true, true, true, true, true, true, false, true, false, false, false, false, false, true, true, true, true, true, true, true, true, true, true, true, true, true, false, true, true, false, true, true, true, true, true, false, true, true, true, true, false, false, false, false, false, false, false, true, false, false, false]] : List (List Bool)).getD c [] |>.getD j false
def zboo (c j : Nat) : Bool := ([[false, true, false, false, false, false, false, false, false, false, false, false, false, false, false], [false, false, false, false, false, false, false, false, false, false, false, false], [false, false], [false, false, false, false, false, false, false], [false, false, false, false, false, false, false, true, true], [false, false, false, false, false], [false, true, false, false, false, false, false, false, false], [false, false, false, false, false], [false, false, false, false, false, false, false, false, false, false, false, false], [false, false, false, false, false, false, false, false, false, false, false, false, false, false, false, false, false, false, false, false, false, false, false, false, false, false, false, false, false, false, false, false, false, false, false, false, false, false, false, false, false, false, false, false, false, false, false, false, false, false, false, false, false, false, false, false]] : List (List Bool)).getD c [] |>.getD j false
/-- the words that every method has: the good ones of the tables -/
def zwl : List Cond := lw_tbl.filter goodWord
/-- names of the classes by number -/
def zcn : List String := [RX0, RX1, RX2, RX3, RX4, RX5, RX6, RX7, RX8, RX9, RJ6, RJ7]
def zcnm (c : Nat) : String := zcn.getD c ""
def zTs : List u_T := [TX0, TX1, TX2, TX3, TX4, TX5, TX6, TX7, TX8, TX9]
def zTT (c : Nat) : u_T := zTs.getD c TX0
def zmd (k : Nat) : zMt := zms0.getD k (⟨"", "", ""⟩, ⟨#[]⟩, 0, none)
def zy (k : Nat) : MethodName := (zmd k).1
def zb (k : Nat) : ByteArray := (zmd k).2.1
def zrt0 (k : Nat) : Option FieldType := (zmd k).2.2.2
theorem zwl_at {w : Cond} (p : Nat) (h : tables_1[p]? = some w) (g : goodWord w = true) : w ∈ zwl := List.mem_filter.mpr ⟨List.mem_append_right _ (List.mem_of_getElem? h), g⟩
theorem zwl_tb {w : Cond} (h : w ∈ zwl) : w ∈ lw_tbl := (List.mem_filter.mp h).1
/-- rows of words by their places -/
def zat (ps : List Nat) (ws : List Cond) : Bool := match ps, ws with
  | [], [] => true
  | p :: ps, w :: ws => decide (tables_1[p]? = some w) && (goodWord w && zat ps ws)
  | _, _ => false
theorem zat_ok : ∀ {ps : List Nat} {ws : List Cond}, zat ps ws = true → ∀ w ∈ ws, w ∈ zwl
  | [], [], _, _, h => by cases h
  | p :: ps, w :: ws, h, v, hv => by
    simp only [zat, Bool.and_eq_true, decide_eq_true_eq] at h
    rcases List.mem_cons.mp hv with rfl | hv
    · exact zwl_at p h.1 h.2.1
    · exact zat_ok h.2.2 v hv
  | [], _ :: _, h, _, _ => by cases h
  | _ :: _, [], h, _, _ => by cases h
def zFw (e : Nat × Nat × Nat × Nat) : Cond := .fieldLink (zcnm e.1) e.2.1 (zcnm e.2.2.1) (zTT e.2.2.1 e.2.2.2).2.1 (zTT e.2.2.1 e.2.2.2).2.2.1
theorem zFL_a : zat [109, 112, 115, 117, 119, 122, 125, 127, 130, 133, 135, 138, 140, 141, 142, 30, 40, 74, 76, 52, 72, 67, 29, 33, 35, 42, 47, 49, 53, 58, 63, 68, 73, 75, 183, 184, 199, 201, 203, 205, 206, 207, 204, 31, 50, 34, 39, 57, 62, 66, 71, 45, 328, 330, 332, 334, 335, 336, 337, 338, 339, 120, 44, 38, 55, 60, 113, 229, 233, 237, 238, 239, 54, 59, 131, 128, 64, 69, 137, 288, 290, 292, 294, 296, 297, 298, 299, 300, 43, 123, 37, 231, 111, 235, 259, 261, 263, 265, 266, 36, 110, 230, 234, 413, 414, 416, 417, 418, 419, 420, 421, 422, 423, 424, 415, 200, 202, 56, 61, 65, 70, 136, 139, 118, 51, 126, 129, 132, 134, 46, 114, 121, 48, 232, 236, 260, 262, 264, 291, 289, 293, 295, 329, 331, 333, 124, 32, 116, 185, 41, 810, 811, 814, 815, 816, 817, 818, 819, 820, 822, 828, 829, 830, 831, 832, 833, 834, 835, 836, 837, 838, 839, 840, 842, 843, 845, 846, 847, 848, 849, 851, 852, 853, 854, 862, 812, 824, 823, 826, 825, 827, 813, 821, 841, 844, 864, 865, 855, 856, 857, 858, 850, 863, 859, 860, 861] (zFL.map zFw) = true := by decide +kernel
theorem zFL_in : ∀ e ∈ zFL, zFw e ∈ zwl := fun e h => zat_ok zFL_a _ (List.mem_map_of_mem h)
def zks : List Nat := List.range 166
theorem zk_mem (k q : Nat) (h : k < q + 60) (hq : q ≤ k) (hk : k < 166) : k ∈ (zks.drop q).take 60 := by
  have e : ((zks.drop q).take 60)[k - q]? = some k := by
    rw [List.getElem?_take_of_lt (by omega), List.getElem?_drop, show q + (k - q) = k by omega]
    exact List.getElem?_range hk
  exact List.mem_of_getElem? e
def zcw (k : Nat) : Cond := .code (zy k) (zb k) (zml k) (zrt0 k)
set_option maxRecDepth 20000 in
theorem zcw_0 : zcw 0 ∈ zwl := zwl_at 107 (by with_unfolding_all rfl) rfl
set_option maxRecDepth 20000 in
theorem zcw_1 : zcw 1 ∈ zwl := zwl_at 366 (by with_unfolding_all rfl) rfl
set_option maxRecDepth 20000 in
theorem zcw_2 : zcw 2 ∈ zwl := zwl_at 559 (by with_unfolding_all rfl) rfl
set_option maxRecDepth 20000 in
theorem zcw_3 : zcw 3 ∈ zwl := zwl_at 573 (by with_unfolding_all rfl) rfl
set_option maxRecDepth 20000 in
theorem zcw_4 : zcw 4 ∈ zwl := zwl_at 610 (by with_unfolding_all rfl) rfl
set_option maxRecDepth 20000 in
theorem zcw_5 : zcw 5 ∈ zwl := zwl_at 769 (by with_unfolding_all rfl) rfl
set_option maxRecDepth 20000 in
theorem zcw_6 : zcw 6 ∈ zwl := zwl_at 773 (by with_unfolding_all rfl) rfl
set_option maxRecDepth 20000 in
theorem zcw_7 : zcw 7 ∈ zwl := zwl_at 378 (by with_unfolding_all rfl) rfl
set_option maxRecDepth 20000 in
theorem zcw_8 : zcw 8 ∈ zwl := zwl_at 382 (by with_unfolding_all rfl) rfl
set_option maxRecDepth 20000 in
theorem zcw_9 : zcw 9 ∈ zwl := zwl_at 374 (by with_unfolding_all rfl) rfl
set_option maxRecDepth 20000 in
theorem zcw_10 : zcw 10 ∈ zwl := zwl_at 390 (by with_unfolding_all rfl) rfl
set_option maxRecDepth 20000 in
theorem zcw_11 : zcw 11 ∈ zwl := zwl_at 400 (by with_unfolding_all rfl) rfl
set_option maxRecDepth 20000 in
theorem zcw_12 : zcw 12 ∈ zwl := zwl_at 404 (by with_unfolding_all rfl) rfl
set_option maxRecDepth 20000 in
theorem zcw_13 : zcw 13 ∈ zwl := zwl_at 27 (by with_unfolding_all rfl) rfl
set_option maxRecDepth 20000 in
theorem zcw_14 : zcw 14 ∈ zwl := zwl_at 473 (by with_unfolding_all rfl) rfl
set_option maxRecDepth 20000 in
theorem zcw_15 : zcw 15 ∈ zwl := zwl_at 536 (by with_unfolding_all rfl) rfl
set_option maxRecDepth 20000 in
theorem zcw_16 : zcw 16 ∈ zwl := zwl_at 524 (by with_unfolding_all rfl) rfl
set_option maxRecDepth 20000 in
theorem zcw_17 : zcw 17 ∈ zwl := zwl_at 490 (by with_unfolding_all rfl) rfl
set_option maxRecDepth 20000 in
theorem zcw_18 : zcw 18 ∈ zwl := zwl_at 546 (by with_unfolding_all rfl) rfl
set_option maxRecDepth 20000 in
theorem zcw_19 : zcw 19 ∈ zwl := zwl_at 370 (by with_unfolding_all rfl) rfl
set_option maxRecDepth 20000 in
theorem zcw_20 : zcw 20 ∈ zwl := zwl_at 585 (by with_unfolding_all rfl) rfl
set_option maxRecDepth 20000 in
theorem zcw_21 : zcw 21 ∈ zwl := zwl_at 581 (by with_unfolding_all rfl) rfl
set_option maxRecDepth 20000 in
theorem zcw_22 : zcw 22 ∈ zwl := zwl_at 386 (by with_unfolding_all rfl) rfl
set_option maxRecDepth 20000 in
theorem zcw_23 : zcw 23 ∈ zwl := zwl_at 494 (by with_unfolding_all rfl) rfl
set_option maxRecDepth 20000 in
theorem zcw_24 : zcw 24 ∈ zwl := zwl_at 764 (by with_unfolding_all rfl) rfl
set_option maxRecDepth 20000 in
theorem zcw_25 : zcw 25 ∈ zwl := zwl_at 178 (by with_unfolding_all rfl) rfl
set_option maxRecDepth 20000 in
theorem zcw_26 : zcw 26 ∈ zwl := zwl_at 528 (by with_unfolding_all rfl) rfl
set_option maxRecDepth 20000 in
theorem zcw_27 : zcw 27 ∈ zwl := zwl_at 781 (by with_unfolding_all rfl) rfl
set_option maxRecDepth 20000 in
theorem zcw_28 : zcw 28 ∈ zwl := zwl_at 532 (by with_unfolding_all rfl) rfl
set_option maxRecDepth 20000 in
theorem zcw_29 : zcw 29 ∈ zwl := zwl_at 195 (by with_unfolding_all rfl) rfl
set_option maxRecDepth 20000 in
theorem zcw_30 : zcw 30 ∈ zwl := zwl_at 469 (by with_unfolding_all rfl) rfl
set_option maxRecDepth 20000 in
theorem zcw_31 : zcw 31 ∈ zwl := zwl_at 478 (by with_unfolding_all rfl) rfl
set_option maxRecDepth 20000 in
theorem zcw_32 : zcw 32 ∈ zwl := zwl_at 510 (by with_unfolding_all rfl) rfl
set_option maxRecDepth 20000 in
theorem zcw_33 : zcw 33 ∈ zwl := zwl_at 514 (by with_unfolding_all rfl) rfl
set_option maxRecDepth 20000 in
theorem zcw_34 : zcw 34 ∈ zwl := zwl_at 486 (by with_unfolding_all rfl) rfl
set_option maxRecDepth 20000 in
theorem zcw_35 : zcw 35 ∈ zwl := zwl_at 506 (by with_unfolding_all rfl) rfl
set_option maxRecDepth 20000 in
theorem zcw_36 : zcw 36 ∈ zwl := zwl_at 498 (by with_unfolding_all rfl) rfl
set_option maxRecDepth 20000 in
theorem zcw_37 : zcw 37 ∈ zwl := zwl_at 502 (by with_unfolding_all rfl) rfl
set_option maxRecDepth 20000 in
theorem zcw_38 : zcw 38 ∈ zwl := zwl_at 482 (by with_unfolding_all rfl) rfl
set_option maxRecDepth 20000 in
theorem zcw_39 : zcw 39 ∈ zwl := zwl_at 324 (by with_unfolding_all rfl) rfl
set_option maxRecDepth 20000 in
theorem zcw_40 : zcw 40 ∈ zwl := zwl_at 412 (by with_unfolding_all rfl) rfl
set_option maxRecDepth 20000 in
theorem zcw_41 : zcw 41 ∈ zwl := zwl_at 718 (by with_unfolding_all rfl) rfl
set_option maxRecDepth 20000 in
theorem zcw_42 : zcw 42 ∈ zwl := zwl_at 748 (by with_unfolding_all rfl) rfl
set_option maxRecDepth 20000 in
theorem zcw_43 : zcw 43 ∈ zwl := zwl_at 752 (by with_unfolding_all rfl) rfl
set_option maxRecDepth 20000 in
theorem zcw_44 : zcw 44 ∈ zwl := zwl_at 722 (by with_unfolding_all rfl) rfl
set_option maxRecDepth 20000 in
theorem zcw_45 : zcw 45 ∈ zwl := zwl_at 737 (by with_unfolding_all rfl) rfl
set_option maxRecDepth 20000 in
theorem zcw_46 : zcw 46 ∈ zwl := zwl_at 741 (by with_unfolding_all rfl) rfl
set_option maxRecDepth 20000 in
theorem zcw_47 : zcw 47 ∈ zwl := zwl_at 729 (by with_unfolding_all rfl) rfl
set_option maxRecDepth 20000 in
theorem zcw_48 : zcw 48 ∈ zwl := zwl_at 733 (by with_unfolding_all rfl) rfl
set_option maxRecDepth 20000 in
theorem zcw_49 : zcw 49 ∈ zwl := zwl_at 227 (by with_unfolding_all rfl) rfl
set_option maxRecDepth 20000 in
theorem zcw_50 : zcw 50 ∈ zwl := zwl_at 606 (by with_unfolding_all rfl) rfl
set_option maxRecDepth 20000 in
theorem zcw_51 : zcw 51 ∈ zwl := zwl_at 631 (by with_unfolding_all rfl) rfl
set_option maxRecDepth 20000 in
theorem zcw_52 : zcw 52 ∈ zwl := zwl_at 635 (by with_unfolding_all rfl) rfl
set_option maxRecDepth 20000 in
theorem zcw_53 : zcw 53 ∈ zwl := zwl_at 643 (by with_unfolding_all rfl) rfl
set_option maxRecDepth 20000 in
theorem zcw_54 : zcw 54 ∈ zwl := zwl_at 614 (by with_unfolding_all rfl) rfl
set_option maxRecDepth 20000 in
theorem zcw_55 : zcw 55 ∈ zwl := zwl_at 618 (by with_unfolding_all rfl) rfl
set_option maxRecDepth 20000 in
theorem zcw_56 : zcw 56 ∈ zwl := zwl_at 282 (by with_unfolding_all rfl) rfl
set_option maxRecDepth 20000 in
theorem zcw_57 : zcw 57 ∈ zwl := zwl_at 408 (by with_unfolding_all rfl) rfl
set_option maxRecDepth 20000 in
theorem zcw_58 : zcw 58 ∈ zwl := zwl_at 686 (by with_unfolding_all rfl) rfl
set_option maxRecDepth 20000 in
theorem zcw_59 : zcw 59 ∈ zwl := zwl_at 701 (by with_unfolding_all rfl) rfl
set_option maxRecDepth 20000 in
theorem zcw_60 : zcw 60 ∈ zwl := zwl_at 707 (by with_unfolding_all rfl) rfl
set_option maxRecDepth 20000 in
theorem zcw_61 : zcw 61 ∈ zwl := zwl_at 692 (by with_unfolding_all rfl) rfl
set_option maxRecDepth 20000 in
theorem zcw_62 : zcw 62 ∈ zwl := zwl_at 696 (by with_unfolding_all rfl) rfl
set_option maxRecDepth 20000 in
theorem zcw_63 : zcw 63 ∈ zwl := zwl_at 255 (by with_unfolding_all rfl) rfl
set_option maxRecDepth 20000 in
theorem zcw_64 : zcw 64 ∈ zwl := zwl_at 657 (by with_unfolding_all rfl) rfl
set_option maxRecDepth 20000 in
theorem zcw_65 : zcw 65 ∈ zwl := zwl_at 663 (by with_unfolding_all rfl) rfl
set_option maxRecDepth 20000 in
theorem zcw_66 : zcw 66 ∈ zwl := zwl_at 669 (by with_unfolding_all rfl) rfl
set_option maxRecDepth 20000 in
theorem zcw_67 : zcw 67 ∈ zwl := zwl_at 19 (by with_unfolding_all rfl) rfl
set_option maxRecDepth 20000 in
theorem zcw_68 : zcw 68 ∈ zwl := zwl_at 453 (by with_unfolding_all rfl) rfl
set_option maxRecDepth 20000 in
theorem zcw_69 : zcw 69 ∈ zwl := zwl_at 461 (by with_unfolding_all rfl) rfl
set_option maxRecDepth 20000 in
theorem zcw_70 : zcw 70 ∈ zwl := zwl_at 465 (by with_unfolding_all rfl) rfl
set_option maxRecDepth 20000 in
theorem zcw_71 : zcw 71 ∈ zwl := zwl_at 542 (by with_unfolding_all rfl) rfl
set_option maxRecDepth 20000 in
theorem zcw_72 : zcw 72 ∈ zwl := zwl_at 554 (by with_unfolding_all rfl) rfl
set_option maxRecDepth 20000 in
theorem zcw_73 : zcw 73 ∈ zwl := zwl_at 564 (by with_unfolding_all rfl) rfl
set_option maxRecDepth 20000 in
theorem zcw_74 : zcw 74 ∈ zwl := zwl_at 569 (by with_unfolding_all rfl) rfl
set_option maxRecDepth 20000 in
theorem zcw_75 : zcw 75 ∈ zwl := zwl_at 577 (by with_unfolding_all rfl) rfl
set_option maxRecDepth 20000 in
theorem zcw_76 : zcw 76 ∈ zwl := zwl_at 589 (by with_unfolding_all rfl) rfl
set_option maxRecDepth 20000 in
theorem zcw_77 : zcw 77 ∈ zwl := zwl_at 593 (by with_unfolding_all rfl) rfl
set_option maxRecDepth 20000 in
theorem zcw_78 : zcw 78 ∈ zwl := zwl_at 597 (by with_unfolding_all rfl) rfl
set_option maxRecDepth 20000 in
theorem zcw_79 : zcw 79 ∈ zwl := zwl_at 602 (by with_unfolding_all rfl) rfl
set_option maxRecDepth 20000 in
theorem zcw_80 : zcw 80 ∈ zwl := zwl_at 623 (by with_unfolding_all rfl) rfl
set_option maxRecDepth 20000 in
theorem zcw_81 : zcw 81 ∈ zwl := zwl_at 639 (by with_unfolding_all rfl) rfl
set_option maxRecDepth 20000 in
theorem zcw_82 : zcw 82 ∈ zwl := zwl_at 673 (by with_unfolding_all rfl) rfl
set_option maxRecDepth 20000 in
theorem zcw_83 : zcw 83 ∈ zwl := zwl_at 677 (by with_unfolding_all rfl) rfl
set_option maxRecDepth 20000 in
theorem zcw_84 : zcw 84 ∈ zwl := zwl_at 682 (by with_unfolding_all rfl) rfl
set_option maxRecDepth 20000 in
theorem zcw_85 : zcw 85 ∈ zwl := zwl_at 714 (by with_unfolding_all rfl) rfl
set_option maxRecDepth 20000 in
theorem zcw_86 : zcw 86 ∈ zwl := zwl_at 756 (by with_unfolding_all rfl) rfl
set_option maxRecDepth 20000 in
theorem zcw_87 : zcw 87 ∈ zwl := zwl_at 760 (by with_unfolding_all rfl) rfl
set_option maxRecDepth 20000 in
theorem zcw_88 : zcw 88 ∈ zwl := zwl_at 777 (by with_unfolding_all rfl) rfl
set_option maxRecDepth 20000 in
theorem zcw_89 : zcw 89 ∈ zwl := zwl_at 785 (by with_unfolding_all rfl) rfl
set_option maxRecDepth 20000 in
theorem zcw_90 : zcw 90 ∈ zwl := zwl_at 789 (by with_unfolding_all rfl) rfl
set_option maxRecDepth 20000 in
theorem zcw_91 : zcw 91 ∈ zwl := zwl_at 457 (by with_unfolding_all rfl) rfl
set_option maxRecDepth 20000 in
theorem zcw_92 : zcw 92 ∈ zwl := zwl_at 362 (by with_unfolding_all rfl) rfl
set_option maxRecDepth 20000 in
theorem zcw_93 : zcw 93 ∈ zwl := zwl_at 550 (by with_unfolding_all rfl) rfl
set_option maxRecDepth 20000 in
theorem zcw_94 : zcw 94 ∈ zwl := zwl_at 627 (by with_unfolding_all rfl) rfl
set_option maxRecDepth 20000 in
theorem zcw_95 : zcw 95 ∈ zwl := zwl_at 650 (by with_unfolding_all rfl) rfl
set_option maxRecDepth 20000 in
theorem zcw_96 : zcw 96 ∈ zwl := zwl_at 653 (by with_unfolding_all rfl) rfl
set_option maxRecDepth 20000 in
theorem zcw_97 : zcw 97 ∈ zwl := zwl_at 800 (by with_unfolding_all rfl) rfl
set_option maxRecDepth 20000 in
theorem zcw_98 : zcw 98 ∈ zwl := zwl_at 985 (by with_unfolding_all rfl) rfl
set_option maxRecDepth 20000 in
theorem zcw_99 : zcw 99 ∈ zwl := zwl_at 989 (by with_unfolding_all rfl) rfl
set_option maxRecDepth 20000 in
theorem zcw_100 : zcw 100 ∈ zwl := zwl_at 982 (by with_unfolding_all rfl) rfl
set_option maxRecDepth 20000 in
theorem zcw_101 : zcw 101 ∈ zwl := zwl_at 993 (by with_unfolding_all rfl) rfl
set_option maxRecDepth 20000 in
theorem zcw_102 : zcw 102 ∈ zwl := zwl_at 1005 (by with_unfolding_all rfl) rfl
set_option maxRecDepth 20000 in
theorem zcw_103 : zcw 103 ∈ zwl := zwl_at 1029 (by with_unfolding_all rfl) rfl
set_option maxRecDepth 20000 in
theorem zcw_104 : zcw 104 ∈ zwl := zwl_at 1013 (by with_unfolding_all rfl) rfl
set_option maxRecDepth 20000 in
theorem zcw_105 : zcw 105 ∈ zwl := zwl_at 1025 (by with_unfolding_all rfl) rfl
set_option maxRecDepth 20000 in
theorem zcw_106 : zcw 106 ∈ zwl := zwl_at 1033 (by with_unfolding_all rfl) rfl
set_option maxRecDepth 20000 in
theorem zcw_107 : zcw 107 ∈ zwl := zwl_at 1017 (by with_unfolding_all rfl) rfl
set_option maxRecDepth 20000 in
theorem zcw_108 : zcw 108 ∈ zwl := zwl_at 1021 (by with_unfolding_all rfl) rfl
set_option maxRecDepth 20000 in
theorem zcw_109 : zcw 109 ∈ zwl := zwl_at 1009 (by with_unfolding_all rfl) rfl
set_option maxRecDepth 20000 in
theorem zcw_110 : zcw 110 ∈ zwl := zwl_at 1041 (by with_unfolding_all rfl) rfl
set_option maxRecDepth 20000 in
theorem zcw_111 : zcw 111 ∈ zwl := zwl_at 1037 (by with_unfolding_all rfl) rfl
set_option maxRecDepth 20000 in
theorem zcw_112 : zcw 112 ∈ zwl := zwl_at 1001 (by with_unfolding_all rfl) rfl
set_option maxRecDepth 20000 in
theorem zcw_113 : zcw 113 ∈ zwl := zwl_at 997 (by with_unfolding_all rfl) rfl
set_option maxRecDepth 20000 in
theorem zcw_114 : zcw 114 ∈ zwl := zwl_at 1049 (by with_unfolding_all rfl) rfl
set_option maxRecDepth 20000 in
theorem zcw_115 : zcw 115 ∈ zwl := zwl_at 1045 (by with_unfolding_all rfl) rfl
set_option maxRecDepth 20000 in
theorem zcw_116 : zcw 116 ∈ zwl := zwl_at 1053 (by with_unfolding_all rfl) rfl
set_option maxRecDepth 20000 in
theorem zcw_117 : zcw 117 ∈ zwl := zwl_at 809 (by with_unfolding_all rfl) rfl
set_option maxRecDepth 20000 in
theorem zcw_118 : zcw 118 ∈ zwl := zwl_at 805 (by with_unfolding_all rfl) rfl
set_option maxRecDepth 20000 in
theorem zcw_119 : zcw 119 ∈ zwl := zwl_at 1145 (by with_unfolding_all rfl) rfl
set_option maxRecDepth 20000 in
theorem zcw_120 : zcw 120 ∈ zwl := zwl_at 1141 (by with_unfolding_all rfl) rfl
set_option maxRecDepth 20000 in
theorem zcw_121 : zcw 121 ∈ zwl := zwl_at 1081 (by with_unfolding_all rfl) rfl
set_option maxRecDepth 20000 in
theorem zcw_122 : zcw 122 ∈ zwl := zwl_at 1093 (by with_unfolding_all rfl) rfl
set_option maxRecDepth 20000 in
theorem zcw_123 : zcw 123 ∈ zwl := zwl_at 1061 (by with_unfolding_all rfl) rfl
set_option maxRecDepth 20000 in
theorem zcw_124 : zcw 124 ∈ zwl := zwl_at 1069 (by with_unfolding_all rfl) rfl
set_option maxRecDepth 20000 in
theorem zcw_125 : zcw 125 ∈ zwl := zwl_at 1089 (by with_unfolding_all rfl) rfl
set_option maxRecDepth 20000 in
theorem zcw_126 : zcw 126 ∈ zwl := zwl_at 1057 (by with_unfolding_all rfl) rfl
set_option maxRecDepth 20000 in
theorem zcw_127 : zcw 127 ∈ zwl := zwl_at 1065 (by with_unfolding_all rfl) rfl
set_option maxRecDepth 20000 in
theorem zcw_128 : zcw 128 ∈ zwl := zwl_at 1073 (by with_unfolding_all rfl) rfl
set_option maxRecDepth 20000 in
theorem zcw_129 : zcw 129 ∈ zwl := zwl_at 1077 (by with_unfolding_all rfl) rfl
set_option maxRecDepth 20000 in
theorem zcw_130 : zcw 130 ∈ zwl := zwl_at 1097 (by with_unfolding_all rfl) rfl
set_option maxRecDepth 20000 in
theorem zcw_131 : zcw 131 ∈ zwl := zwl_at 1085 (by with_unfolding_all rfl) rfl
set_option maxRecDepth 20000 in
theorem zcw_132 : zcw 132 ∈ zwl := zwl_at 1105 (by with_unfolding_all rfl) rfl
set_option maxRecDepth 20000 in
theorem zcw_133 : zcw 133 ∈ zwl := zwl_at 1101 (by with_unfolding_all rfl) rfl
set_option maxRecDepth 20000 in
theorem zcw_134 : zcw 134 ∈ zwl := zwl_at 1109 (by with_unfolding_all rfl) rfl
set_option maxRecDepth 20000 in
theorem zcw_135 : zcw 135 ∈ zwl := zwl_at 1117 (by with_unfolding_all rfl) rfl
set_option maxRecDepth 20000 in
theorem zcw_136 : zcw 136 ∈ zwl := zwl_at 1113 (by with_unfolding_all rfl) rfl
set_option maxRecDepth 20000 in
theorem zcw_137 : zcw 137 ∈ zwl := zwl_at 1129 (by with_unfolding_all rfl) rfl
set_option maxRecDepth 20000 in
theorem zcw_138 : zcw 138 ∈ zwl := zwl_at 1125 (by with_unfolding_all rfl) rfl
set_option maxRecDepth 20000 in
theorem zcw_139 : zcw 139 ∈ zwl := zwl_at 1137 (by with_unfolding_all rfl) rfl
set_option maxRecDepth 20000 in
theorem zcw_140 : zcw 140 ∈ zwl := zwl_at 1121 (by with_unfolding_all rfl) rfl
set_option maxRecDepth 20000 in
theorem zcw_141 : zcw 141 ∈ zwl := zwl_at 1149 (by with_unfolding_all rfl) rfl
set_option maxRecDepth 20000 in
theorem zcw_142 : zcw 142 ∈ zwl := zwl_at 1133 (by with_unfolding_all rfl) rfl
set_option maxRecDepth 20000 in
theorem zcw_143 : zcw 143 ∈ zwl := zwl_at 1157 (by with_unfolding_all rfl) rfl
set_option maxRecDepth 20000 in
theorem zcw_144 : zcw 144 ∈ zwl := zwl_at 1153 (by with_unfolding_all rfl) rfl
set_option maxRecDepth 20000 in
theorem zcw_145 : zcw 145 ∈ zwl := zwl_at 1161 (by with_unfolding_all rfl) rfl
set_option maxRecDepth 20000 in
theorem zcw_146 : zcw 146 ∈ zwl := zwl_at 1165 (by with_unfolding_all rfl) rfl
set_option maxRecDepth 20000 in
theorem zcw_147 : zcw 147 ∈ zwl := zwl_at 1173 (by with_unfolding_all rfl) rfl
set_option maxRecDepth 20000 in
theorem zcw_148 : zcw 148 ∈ zwl := zwl_at 1185 (by with_unfolding_all rfl) rfl
set_option maxRecDepth 20000 in
theorem zcw_149 : zcw 149 ∈ zwl := zwl_at 1177 (by with_unfolding_all rfl) rfl
set_option maxRecDepth 20000 in
theorem zcw_150 : zcw 150 ∈ zwl := zwl_at 1181 (by with_unfolding_all rfl) rfl
set_option maxRecDepth 20000 in
theorem zcw_151 : zcw 151 ∈ zwl := zwl_at 1169 (by with_unfolding_all rfl) rfl
set_option maxRecDepth 20000 in
theorem zcw_152 : zcw 152 ∈ zwl := zwl_at 1194 (by with_unfolding_all rfl) rfl
set_option maxRecDepth 20000 in
theorem zcw_153 : zcw 153 ∈ zwl := zwl_at 1198 (by with_unfolding_all rfl) rfl
set_option maxRecDepth 20000 in
theorem zcw_154 : zcw 154 ∈ zwl := zwl_at 1202 (by with_unfolding_all rfl) rfl
set_option maxRecDepth 20000 in
theorem zcw_155 : zcw 155 ∈ zwl := zwl_at 1190 (by with_unfolding_all rfl) rfl
set_option maxRecDepth 20000 in
theorem zcw_156 : zcw 156 ∈ zwl := zwl_at 1206 (by with_unfolding_all rfl) rfl
set_option maxRecDepth 20000 in
theorem zcw_157 : zcw 157 ∈ zwl := zwl_at 1222 (by with_unfolding_all rfl) rfl
set_option maxRecDepth 20000 in
theorem zcw_158 : zcw 158 ∈ zwl := zwl_at 1218 (by with_unfolding_all rfl) rfl
set_option maxRecDepth 20000 in
theorem zcw_159 : zcw 159 ∈ zwl := zwl_at 1214 (by with_unfolding_all rfl) rfl
set_option maxRecDepth 20000 in
theorem zcw_160 : zcw 160 ∈ zwl := zwl_at 1210 (by with_unfolding_all rfl) rfl
set_option maxRecDepth 20000 in
theorem zcw_161 : zcw 161 ∈ zwl := zwl_at 1230 (by with_unfolding_all rfl) rfl
set_option maxRecDepth 20000 in
theorem zcw_162 : zcw 162 ∈ zwl := zwl_at 1226 (by with_unfolding_all rfl) rfl
set_option maxRecDepth 20000 in
theorem zcw_163 : zcw 163 ∈ zwl := zwl_at 1234 (by with_unfolding_all rfl) rfl
set_option maxRecDepth 20000 in
theorem zcw_164 : zcw 164 ∈ zwl := zwl_at 517 (by with_unfolding_all rfl) rfl
set_option maxRecDepth 20000 in
theorem zcw_165 : zcw 165 ∈ zwl := zwl_at 393 (by with_unfolding_all rfl) rfl
theorem zcw_in : ∀ k, k < 166 → zcw k ∈ zwl := by
  intro k hk
  match k, hk with
  | 0, _ => exact zcw_0
  | 1, _ => exact zcw_1
  | 2, _ => exact zcw_2
  | 3, _ => exact zcw_3
  | 4, _ => exact zcw_4
  | 5, _ => exact zcw_5
  | 6, _ => exact zcw_6
  | 7, _ => exact zcw_7
  | 8, _ => exact zcw_8
  | 9, _ => exact zcw_9
  | 10, _ => exact zcw_10
  | 11, _ => exact zcw_11
  | 12, _ => exact zcw_12
  | 13, _ => exact zcw_13
  | 14, _ => exact zcw_14
  | 15, _ => exact zcw_15
  | 16, _ => exact zcw_16
  | 17, _ => exact zcw_17
  | 18, _ => exact zcw_18
  | 19, _ => exact zcw_19
  | 20, _ => exact zcw_20
  | 21, _ => exact zcw_21
  | 22, _ => exact zcw_22
  | 23, _ => exact zcw_23
  | 24, _ => exact zcw_24
  | 25, _ => exact zcw_25
  | 26, _ => exact zcw_26
  | 27, _ => exact zcw_27
  | 28, _ => exact zcw_28
  | 29, _ => exact zcw_29
  | 30, _ => exact zcw_30
  | 31, _ => exact zcw_31
  | 32, _ => exact zcw_32
  | 33, _ => exact zcw_33
  | 34, _ => exact zcw_34
  | 35, _ => exact zcw_35
  | 36, _ => exact zcw_36
  | 37, _ => exact zcw_37
  | 38, _ => exact zcw_38
  | 39, _ => exact zcw_39
  | 40, _ => exact zcw_40
  | 41, _ => exact zcw_41
  | 42, _ => exact zcw_42
  | 43, _ => exact zcw_43
  | 44, _ => exact zcw_44
  | 45, _ => exact zcw_45
  | 46, _ => exact zcw_46
  | 47, _ => exact zcw_47
  | 48, _ => exact zcw_48
  | 49, _ => exact zcw_49
  | 50, _ => exact zcw_50
  | 51, _ => exact zcw_51
  | 52, _ => exact zcw_52
  | 53, _ => exact zcw_53
  | 54, _ => exact zcw_54
  | 55, _ => exact zcw_55
  | 56, _ => exact zcw_56
  | 57, _ => exact zcw_57
  | 58, _ => exact zcw_58
  | 59, _ => exact zcw_59
  | 60, _ => exact zcw_60
  | 61, _ => exact zcw_61
  | 62, _ => exact zcw_62
  | 63, _ => exact zcw_63
  | 64, _ => exact zcw_64
  | 65, _ => exact zcw_65
  | 66, _ => exact zcw_66
  | 67, _ => exact zcw_67
  | 68, _ => exact zcw_68
  | 69, _ => exact zcw_69
  | 70, _ => exact zcw_70
  | 71, _ => exact zcw_71
  | 72, _ => exact zcw_72
  | 73, _ => exact zcw_73
  | 74, _ => exact zcw_74
  | 75, _ => exact zcw_75
  | 76, _ => exact zcw_76
  | 77, _ => exact zcw_77
  | 78, _ => exact zcw_78
  | 79, _ => exact zcw_79
  | 80, _ => exact zcw_80
  | 81, _ => exact zcw_81
  | 82, _ => exact zcw_82
  | 83, _ => exact zcw_83
  | 84, _ => exact zcw_84
  | 85, _ => exact zcw_85
  | 86, _ => exact zcw_86
  | 87, _ => exact zcw_87
  | 88, _ => exact zcw_88
  | 89, _ => exact zcw_89
  | 90, _ => exact zcw_90
  | 91, _ => exact zcw_91
  | 92, _ => exact zcw_92
  | 93, _ => exact zcw_93
  | 94, _ => exact zcw_94
  | 95, _ => exact zcw_95
  | 96, _ => exact zcw_96
  | 97, _ => exact zcw_97
  | 98, _ => exact zcw_98
  | 99, _ => exact zcw_99
  | 100, _ => exact zcw_100
  | 101, _ => exact zcw_101
  | 102, _ => exact zcw_102
  | 103, _ => exact zcw_103
  | 104, _ => exact zcw_104
  | 105, _ => exact zcw_105
  | 106, _ => exact zcw_106
  | 107, _ => exact zcw_107
  | 108, _ => exact zcw_108
  | 109, _ => exact zcw_109
  | 110, _ => exact zcw_110
  | 111, _ => exact zcw_111
  | 112, _ => exact zcw_112
  | 113, _ => exact zcw_113
  | 114, _ => exact zcw_114
  | 115, _ => exact zcw_115
  | 116, _ => exact zcw_116
  | 117, _ => exact zcw_117
  | 118, _ => exact zcw_118
  | 119, _ => exact zcw_119
  | 120, _ => exact zcw_120
  | 121, _ => exact zcw_121
  | 122, _ => exact zcw_122
  | 123, _ => exact zcw_123
  | 124, _ => exact zcw_124
  | 125, _ => exact zcw_125
  | 126, _ => exact zcw_126
  | 127, _ => exact zcw_127
  | 128, _ => exact zcw_128
  | 129, _ => exact zcw_129
  | 130, _ => exact zcw_130
  | 131, _ => exact zcw_131
  | 132, _ => exact zcw_132
  | 133, _ => exact zcw_133
  | 134, _ => exact zcw_134
  | 135, _ => exact zcw_135
  | 136, _ => exact zcw_136
  | 137, _ => exact zcw_137
  | 138, _ => exact zcw_138
  | 139, _ => exact zcw_139
  | 140, _ => exact zcw_140
  | 141, _ => exact zcw_141
  | 142, _ => exact zcw_142
  | 143, _ => exact zcw_143
  | 144, _ => exact zcw_144
  | 145, _ => exact zcw_145
  | 146, _ => exact zcw_146
  | 147, _ => exact zcw_147
  | 148, _ => exact zcw_148
  | 149, _ => exact zcw_149
  | 150, _ => exact zcw_150
  | 151, _ => exact zcw_151
  | 152, _ => exact zcw_152
  | 153, _ => exact zcw_153
  | 154, _ => exact zcw_154
  | 155, _ => exact zcw_155
  | 156, _ => exact zcw_156
  | 157, _ => exact zcw_157
  | 158, _ => exact zcw_158
  | 159, _ => exact zcw_159
  | 160, _ => exact zcw_160
  | 161, _ => exact zcw_161
  | 162, _ => exact zcw_162
  | 163, _ => exact zcw_163
  | 164, _ => exact zcw_164
  | 165, _ => exact zcw_165
  | k + 166, h => exact absurd h (by omega)
def zsta (k : Nat) : Bool := ([false, false, false, false, false, false, false, false, false, false, false, false, false, false, false, false, false, false, false, false, false, false, false, false, false, false, false, false, false, false, false, false, false, false, false, false, false, false, false, false, false, false, false, false, false, false, false, false, false, false, false, false, false, false, true, false, false, false, false, false, false, false, false, false, false, false, false, false, false, false, false, false, false, false, false, false, false, false, false, false, false, false, false, false, false, false, false, false, false, false, false, false, false, false, false, false, true, false, true, false, false, false, false, false, false, false, false, false, false, false, false, false, false, false, false, false, false, false, false, false, false, false, false, false, false, false, false, false, false, false, false, false, false, false, false, false, false, false, false, false, false, false, false, false, false, false, false, false, false, false, false, false, false, false, false, false, false, false, false, false, false, false, false, false, true, true] : List Bool).getD k false
def znw (k : Nat) : Cond := if zsta k then .static (zy k) else .instanceMethod (zy k)
theorem znw_a0 : zat [106, 364, 557, 571, 608, 767, 771, 377, 381, 373, 389, 399, 403, 26, 471, 534, 522, 488, 544, 368, 583, 579, 384, 492, 762, 177, 526, 779, 531, 194, 467, 477, 509, 513, 485, 505, 497, 501, 481, 323, 410, 716, 746, 751, 721, 736, 740, 728, 732, 226, 604, 629, 633, 641, 613, 617, 281, 406, 684, 700] (((zks.drop 0).take 60).map znw) = true := by decide +kernel
theorem znw_a1 : zat [706, 691, 695, 254, 655, 662, 668, 18, 451, 459, 463, 540, 552, 562, 567, 575, 587, 591, 595, 600, 621, 637, 671, 675, 680, 712, 754, 758, 775, 783, 787, 456, 361, 549, 626, 649, 652, 799, 984, 988, 980, 991, 1004, 1028, 1012, 1024, 1032, 1016, 1020, 1008, 1040, 1036, 1000, 995, 1048, 1044, 1051, 808, 804, 1144] (((zks.drop 60).take 60).map znw) = true := by decide +kernel
theorem znw_a2 : zat [1140, 1080, 1092, 1060, 1068, 1088, 1055, 1063, 1071, 1075, 1096, 1083, 1104, 1099, 1107, 1116, 1111, 1128, 1124, 1136, 1119, 1148, 1131, 1156, 1151, 1159, 1163, 1172, 1184, 1176, 1180, 1167, 1193, 1197, 1201, 1188, 1204, 1221, 1217, 1213, 1208, 1229, 1224, 1232, 516, 392] (((zks.drop 120).take 60).map znw) = true := by decide +kernel
theorem znw_in : ∀ k, k < 166 → znw k ∈ zwl := by
  intro k hk
  rcases Nat.lt_or_ge k 60 with h | h
  · exact zat_ok znw_a0 _ (List.mem_map_of_mem (zk_mem k 0 h (by omega) hk))
  · rcases Nat.lt_or_ge k 120 with h2 | h2
    · exact zat_ok znw_a1 _ (List.mem_map_of_mem (zk_mem k 60 h2 h hk))
    · exact zat_ok znw_a2 _ (List.mem_map_of_mem (zk_mem k 120 (by omega) h2 hk))
def zinw (c : Nat) : Cond := .initialized (zcnm c)
theorem zinw_a : zat [3, 2, 4, 5, 9, 6, 8, 7, 1, 12, 13, 10] ((List.range 12).map zinw) = true := by decide +kernel
theorem zinw_in : ∀ c, c < 12 → zinw c ∈ zwl := fun c h => zat_ok zinw_a _ (List.mem_map_of_mem (List.mem_range.mpr h))
def zsw_ (k : Nat) : Cond := .selects (zy k).cls (zy k) (zy k)
def zst : List Nat := [1, 2, 3, 4, 5, 6, 14, 15, 16, 17, 18, 19, 20, 21, 22, 23, 24, 26, 27, 30, 40, 41, 42, 50, 51, 52, 53, 57, 58, 64, 68, 69, 70, 71, 72, 73, 74, 75, 76, 77, 78, 79, 80, 81, 82, 83, 84, 85, 86, 87, 88, 89, 90, 100, 101, 113, 116, 126, 127, 128, 129, 131, 133, 134, 136, 140, 142, 144, 145, 146, 151, 155, 156, 160, 162, 163]
def zsp : List Nat := [7, 8, 9, 10, 11, 12, 28, 31, 32, 33, 34, 35, 36, 37, 38, 43, 44, 45, 46, 47, 48, 55, 59, 60, 61, 62, 65, 66, 91, 92, 93, 94, 95, 99, 102, 103, 104, 105, 106, 107, 108, 109, 110, 111, 112, 114, 115, 117, 118, 119, 120, 121, 122, 123, 124, 125, 130, 132, 135, 137, 138, 139, 141, 143, 147, 148, 149, 150, 152, 153, 154, 157, 158, 159, 161]
theorem zst_a : zat [365, 558, 572, 609, 768, 772, 472, 535, 523, 489, 545, 369, 584, 580, 385, 493, 763, 527, 780, 468, 411, 717, 747, 605, 630, 634, 642, 407, 685, 656, 452, 460, 464, 541, 553, 563, 568, 576, 588, 592, 596, 601, 622, 638, 672, 676, 681, 713, 755, 759, 776, 784, 788, 981, 992, 996, 1052, 1056, 1064, 1072, 1076, 1084, 1100, 1108, 1112, 1120, 1132, 1152, 1160, 1164, 1168, 1189, 1205, 1209, 1225, 1233] (zst.map zsw_) = true := by decide +kernel
def zpv (ps ks : List Nat) : Bool := match ps, ks with
  | [], [] => true
  | p :: ps, k :: ks => decide ((lw_privs[p]?).map (fun q => q.1) = some (zy k)) && zpv ps ks
  | _, _ => false
theorem zpv_ok : ∀ {ps ks : List Nat}, zpv ps ks = true → ∀ k ∈ ks, zsw_ k ∈ zwl
  | [], [], _, _, h => by cases h
  | p :: ps, k :: ks, h, v, hv => by
    simp only [zpv, Bool.and_eq_true, decide_eq_true_eq] at h
    rcases List.mem_cons.mp hv with rfl | hv
    · obtain ⟨q, h1, h2⟩ := Option.map_eq_some_iff.mp h.1
      refine List.mem_filter.mpr ⟨List.mem_append_left _ (List.mem_map.mpr ⟨q, List.mem_of_getElem? h1, ?_⟩), rfl⟩
      rw [h2]; rfl
    · exact zpv_ok h.2 v hv
  | [], _ :: _, h, _, _ => by cases h
  | _ :: _, [], h, _, _ => by cases h
theorem zsp_a : zpv [2, 3, 1, 4, 5, 6, 16, 8, 14, 15, 10, 13, 11, 12, 9, 32, 27, 30, 31, 28, 29, 18, 25, 26, 23, 24, 21, 22, 7, 0, 17, 19, 20, 35, 37, 43, 39, 42, 44, 40, 41, 38, 46, 45, 36, 48, 47, 34, 33, 61, 60, 51, 53, 49, 50, 52, 54, 55, 56, 58, 57, 59, 62, 63, 64, 67, 65, 66, 68, 69, 70, 73, 72, 71, 74] zsp = true := by decide +kernel
def zTN : List (u_T × Nat × String) := [(TX0, 15, RX0), (TX1, 12, RX1), (TX2, 2, RX2), (TX3, 7, RX3), (TX4, 9, RX4), (TX5, 5, RX5), (TX6, 9, RX6), (TX7, 5, RX7), (TX8, 12, RX8), (TX9, 56, RX9)]
theorem zlay_0 : ∀ w ∈ u_ws RX0 TX0 15, w ∈ zwl := zat_ok (ps := [143, 145, 147, 149, 151, 153, 155, 157, 159, 161, 163, 165, 167, 169, 171]) (by decide +kernel)
theorem zlay_1 : ∀ w ∈ u_ws RX1 TX1 12, w ∈ zwl := zat_ok (ps := [77, 79, 81, 83, 85, 87, 89, 91, 93, 95, 97, 99]) (by decide +kernel)
theorem zlay_2 : ∀ w ∈ u_ws RX2 TX2 2, w ∈ zwl := zat_ok (ps := [186, 188]) (by decide +kernel)
theorem zlay_3 : ∀ w ∈ u_ws RX3 TX3 7, w ∈ zwl := zat_ok (ps := [208, 210, 212, 214, 216, 218, 220]) (by decide +kernel)
theorem zlay_4 : ∀ w ∈ u_ws RX4 TX4 9, w ∈ zwl := zat_ok (ps := [340, 342, 344, 346, 348, 350, 352, 354, 356]) (by decide +kernel)
theorem zlay_5 : ∀ w ∈ u_ws RX5 TX5 5, w ∈ zwl := zat_ok (ps := [240, 242, 244, 246, 248]) (by decide +kernel)
theorem zlay_6 : ∀ w ∈ u_ws RX6 TX6 9, w ∈ zwl := zat_ok (ps := [301, 303, 305, 307, 309, 311, 313, 315, 317]) (by decide +kernel)
theorem zlay_7 : ∀ w ∈ u_ws RX7 TX7 5, w ∈ zwl := zat_ok (ps := [267, 269, 271, 273, 275]) (by decide +kernel)
theorem zlay_8 : ∀ w ∈ u_ws RX8 TX8 12, w ∈ zwl := zat_ok (ps := [425, 427, 429, 431, 433, 435, 437, 439, 441, 443, 445, 447]) (by decide +kernel)
theorem zlay_9 : ∀ w ∈ u_ws RX9 TX9 56, w ∈ zwl := zat_ok (ps := [866, 868, 870, 872, 874, 876, 878, 880, 882, 884, 886, 888, 890, 892, 894, 896, 898, 900, 902, 904, 906, 908, 910, 912, 914, 916, 918, 920, 922, 924, 926, 928, 930, 932, 934, 936, 938, 940, 942, 944, 946, 948, 950, 952, 954, 956, 958, 960, 962, 964, 966, 968, 970, 972, 974, 976]) (by decide +kernel)
theorem zinst : zat [104, 24, 175, 192, 321, 224, 279, 252, 16, 797] ((List.range 10).map (fun c => Cond.instantiable (zcnm c) (znf c))) = true := by decide +kernel
theorem zinst_in : ∀ c, c < 10 → Cond.instantiable (zcnm c) (znf c) ∈ zwl := fun c h => zat_ok zinst _ (List.mem_map_of_mem (f := fun c => Cond.instantiable (zcnm c) (znf c)) (List.mem_range.mpr h))
theorem zOI_a : zat [108, 28, 179, 196, 325, 228, 283, 256, 20, 801] (zOI.map (fun e => Cond.methodLink (zcnm e.1) e.2 objectInit)) = true := by decide +kernel
theorem zAC_a : zat [394, 537] (zAC.map (fun e => Cond.methodLink (zcnm e.1) e.2 arraycopyName)) = true := by decide +kernel
theorem zAB_a : zat [644] (zAB.map (fun e => Cond.methodLink (zcnm e.1) e.2 Lib.Math.abs.name)) = true := by decide +kernel
theorem zCK_a : zat [180, 197, 326, 284, 286, 257, 23, 103, 174, 191, 223, 251, 278, 320] (zCK.map (fun e => Cond.classLink (zcnm e.1) e.2.1 (zcnm e.2.2))) = true := by decide +kernel
theorem zCI_a : zat [697, 678, 518, 519, 520] (zCI.map (fun e => Cond.constant (zcnm e.1) e.2.1 (Int32.ofInt e.2.2))) = true := by decide +kernel
theorem zCJ_a : zat [790, 791, 1186, 1235, 1236] (zCJ.map (fun e => Cond.constantLong (zcnm e.1) e.2.1 (Int64.ofInt e.2.2))) = true := by decide +kernel
theorem zmi_0 : Cond.instanceMethod objectInit ∈ zwl := zwl_at 21 (by decide +kernel) (by decide +kernel)
theorem zmi_1 : Cond.code objectInit ⟨#[0xb1]⟩ 1 none ∈ zwl := zwl_at 22 (by decide +kernel) (by decide +kernel)
theorem zmi_2 : Cond.static arraycopyName ∈ zwl := zwl_at 395 (by decide +kernel) (by decide +kernel)
theorem zmi_3 : Cond.native arraycopyName ∈ zwl := zwl_at 396 (by decide +kernel) (by decide +kernel)
theorem zmi_4 : Cond.initialized "java/lang/System" ∈ zwl := zwl_at 11 (by decide +kernel) (by decide +kernel)
theorem zmi_5 : Cond.arrayClass .int ∈ zwl := zwl_at 102 (by decide +kernel) (by decide +kernel)
theorem zmi_6 : Cond.static Lib.Math.abs.name ∈ zwl := zwl_at 645 (by decide +kernel) (by decide +kernel)
theorem zmi_7 : Cond.initialized "java/lang/Math" ∈ zwl := zwl_at 14 (by decide +kernel) (by decide +kernel)
theorem zmi_8 : Cond.code Lib.Math.abs.name Lib.Math.abs.code 1 (some .int) ∈ zwl := zwl_at 646 (by decide +kernel) (by decide +kernel)
def zMw (e : Nat × Nat × Nat × Nat × Nat) : Cond := if e.2.2.2.2 < 3 then .methodLink (zcnm e.1) e.2.1 (zy e.2.2.1) else .methodLinkNest (zcnm e.1) e.2.1 (zy e.2.2.1) "TieOffice"
def zML0 : List (Nat × Nat × Nat × Nat × Nat) := zML.filter (fun e => e.2.2.2.2 < 3)
theorem zML_a0 : zat [176, 359, 454, 466, 525, 538, 543, 547, 555, 556, 560, 565, 363, 570, 578, 598, 603, 624, 632, 640, 647, 654, 683, 715, 745, 761, 765, 766, 770, 778, 792, 793, 794, 795, 405, 409, 628, 651, 367, 371, 375, 387, 397, 611, 401, 379, 383, 391, 474, 582] (((zML0.drop 0).take 50).map zMw) = true := by decide +kernel
theorem zML_a1 : zat [529, 533, 470, 475, 521, 479, 483, 507, 487, 511, 495, 499, 515, 491, 503, 719, 725, 726, 730, 734, 742, 749, 723, 724, 738, 743, 744, 607, 612, 615, 619, 687, 688, 689, 698, 702, 703, 704, 693, 709, 710, 658, 659, 660, 664, 665, 666, 802, 983, 986] (((zML0.drop 50).take 50).map zMw) = true := by decide +kernel
theorem zML_a2 : zat [1002, 1026, 1010, 1022, 1014, 1018, 1038, 1006, 1030, 1034, 998, 1042, 1046, 806, 1142, 1058, 1066, 1078, 1086, 1090, 1094, 1102, 1114, 1126, 1122, 1138, 1134, 1146, 1154, 1182, 1174, 1170, 1178, 1191, 1195, 1199, 1215, 1219, 1211, 1227, 1237, 1238] (((zML0.drop 100).take 50).map zMw) = true := by decide +kernel
def zNW : List Cond := (zML.filter (fun e => ¬ e.2.2.2.2 < 3)).map zMw
theorem zNW_a : (zNW.zip [25, 105, 193, 225, 253, 280, 322, 182, 198, 327, 285, 287, 708, 258]).all (fun e => decide (tables_1[e.2]? = some e.1)) = true := by decide +kernel
