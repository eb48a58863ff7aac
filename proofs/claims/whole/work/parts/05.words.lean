/-! ===== BEGIN printed by a program of ours: which words of the tables the rows of code rest on ===== -/
def zm_tb (k : Nat) : List Cond := match k with
  | 0 => k2_sels lw_privs
  | 1 => tables_1_1
  | 2 => tables_1_2
  | 3 => tables_1_3
  | 4 => tables_1_4
  | 5 => tables_1_5
  | 6 => tables_1_6
  | 7 => tables_1_7
  | 8 => tables_1_8
  | _ => tables_1_9
theorem zm_tb_in {k : Nat} {w : Cond} (h : w ∈ zm_tb k) : w ∈ lw_tbl := by
  have key : w ∈ k2_sels lw_privs ∨ w ∈ tables_1 := by
    unfold zm_tb at h
    unfold tables_1
    simp only [List.mem_append]
    split at h <;> simp [h]
  unfold lw_tbl
  exact List.mem_append.mpr key
theorem zm_tb_at {k i : Nat} {w : Cond} (h : (zm_tb k)[i]? = some w) : w ∈ lw_tbl := zm_tb_in (List.mem_of_getElem? h)
def zm_GW : List Cond := lw_tbl.filter goodWord
def zm_ct (c : Nat) : vw_C := vwCl.getD c (RX0, TX0, 0)
def zm_fd (c k : Nat) : String × String × String × Bool := (zm_ct c).2.1 k
def zm_fw (o i c k z : Nat) : Cond := if z = 0 then .fieldLink (zm_cn o) i (zm_fd c k).1 (zm_fd c k).2.1 (zm_fd c k).2.2.1 else .fieldLinkNest (zm_cn o) i (zm_fd c k).1 (zm_fd c k).2.1 (zm_fd c k).2.2.1 "NoddingRafts"
abbrev zm_FP : Type := Nat × Nat × Nat × Nat × Nat × Nat
def zm_fpk (o : Nat) (q : zm_FP) : Prop := (zm_tb q.2.2.2.2.1)[q.2.2.2.2.2]? = some (zm_fw o q.1 q.2.1 q.2.2.1 q.2.2.2.1) ∧ (q.2.2.2.1 = 0 → goodWord (zm_fw o q.1 q.2.1 q.2.2.1 q.2.2.2.1) = true) ∧ (zm_fd q.2.1 q.2.2.1).1 = (zm_ct q.2.1).1 ∧ q.2.2.1 < zm_nf q.2.1 ∧ q.2.1 < 12
def zf_0 : List zm_FP := [(12, 0, 1, 0, 2, 228), (16, 0, 0, 0, 2, 227)]
set_option maxRecDepth 100000 in
theorem zf_0_ok : ∀ q ∈ zf_0, zm_fpk 0 q := by unfold zm_fpk; decide +kernel
def zf_1 : List zm_FP := [(9, 1, 5, 0, 2, 12), (15, 1, 6, 0, 2, 14), (18, 1, 7, 0, 2, 15), (21, 1, 8, 0, 2, 16), (24, 1, 9, 0, 2, 17), (27, 1, 10, 0, 2, 18), (30, 1, 11, 0, 2, 20), (33, 1, 12, 0, 2, 22), (36, 1, 13, 0, 2, 24), (39, 1, 14, 0, 2, 25), (42, 1, 15, 0, 2, 26), (45, 1, 16, 0, 2, 28), (48, 1, 0, 0, 2, 5), (52, 1, 1, 0, 2, 7), (56, 1, 2, 0, 2, 8), (66, 1, 3, 0, 2, 9), (70, 1, 4, 0, 2, 11), (84, 4, 4, 1, 1, 179), (89, 4, 5, 1, 1, 182), (92, 4, 6, 1, 1, 184), (95, 4, 7, 1, 1, 186), (98, 4, 8, 1, 1, 188), (105, 4, 9, 1, 1, 190), (141, 4, 0, 1, 1, 168), (152, 4, 1, 1, 1, 172), (176, 9, 2, 1, 1, 222), (182, 9, 3, 1, 1, 225), (229, 4, 3, 1, 1, 177), (238, 4, 2, 1, 1, 175)]
set_option maxRecDepth 100000 in
theorem zf_1_ok : ∀ q ∈ zf_1, zm_fpk 1 q := by unfold zm_fpk; decide +kernel
def zf_2 : List zm_FP := [(11, 2, 4, 0, 2, 172), (15, 2, 5, 0, 2, 173), (18, 2, 6, 0, 2, 174), (21, 2, 8, 0, 2, 177), (24, 2, 10, 0, 2, 179), (27, 2, 12, 0, 2, 181), (30, 2, 13, 0, 2, 182), (33, 2, 15, 0, 2, 185), (36, 2, 0, 0, 2, 167), (40, 2, 1, 0, 2, 168), (44, 2, 2, 0, 2, 169), (48, 2, 3, 0, 2, 170), (52, 2, 7, 0, 2, 175), (61, 2, 9, 0, 2, 178), (64, 1, 0, 1, 2, 6), (70, 4, 0, 1, 1, 167), (75, 1, 5, 1, 2, 13), (78, 2, 11, 0, 2, 180), (87, 2, 14, 0, 2, 183), (127, 9, 2, 1, 1, 221), (133, 9, 3, 1, 1, 224)]
set_option maxRecDepth 100000 in
theorem zf_2_ok : ∀ q ∈ zf_2, zm_fpk 2 q := by unfold zm_fpk; decide +kernel
def zf_3 : List zm_FP := [(11, 3, 3, 0, 2, 75), (15, 3, 4, 0, 2, 76), (18, 3, 5, 0, 2, 77), (21, 3, 6, 0, 2, 78), (24, 3, 7, 0, 2, 79), (27, 3, 8, 0, 2, 80), (30, 3, 9, 0, 2, 81), (33, 3, 10, 0, 2, 82), (36, 3, 0, 0, 2, 72), (40, 3, 1, 0, 2, 73), (44, 3, 2, 0, 2, 74)]
set_option maxRecDepth 100000 in
theorem zf_3_ok : ∀ q ∈ zf_3, zm_fpk 3 q := by unfold zm_fpk; decide +kernel
def zf_4 : List zm_FP := [(9, 4, 1, 0, 1, 170), (15, 4, 2, 0, 1, 173), (18, 4, 3, 0, 1, 176), (21, 4, 5, 0, 1, 181), (24, 4, 6, 0, 1, 183), (27, 4, 7, 0, 1, 185), (30, 4, 8, 0, 1, 187), (33, 4, 9, 0, 1, 189), (36, 4, 0, 0, 1, 166), (40, 4, 4, 0, 1, 178)]
set_option maxRecDepth 100000 in
theorem zf_4_ok : ∀ q ∈ zf_4, zm_fpk 4 q := by unfold zm_fpk; decide +kernel
def zf_5 : List zm_FP := [(11, 5, 3, 0, 2, 116), (15, 5, 4, 0, 2, 117), (18, 5, 6, 0, 2, 119), (21, 5, 7, 0, 2, 120), (24, 5, 8, 0, 2, 121), (27, 5, 9, 0, 2, 122), (30, 5, 10, 0, 2, 123), (33, 5, 11, 0, 2, 124), (36, 5, 14, 0, 2, 128), (39, 5, 0, 0, 2, 112), (43, 5, 1, 0, 2, 113), (47, 5, 2, 0, 2, 114), (51, 5, 5, 0, 2, 118), (78, 5, 12, 0, 2, 125), (81, 5, 13, 0, 2, 127)]
set_option maxRecDepth 100000 in
theorem zf_5_ok : ∀ q ∈ zf_5, zm_fpk 5 q := by unfold zm_fpk; decide +kernel
def zf_6 : List zm_FP := [(13, 6, 1, 0, 1, 130), (17, 6, 2, 0, 1, 131), (20, 6, 3, 0, 1, 132), (23, 6, 5, 0, 1, 134), (26, 6, 6, 0, 1, 135), (29, 6, 7, 0, 1, 136), (32, 6, 8, 0, 1, 137), (35, 6, 0, 0, 1, 128), (39, 8, 7, 1, 1, 89), (44, 8, 8, 1, 1, 90), (53, 8, 9, 1, 1, 93), (54, 8, 10, 1, 1, 95), (55, 6, 4, 0, 1, 133), (88, 6, 9, 0, 1, 138)]
set_option maxRecDepth 100000 in
theorem zf_6_ok : ∀ q ∈ zf_6, zm_fpk 6 q := by unfold zm_fpk; decide +kernel
def zf_7 : List zm_FP := [(9, 7, 2, 0, 1, 44), (15, 7, 3, 0, 1, 45), (18, 7, 4, 0, 1, 46), (21, 7, 5, 0, 1, 47), (24, 7, 6, 0, 1, 48), (27, 7, 7, 0, 1, 49), (30, 7, 8, 0, 1, 50), (33, 7, 9, 0, 1, 51), (42, 7, 0, 0, 1, 40), (46, 7, 1, 0, 1, 42)]
set_option maxRecDepth 100000 in
theorem zf_7_ok : ∀ q ∈ zf_7, zm_fpk 7 q := by unfold zm_fpk; decide +kernel
def zf_8 : List zm_FP := [(11, 8, 0, 0, 1, 80), (15, 8, 7, 0, 1, 88), (19, 8, 9, 0, 1, 92), (22, 8, 10, 0, 1, 94), (25, 8, 1, 0, 1, 81), (29, 8, 2, 0, 1, 83), (32, 8, 3, 0, 1, 84), (35, 8, 8, 0, 1, 91), (47, 8, 4, 0, 1, 85), (88, 8, 6, 0, 1, 87), (92, 8, 5, 0, 1, 86)]
set_option maxRecDepth 100000 in
theorem zf_8_ok : ∀ q ∈ zf_8, zm_fpk 8 q := by unfold zm_fpk; decide +kernel
def zf_9 : List zm_FP := [(9, 9, 1, 0, 1, 219), (15, 9, 2, 0, 1, 220), (18, 9, 3, 0, 1, 223), (21, 9, 4, 0, 1, 226), (24, 9, 0, 0, 1, 218), (59, 4, 2, 1, 1, 174), (73, 4, 1, 1, 1, 171)]
set_option maxRecDepth 100000 in
theorem zf_9_ok : ∀ q ∈ zf_9, zm_fpk 9 q := by unfold zm_fpk; decide +kernel
def zf_10 : List zm_FP := [(8, 10, 1, 0, 2, 236), (14, 10, 2, 0, 2, 237), (20, 10, 3, 0, 2, 238), (27, 10, 4, 0, 2, 239), (34, 10, 5, 0, 3, 0), (41, 10, 6, 0, 3, 1), (50, 10, 7, 0, 3, 2), (59, 10, 8, 0, 3, 3), (63, 10, 9, 0, 3, 4), (71, 10, 12, 0, 3, 7), (80, 10, 13, 0, 3, 8), (89, 10, 14, 0, 3, 9), (96, 10, 15, 0, 3, 10), (107, 10, 0, 0, 2, 235), (149, 8, 1, 1, 1, 82), (164, 6, 0, 1, 1, 129), (209, 4, 4, 1, 1, 180), (232, 1, 15, 1, 2, 27), (236, 1, 16, 1, 2, 29), (266, 5, 2, 1, 2, 115), (278, 5, 12, 1, 2, 126), (281, 5, 14, 1, 2, 129), (287, 2, 7, 1, 2, 176), (299, 2, 14, 1, 2, 184), (302, 2, 15, 1, 2, 186), (305, 1, 12, 1, 2, 23), (311, 1, 11, 1, 2, 21), (314, 1, 10, 1, 2, 19), (324, 4, 0, 1, 1, 169), (327, 7, 0, 1, 1, 41), (330, 7, 1, 1, 1, 43), (333, 2, 3, 1, 2, 171), (336, 0, 1, 1, 2, 229), (351, 10, 10, 0, 3, 5), (354, 10, 11, 0, 3, 6), (360, 1, 3, 1, 2, 10)]
set_option maxRecDepth 100000 in
theorem zf_10_ok : ∀ q ∈ zf_10, zm_fpk 10 q := by unfold zm_fpk; decide +kernel
def zf_11 : List zm_FP := [(9, 11, 0, 0, 6, 149), (13, 11, 6, 0, 6, 155), (17, 11, 10, 0, 6, 159), (20, 11, 11, 0, 6, 160), (23, 11, 13, 0, 6, 162), (26, 11, 14, 0, 6, 163), (29, 11, 16, 0, 6, 165), (32, 11, 17, 0, 6, 166), (35, 11, 18, 0, 6, 167), (38, 11, 19, 0, 6, 168), (41, 11, 21, 0, 6, 170), (44, 11, 22, 0, 6, 171), (47, 11, 25, 0, 6, 174), (50, 11, 26, 0, 6, 175), (53, 11, 27, 0, 6, 176), (56, 11, 29, 0, 6, 178), (59, 11, 30, 0, 6, 179), (62, 11, 31, 0, 6, 180), (65, 11, 32, 0, 6, 181), (68, 11, 34, 0, 6, 183), (71, 11, 35, 0, 6, 184), (74, 11, 36, 0, 6, 185), (77, 11, 38, 0, 6, 187), (80, 11, 39, 0, 6, 188), (83, 11, 40, 0, 6, 189), (86, 11, 42, 0, 6, 191), (89, 11, 43, 0, 6, 192), (92, 11, 44, 0, 6, 193), (95, 11, 45, 0, 6, 194), (98, 11, 46, 0, 6, 195), (102, 11, 47, 0, 6, 196), (106, 11, 48, 0, 6, 197), (109, 11, 49, 0, 6, 198), (112, 11, 50, 0, 6, 199), (115, 11, 51, 0, 6, 200), (118, 11, 52, 0, 6, 201), (121, 11, 53, 0, 6, 202), (125, 11, 54, 0, 6, 203), (128, 11, 55, 0, 6, 204), (131, 11, 56, 0, 6, 205), (134, 11, 57, 0, 6, 206), (137, 11, 58, 0, 6, 207), (140, 11, 59, 0, 6, 208), (143, 11, 60, 0, 6, 209), (146, 11, 61, 0, 6, 210), (149, 11, 62, 0, 6, 211), (152, 11, 63, 0, 6, 212), (155, 11, 64, 0, 6, 213), (158, 11, 65, 0, 6, 214), (162, 11, 66, 0, 6, 215), (165, 11, 67, 0, 6, 216), (168, 11, 68, 0, 6, 217), (171, 11, 69, 0, 6, 218), (174, 11, 70, 0, 6, 219), (177, 11, 71, 0, 6, 220), (180, 11, 73, 0, 6, 222), (183, 11, 74, 0, 6, 223), (186, 11, 76, 0, 6, 225), (190, 11, 78, 0, 6, 227), (193, 11, 82, 0, 6, 231), (196, 11, 83, 0, 6, 232), (199, 11, 84, 0, 6, 233), (202, 11, 85, 0, 6, 234), (205, 11, 86, 0, 6, 235), (208, 11, 89, 0, 6, 238), (211, 11, 90, 0, 6, 239), (214, 11, 91, 0, 7, 0), (217, 11, 92, 0, 7, 1), (220, 11, 93, 0, 7, 2), (223, 11, 94, 0, 7, 3), (226, 11, 95, 0, 7, 4), (229, 11, 96, 0, 7, 5), (242, 11, 33, 0, 6, 182), (249, 11, 24, 0, 6, 173), (252, 11, 23, 0, 6, 172), (255, 11, 28, 0, 6, 177), (258, 11, 79, 0, 6, 228), (261, 11, 80, 0, 6, 229), (264, 11, 81, 0, 6, 230), (272, 11, 1, 0, 6, 150), (287, 11, 2, 0, 6, 151), (290, 11, 4, 0, 6, 153), (293, 11, 5, 0, 6, 154), (296, 11, 3, 0, 6, 152), (309, 11, 7, 0, 6, 156), (312, 11, 12, 0, 6, 161), (318, 11, 8, 0, 6, 157), (358, 11, 9, 0, 6, 158), (374, 11, 15, 0, 6, 164), (377, 11, 20, 0, 6, 169), (391, 11, 37, 0, 6, 186), (404, 11, 41, 0, 6, 190), (443, 11, 88, 0, 6, 237), (453, 11, 87, 0, 6, 236), (491, 11, 72, 0, 6, 221), (503, 11, 75, 0, 6, 224), (509, 11, 77, 0, 6, 226)]
set_option maxRecDepth 100000 in
theorem zf_11_ok : ∀ q ∈ zf_11, zm_fpk 11 q := by unfold zm_fpk; decide +kernel
def zf_12 : List zm_FP := []
set_option maxRecDepth 100000 in
theorem zf_12_ok : ∀ q ∈ zf_12, zm_fpk 12 q := by unfold zm_fpk; decide +kernel
def zf_13 : List zm_FP := []
set_option maxRecDepth 100000 in
theorem zf_13_ok : ∀ q ∈ zf_13, zm_fpk 13 q := by unfold zm_fpk; decide +kernel
def zf_14 : List zm_FP := []
set_option maxRecDepth 100000 in
theorem zf_14_ok : ∀ q ∈ zf_14, zm_fpk 14 q := by unfold zm_fpk; decide +kernel
def zf_15 : List zm_FP := []
set_option maxRecDepth 100000 in
theorem zf_15_ok : ∀ q ∈ zf_15, zm_fpk 15 q := by unfold zm_fpk; decide +kernel
abbrev zm_KP : Type := Nat × Nat × Int32 × Nat × Nat
def zm_sw (i : Nat) : String := (["sink  rise  boat  pay   heightperiodway   power hold  size  day   spell ready or    and   not   ", "+-*/()[]<>=;", " sink rise boat pay height period way power hold size day spell ready or and not "] : List String).getD i ""
def zm_kw (o : Nat) (q : zm_KP) : Cond := if q.2.1 = 0 then .constant (zm_cn o) q.1 q.2.2.1 else if q.2.1 = 2 then .constantLong (zm_cn o) q.1 q.2.2.1.toInt64 else .stringRef (zm_cn o) q.1 (zm_sw q.2.2.1.toNatClampNeg)
def zm_kpk (o : Nat) (q : zm_KP) : Prop := (zm_tb q.2.2.2.1)[q.2.2.2.2]? = some (zm_kw o q) ∧ (¬ q.2.1 = 1 → goodWord (zm_kw o q) = true)
def zk_0 : List zm_KP := [(11, 0, 65535, 2, 226)]
set_option maxRecDepth 100000 in
theorem zk_0_ok : ∀ q ∈ zk_0, zm_kpk 0 q := by unfold zm_kpk; decide +kernel
def zk_1 : List zm_KP := [(232, 0, -100000, 5, 128), (233, 0, 100000, 5, 129), (237, 0, -2147483648, 5, 170)]
set_option maxRecDepth 100000 in
theorem zk_1_ok : ∀ q ∈ zk_1, zm_kpk 1 q := by unfold zm_kpk; decide +kernel
def zk_2 : List zm_KP := []
set_option maxRecDepth 100000 in
theorem zk_2_ok : ∀ q ∈ zk_2, zm_kpk 2 q := by unfold zm_kpk; decide +kernel
def zk_3 : List zm_KP := []
set_option maxRecDepth 100000 in
theorem zk_3_ok : ∀ q ∈ zk_3, zm_kpk 3 q := by unfold zm_kpk; decide +kernel
def zk_4 : List zm_KP := []
set_option maxRecDepth 100000 in
theorem zk_4_ok : ∀ q ∈ zk_4, zm_kpk 4 q := by unfold zm_kpk; decide +kernel
def zk_5 : List zm_KP := []
set_option maxRecDepth 100000 in
theorem zk_5_ok : ∀ q ∈ zk_5, zm_kpk 5 q := by unfold zm_kpk; decide +kernel
def zk_6 : List zm_KP := [(94, 0, 100000, 5, 1), (103, 0, -1000000, 5, 9), (104, 0, 1000000, 5, 10), (105, 2, -1000000, 5, 11), (107, 2, 1000000, 5, 12)]
set_option maxRecDepth 100000 in
theorem zk_6_ok : ∀ q ∈ zk_6, zm_kpk 6 q := by unfold zm_kpk; decide +kernel
def zk_7 : List zm_KP := []
set_option maxRecDepth 100000 in
theorem zk_7_ok : ∀ q ∈ zk_7, zm_kpk 7 q := by unfold zm_kpk; decide +kernel
def zk_8 : List zm_KP := [(69, 0, 100313, 4, 76), (76, 0, 100314, 4, 75), (77, 0, 100315, 4, 70), (81, 0, 100000, 3, 204), (91, 0, 99999, 4, 49), (108, 1, 1, 3, 206), (119, 1, 0, 3, 156)]
set_option maxRecDepth 100000 in
theorem zk_8_ok : ∀ q ∈ zk_8, zm_kpk 8 q := by unfold zm_kpk; decide +kernel
def zk_9 : List zm_KP := []
set_option maxRecDepth 100000 in
theorem zk_9_ok : ∀ q ∈ zk_9, zm_kpk 9 q := by unfold zm_kpk; decide +kernel
def zk_10 : List zm_KP := [(7, 0, 50000, 1, 30), (122, 0, -2147483648, 3, 73), (212, 0, 288000, 4, 197)]
set_option maxRecDepth 100000 in
theorem zk_10_ok : ∀ q ∈ zk_10, zm_kpk 10 q := by unfold zm_kpk; decide +kernel
def zk_11 : List zm_KP := [(101, 0, 50000, 6, 147), (189, 0, 65535, 6, 148), (232, 2, -1000000, 8, 177), (234, 0, -1000000, 8, 178), (235, 2, 1000000, 8, 179), (237, 0, 1000000, 8, 19), (267, 0, -2147483648, 7, 221), (275, 1, 2, 8, 13), (364, 0, 99999, 8, 56), (426, 0, 288000, 8, 142), (456, 0, -100000, 8, 200), (457, 0, 100000, 8, 201)]
set_option maxRecDepth 100000 in
theorem zk_11_ok : ∀ q ∈ zk_11, zm_kpk 11 q := by unfold zm_kpk; decide +kernel
def zk_12 : List zm_KP := []
set_option maxRecDepth 100000 in
theorem zk_12_ok : ∀ q ∈ zk_12, zm_kpk 12 q := by unfold zm_kpk; decide +kernel
def zk_13 : List zm_KP := []
set_option maxRecDepth 100000 in
theorem zk_13_ok : ∀ q ∈ zk_13, zm_kpk 13 q := by unfold zm_kpk; decide +kernel
def zk_14 : List zm_KP := [(265, 0, 1431655765, 6, 129), (266, 0, 858993459, 6, 130), (267, 0, 252645135, 6, 131)]
set_option maxRecDepth 100000 in
theorem zk_14_ok : ∀ q ∈ zk_14, zm_kpk 14 q := by unfold zm_kpk; decide +kernel
def zk_15 : List zm_KP := []
set_option maxRecDepth 100000 in
theorem zk_15_ok : ∀ q ∈ zk_15, zm_kpk 15 q := by unfold zm_kpk; decide +kernel
abbrev zm_LP : Type := Nat × Nat × Nat × Nat × Nat
def zm_xy (a : Nat) : MethodName := if a = 1000 then objectInit else if a = 1001 then arraycopyName else if a = 1002 then yJ0_charAt_5068e else if a = 1003 then yJ0_length_8abf5 else if a = 1004 then yJ0_indexOf_0f7a4 else if a = 1005 then Lib.Math.max.name else if a = 1006 then Lib.Math.min.name else if a = 1007 then Lib.Math.abs.name else if a = 1008 then Lib.MathLoose.max_long.x else if a = 1009 then Lib.MathLoose.min_long.x else zm_y a
def zm_lw (o : Nat) (q : zm_LP) : Cond := if q.2.2.1 = 0 then .methodLink (zm_cn o) q.1 (zm_xy q.2.1) else .methodLinkNest (zm_cn o) q.1 (zm_xy q.2.1) "NoddingRafts"
def zm_lpk (o : Nat) (q : zm_LP) : Prop := (zm_tb q.2.2.2.1)[q.2.2.2.2]? = some (zm_lw o q) ∧ (q.2.2.1 = 0 → goodWord (zm_lw o q) = true)
def zl_0 : List zm_LP := [(3, 1000, 0, 2, 225), (19, 2, 0, 6, 115), (23, 264, 0, 6, 126), (29, 1005, 0, 6, 132)]
set_option maxRecDepth 100000 in
theorem zl_0_ok : ∀ q ∈ zl_0, zm_lpk 0 q := by unfold zm_lpk; decide +kernel
def zl_1 : List zm_LP := [(3, 1000, 0, 2, 3), (60, 265, 0, 2, 4), (73, 11, 0, 4, 189), (77, 6, 0, 4, 160), (81, 7, 0, 4, 164), (101, 5, 0, 4, 180), (108, 9, 0, 4, 181), (112, 10, 0, 4, 185), (116, 8, 0, 5, 23), (119, 74, 1, 5, 24), (125, 13, 0, 5, 25), (128, 18, 0, 5, 49), (131, 22, 0, 5, 100), (134, 27, 0, 5, 124), (137, 72, 1, 5, 29), (144, 14, 0, 5, 30), (148, 15, 0, 5, 34), (155, 75, 1, 5, 47), (158, 76, 1, 5, 48), (161, 111, 1, 5, 57), (166, 112, 1, 5, 62), (169, 19, 0, 5, 53), (173, 113, 1, 5, 67), (179, 20, 0, 5, 90), (185, 1001, 0, 5, 99), (191, 1006, 0, 5, 98), (196, 21, 0, 5, 94), (199, 124, 1, 5, 104), (202, 127, 1, 5, 105), (205, 23, 0, 5, 106), (208, 25, 0, 5, 116), (211, 26, 0, 5, 120), (214, 24, 0, 5, 110), (217, 16, 0, 5, 38), (223, 17, 0, 5, 42), (226, 1005, 0, 5, 46), (234, 125, 1, 5, 130)]
set_option maxRecDepth 100000 in
theorem zl_1_ok : ∀ q ∈ zl_1, zm_lpk 1 q := by unfold zm_lpk; decide +kernel
def zl_2 : List zm_LP := [(3, 1000, 0, 2, 166), (55, 1006, 0, 6, 70), (81, 88, 1, 6, 75), (90, 39, 0, 6, 80), (94, 40, 0, 6, 84), (97, 41, 0, 6, 90), (100, 34, 0, 6, 88), (104, 6, 1, 6, 89), (107, 19, 1, 6, 94), (111, 112, 1, 6, 95), (117, 113, 1, 6, 96), (121, 114, 1, 6, 97), (124, 42, 0, 6, 98), (130, 20, 1, 6, 102)]
set_option maxRecDepth 100000 in
theorem zl_2_ok : ∀ q ∈ zl_2, zm_lpk 2 q := by unfold zm_lpk; decide +kernel
def zl_3 : List zm_LP := [(3, 1000, 0, 2, 70), (48, 265, 0, 2, 71), (54, 47, 0, 5, 143), (58, 73, 1, 4, 219), (64, 46, 0, 5, 135), (68, 55, 1, 5, 139), (74, 5, 1, 5, 140), (80, 56, 1, 5, 141), (84, 8, 1, 5, 142)]
set_option maxRecDepth 100000 in
theorem zl_3_ok : ∀ q ∈ zl_3, zm_lpk 3 q := by unfold zm_lpk; decide +kernel
def zl_4 : List zm_LP := [(3, 1000, 0, 1, 165)]
set_option maxRecDepth 100000 in
theorem zl_4_ok : ∀ q ∈ zl_4, zm_lpk 4 q := by unfold zm_lpk; decide +kernel
def zl_5 : List zm_LP := [(3, 1000, 0, 2, 111), (54, 88, 1, 6, 10), (60, 73, 1, 6, 11), (66, 1001, 0, 6, 24), (72, 62, 0, 6, 25), (75, 63, 0, 6, 29), (84, 66, 0, 6, 42), (88, 64, 0, 6, 33), (92, 67, 0, 6, 46), (96, 265, 0, 6, 37), (102, 65, 0, 6, 38)]
set_option maxRecDepth 100000 in
theorem zl_5_ok : ∀ q ∈ zl_5, zm_lpk 5 q := by unfold zm_lpk; decide +kernel
def zl_6 : List zm_LP := [(3, 1000, 0, 1, 125), (47, 266, 0, 4, 89), (58, 124, 1, 4, 228), (62, 126, 1, 4, 229), (65, 127, 1, 4, 230), (68, 72, 0, 4, 223), (72, 74, 0, 4, 224), (76, 75, 0, 4, 231), (80, 76, 0, 4, 235), (83, 1006, 0, 4, 239), (91, 1005, 0, 5, 0), (95, 77, 0, 5, 2), (99, 78, 0, 5, 6), (109, 1009, 0, 5, 13), (112, 1008, 0, 5, 16)]
set_option maxRecDepth 100000 in
theorem zl_6_ok : ∀ q ∈ zl_6, zm_lpk 6 q := by unfold zm_lpk; decide +kernel
def zl_7 : List zm_LP := [(3, 1000, 0, 1, 36), (36, 265, 0, 1, 37), (49, 83, 0, 3, 78), (53, 85, 0, 4, 214), (57, 86, 0, 3, 89), (61, 87, 0, 3, 93), (64, 124, 1, 3, 97), (68, 125, 1, 3, 100)]
set_option maxRecDepth 100000 in
theorem zl_7_ok : ∀ q ∈ zl_7, zm_lpk 7 q := by unfold zm_lpk; decide +kernel
def zl_8 : List zm_LP := [(5, 1000, 0, 1, 79), (38, 265, 0, 3, 140), (44, 93, 0, 3, 141), (50, 99, 0, 4, 29), (53, 100, 0, 4, 33), (56, 101, 0, 4, 37), (60, 106, 0, 4, 58), (63, 105, 0, 4, 54), (66, 107, 0, 4, 62), (70, 104, 0, 4, 50), (73, 108, 0, 4, 66), (78, 109, 0, 4, 71), (82, 102, 0, 4, 41), (85, 103, 0, 4, 45), (95, 94, 0, 3, 145), (99, 95, 0, 3, 148), (102, 97, 0, 3, 197), (105, 98, 0, 3, 200), (110, 1004, 0, 3, 207), (116, 96, 0, 3, 152), (121, 1002, 0, 3, 157), (125, 1006, 0, 3, 205)]
set_option maxRecDepth 100000 in
theorem zl_8_ok : ∀ q ∈ zl_8, zm_lpk 8 q := by unfold zm_lpk; decide +kernel
def zl_9 : List zm_LP := [(3, 1000, 0, 1, 217), (28, 265, 0, 5, 61), (34, 139, 1, 5, 66), (38, 124, 1, 5, 74), (42, 126, 1, 5, 75), (45, 114, 0, 5, 71), (48, 127, 1, 5, 76), (51, 115, 0, 5, 77), (55, 116, 0, 5, 82), (64, 1007, 0, 5, 86), (69, 1005, 0, 5, 89), (76, 136, 1, 5, 81)]
set_option maxRecDepth 100000 in
theorem zl_9_ok : ∀ q ∈ zl_9, zm_lpk 9 q := by unfold zm_lpk; decide +kernel
def zl_10 : List zm_LP := [(1, 1000, 0, 1, 27), (19, 79, 1, 1, 33), (26, 89, 1, 1, 76), (33, 68, 1, 1, 122), (40, 53, 1, 1, 162), (47, 110, 1, 1, 214), (56, 4, 1, 2, 0), (68, 43, 1, 2, 67), (77, 57, 1, 2, 108), (86, 32, 1, 2, 163), (95, 0, 1, 2, 222), (100, 119, 0, 3, 48), (104, 120, 0, 3, 51), (110, 80, 1, 3, 54), (114, 122, 0, 3, 62), (118, 81, 1, 3, 65), (123, 82, 1, 3, 74), (127, 84, 1, 3, 81), (130, 85, 1, 3, 85), (133, 124, 0, 3, 109), (136, 126, 0, 3, 110), (139, 127, 0, 3, 113), (142, 90, 1, 3, 120), (145, 91, 1, 3, 124), (152, 92, 1, 3, 136), (156, 69, 1, 4, 81), (160, 70, 1, 4, 85), (167, 71, 1, 4, 107), (171, 72, 1, 4, 115), (174, 54, 1, 4, 123), (177, 136, 0, 4, 131), (180, 33, 1, 4, 134), (183, 138, 0, 4, 142), (186, 139, 0, 4, 146), (189, 140, 0, 4, 149), (192, 55, 1, 4, 152), (195, 5, 1, 4, 156), (198, 34, 1, 4, 168), (202, 56, 1, 4, 172), (206, 8, 1, 4, 176), (213, 144, 0, 4, 206), (216, 28, 1, 5, 150), (219, 29, 1, 5, 154), (222, 147, 0, 5, 162), (225, 30, 1, 5, 166), (228, 149, 0, 5, 175), (239, 1005, 0, 3, 106), (244, 1006, 0, 3, 103), (247, 48, 1, 5, 199), (250, 155, 0, 5, 207), (253, 49, 1, 5, 210), (256, 50, 1, 5, 218), (260, 51, 1, 5, 226), (263, 58, 1, 5, 234), (269, 59, 1, 6, 6), (272, 60, 1, 6, 12), (275, 61, 1, 6, 20), (284, 35, 1, 6, 54), (290, 36, 1, 6, 66), (293, 37, 1, 6, 71), (296, 38, 1, 6, 76), (308, 88, 1, 4, 210), (317, 1, 1, 6, 111), (321, 3, 1, 6, 122), (339, 52, 1, 6, 137), (342, 44, 1, 4, 215), (345, 12, 1, 5, 19), (348, 45, 1, 5, 131), (357, 31, 1, 5, 179)]
set_option maxRecDepth 100000 in
theorem zl_10_ok : ∀ q ∈ zl_10, zm_lpk 10 q := by unfold zm_lpk; decide +kernel
def zl_11 : List zm_LP := [(1, 1000, 0, 6, 146), (238, 172, 0, 7, 210), (245, 171, 0, 7, 207), (268, 175, 0, 7, 222), (277, 1003, 0, 8, 14), (283, 1002, 0, 8, 15), (299, 181, 0, 8, 6), (302, 182, 0, 8, 9), (306, 183, 0, 8, 16), (315, 180, 0, 8, 2), (321, 184, 0, 8, 20), (325, 186, 0, 8, 28), (328, 187, 0, 8, 32), (331, 188, 0, 8, 36), (334, 189, 0, 8, 40), (337, 190, 0, 8, 44), (341, 191, 0, 8, 48), (345, 192, 0, 8, 52), (348, 194, 0, 8, 61), (352, 196, 0, 8, 69), (355, 197, 0, 8, 73), (361, 195, 0, 8, 65), (365, 193, 0, 8, 57), (368, 185, 0, 8, 24), (371, 179, 0, 7, 238), (380, 201, 0, 8, 89), (383, 222, 0, 8, 171), (387, 223, 0, 8, 174), (394, 212, 0, 8, 131), (397, 210, 0, 8, 123), (400, 211, 0, 8, 127), (407, 205, 0, 8, 105), (410, 206, 0, 8, 109), (413, 207, 0, 8, 112), (416, 208, 0, 8, 116), (419, 209, 0, 8, 119), (422, 213, 0, 8, 134), (427, 220, 0, 8, 163), (430, 219, 0, 8, 159), (433, 218, 0, 8, 155), (437, 221, 0, 8, 167), (440, 225, 0, 8, 184), (446, 226, 0, 8, 188), (450, 227, 0, 8, 192), (458, 228, 0, 8, 196), (461, 217, 0, 8, 151), (464, 224, 0, 8, 180), (467, 229, 0, 8, 202), (470, 230, 0, 8, 206), (473, 232, 0, 8, 213), (476, 234, 0, 8, 221), (479, 235, 0, 8, 225), (482, 237, 0, 8, 232), (485, 238, 0, 8, 236), (488, 244, 0, 9, 20), (494, 250, 0, 9, 43), (497, 253, 0, 9, 55), (500, 252, 0, 9, 51), (506, 257, 0, 9, 71), (512, 260, 0, 9, 83), (515, 262, 0, 9, 90)]
set_option maxRecDepth 100000 in
theorem zl_11_ok : ∀ q ∈ zl_11, zm_lpk 11 q := by unfold zm_lpk; decide +kernel
def zl_12 : List zm_LP := [(9, 117, 0, 1, 24), (12, 169, 0, 6, 143), (13, 118, 0, 3, 44), (17, 170, 0, 7, 203), (18, 121, 0, 3, 58), (22, 173, 0, 7, 213), (23, 123, 0, 3, 69), (26, 174, 0, 7, 217), (27, 128, 0, 3, 116), (31, 176, 0, 7, 226), (32, 129, 0, 3, 128), (36, 177, 0, 7, 230), (37, 130, 0, 3, 132), (41, 178, 0, 7, 234), (42, 131, 0, 4, 77), (45, 198, 0, 8, 77), (46, 132, 0, 4, 103), (49, 199, 0, 8, 81), (50, 133, 0, 4, 111), (53, 200, 0, 8, 85), (54, 134, 0, 4, 119), (57, 202, 0, 8, 93), (58, 135, 0, 4, 127), (61, 203, 0, 8, 97), (62, 137, 0, 4, 138), (65, 204, 0, 8, 101), (66, 141, 0, 4, 193), (69, 214, 0, 8, 138), (70, 142, 0, 4, 198), (73, 215, 0, 8, 143), (74, 143, 0, 4, 202), (78, 216, 0, 8, 147), (79, 145, 0, 5, 146), (82, 231, 0, 8, 209), (83, 146, 0, 5, 158), (86, 233, 0, 8, 217), (87, 148, 0, 5, 171), (90, 236, 0, 8, 228), (91, 150, 0, 5, 183), (94, 239, 0, 9, 0), (95, 151, 0, 5, 187), (98, 240, 0, 9, 4), (99, 152, 0, 5, 191), (103, 241, 0, 9, 8), (104, 153, 0, 5, 195), (107, 242, 0, 9, 12), (108, 154, 0, 5, 203), (111, 243, 0, 9, 16), (112, 156, 0, 5, 214), (115, 245, 0, 9, 23), (116, 157, 0, 5, 222), (119, 246, 0, 9, 27), (120, 158, 0, 5, 230), (123, 247, 0, 9, 31), (124, 159, 0, 5, 238), (127, 248, 0, 9, 35), (128, 160, 0, 6, 2), (131, 249, 0, 9, 39), (132, 161, 0, 6, 16), (135, 251, 0, 9, 47), (136, 162, 0, 6, 50), (139, 254, 0, 9, 59), (140, 163, 0, 6, 58), (143, 255, 0, 9, 63), (144, 164, 0, 6, 62), (147, 256, 0, 9, 67), (148, 165, 0, 6, 103), (151, 258, 0, 9, 75), (152, 166, 0, 6, 107), (156, 259, 0, 9, 79), (157, 167, 0, 6, 118), (160, 261, 0, 9, 86), (161, 168, 0, 6, 133), (164, 263, 0, 9, 93)]
set_option maxRecDepth 100000 in
theorem zl_12_ok : ∀ q ∈ zl_12, zm_lpk 12 q := by unfold zm_lpk; decide +kernel
def zl_13 : List zm_LP := []
set_option maxRecDepth 100000 in
theorem zl_13_ok : ∀ q ∈ zl_13, zm_lpk 13 q := by unfold zm_lpk; decide +kernel
def zl_14 : List zm_LP := []
set_option maxRecDepth 100000 in
theorem zl_14_ok : ∀ q ∈ zl_14, zm_lpk 14 q := by unfold zm_lpk; decide +kernel
def zl_15 : List zm_LP := [(150, 1001, 0, 4, 100), (304, 1006, 0, 4, 99)]
set_option maxRecDepth 100000 in
theorem zl_15_ok : ∀ q ∈ zl_15, zm_lpk 15 q := by unfold zm_lpk; decide +kernel
abbrev zm_NP : Type := Nat × Nat × Nat × Nat
def zm_nw (o : Nat) (q : zm_NP) : Cond := .classLink (zm_cn o) q.1 (if q.2.1 = 100 then "[I" else zm_cn q.2.1)
def zm_npk (o : Nat) (q : zm_NP) : Prop := (zm_tb q.2.2.1)[q.2.2.2]? = some (zm_nw o q) ∧ goodWord (zm_nw o q) = true
def zn_0 : List zm_NP := []
set_option maxRecDepth 100000 in
theorem zn_0_ok : ∀ q ∈ zn_0, zm_npk 0 q := by unfold zm_npk; decide +kernel
def zn_1 : List zm_NP := []
set_option maxRecDepth 100000 in
theorem zn_1_ok : ∀ q ∈ zn_1, zm_npk 1 q := by unfold zm_npk; decide +kernel
def zn_2 : List zm_NP := []
set_option maxRecDepth 100000 in
theorem zn_2_ok : ∀ q ∈ zn_2, zm_npk 2 q := by unfold zm_npk; decide +kernel
def zn_3 : List zm_NP := []
set_option maxRecDepth 100000 in
theorem zn_3_ok : ∀ q ∈ zn_3, zm_npk 3 q := by unfold zm_npk; decide +kernel
def zn_4 : List zm_NP := []
set_option maxRecDepth 100000 in
theorem zn_4_ok : ∀ q ∈ zn_4, zm_npk 4 q := by unfold zm_npk; decide +kernel
def zn_5 : List zm_NP := []
set_option maxRecDepth 100000 in
theorem zn_5_ok : ∀ q ∈ zn_5, zm_npk 5 q := by unfold zm_npk; decide +kernel
def zn_6 : List zm_NP := [(11, 100, 1, 126)]
set_option maxRecDepth 100000 in
theorem zn_6_ok : ∀ q ∈ zn_6, zm_npk 6 q := by unfold zm_npk; decide +kernel
def zn_7 : List zm_NP := []
set_option maxRecDepth 100000 in
theorem zn_7_ok : ∀ q ∈ zn_7, zm_npk 7 q := by unfold zm_npk; decide +kernel
def zn_8 : List zm_NP := []
set_option maxRecDepth 100000 in
theorem zn_8_ok : ∀ q ∈ zn_8, zm_npk 8 q := by unfold zm_npk; decide +kernel
def zn_9 : List zm_NP := []
set_option maxRecDepth 100000 in
theorem zn_9_ok : ∀ q ∈ zn_9, zm_npk 9 q := by unfold zm_npk; decide +kernel
def zn_10 : List zm_NP := [(17, 7, 1, 31), (24, 8, 1, 74), (31, 6, 1, 120), (38, 4, 1, 160), (45, 9, 1, 212), (54, 1, 1, 238), (66, 3, 2, 65), (75, 5, 2, 106), (84, 2, 2, 161), (93, 0, 2, 220)]
set_option maxRecDepth 100000 in
theorem zn_10_ok : ∀ q ∈ zn_10, zm_npk 10 q := by unfold zm_npk; decide +kernel
def zn_11 : List zm_NP := []
set_option maxRecDepth 100000 in
theorem zn_11_ok : ∀ q ∈ zn_11, zm_npk 11 q := by unfold zm_npk; decide +kernel
def zn_12 : List zm_NP := [(7, 10, 1, 22), (10, 11, 6, 141)]
set_option maxRecDepth 100000 in
theorem zn_12_ok : ∀ q ∈ zn_12, zm_npk 12 q := by unfold zm_npk; decide +kernel
def zn_13 : List zm_NP := []
set_option maxRecDepth 100000 in
theorem zn_13_ok : ∀ q ∈ zn_13, zm_npk 13 q := by unfold zm_npk; decide +kernel
def zn_14 : List zm_NP := []
set_option maxRecDepth 100000 in
theorem zn_14_ok : ∀ q ∈ zn_14, zm_npk 14 q := by unfold zm_npk; decide +kernel
def zn_15 : List zm_NP := []
set_option maxRecDepth 100000 in
theorem zn_15_ok : ∀ q ∈ zn_15, zm_npk 15 q := by unfold zm_npk; decide +kernel
def zm_fp (o : Nat) : List zm_FP := ([zf_0, zf_1, zf_2, zf_3, zf_4, zf_5, zf_6, zf_7, zf_8, zf_9, zf_10, zf_11, zf_12, zf_13, zf_14, zf_15] : List (List zm_FP)).getD o []
theorem zm_fp_ok : ∀ (o : Nat) (q : zm_FP), q ∈ zm_fp o → zm_fpk o q := by
  intro o q h
  match o with
  | 0 => exact zf_0_ok q h
  | 1 => exact zf_1_ok q h
  | 2 => exact zf_2_ok q h
  | 3 => exact zf_3_ok q h
  | 4 => exact zf_4_ok q h
  | 5 => exact zf_5_ok q h
  | 6 => exact zf_6_ok q h
  | 7 => exact zf_7_ok q h
  | 8 => exact zf_8_ok q h
  | 9 => exact zf_9_ok q h
  | 10 => exact zf_10_ok q h
  | 11 => exact zf_11_ok q h
  | 12 => exact zf_12_ok q h
  | 13 => exact zf_13_ok q h
  | 14 => exact zf_14_ok q h
  | 15 => exact zf_15_ok q h
  | n + 16 => exact absurd h List.not_mem_nil
def zm_kp (o : Nat) : List zm_KP := ([zk_0, zk_1, zk_2, zk_3, zk_4, zk_5, zk_6, zk_7, zk_8, zk_9, zk_10, zk_11, zk_12, zk_13, zk_14, zk_15] : List (List zm_KP)).getD o []
theorem zm_kp_ok : ∀ (o : Nat) (q : zm_KP), q ∈ zm_kp o → zm_kpk o q := by
  intro o q h
  match o with
  | 0 => exact zk_0_ok q h
  | 1 => exact zk_1_ok q h
  | 2 => exact zk_2_ok q h
  | 3 => exact zk_3_ok q h
  | 4 => exact zk_4_ok q h
  | 5 => exact zk_5_ok q h
  | 6 => exact zk_6_ok q h
  | 7 => exact zk_7_ok q h
  | 8 => exact zk_8_ok q h
  | 9 => exact zk_9_ok q h
  | 10 => exact zk_10_ok q h
  | 11 => exact zk_11_ok q h
  | 12 => exact zk_12_ok q h
  | 13 => exact zk_13_ok q h
  | 14 => exact zk_14_ok q h
  | 15 => exact zk_15_ok q h
  | n + 16 => exact absurd h List.not_mem_nil
def zm_lp (o : Nat) : List zm_LP := ([zl_0, zl_1, zl_2, zl_3, zl_4, zl_5, zl_6, zl_7, zl_8, zl_9, zl_10, zl_11, zl_12, zl_13, zl_14, zl_15] : List (List zm_LP)).getD o []
theorem zm_lp_ok : ∀ (o : Nat) (q : zm_LP), q ∈ zm_lp o → zm_lpk o q := by
  intro o q h
  match o with
  | 0 => exact zl_0_ok q h
  | 1 => exact zl_1_ok q h
  | 2 => exact zl_2_ok q h
  | 3 => exact zl_3_ok q h
  | 4 => exact zl_4_ok q h
  | 5 => exact zl_5_ok q h
  | 6 => exact zl_6_ok q h
  | 7 => exact zl_7_ok q h
  | 8 => exact zl_8_ok q h
  | 9 => exact zl_9_ok q h
  | 10 => exact zl_10_ok q h
  | 11 => exact zl_11_ok q h
  | 12 => exact zl_12_ok q h
  | 13 => exact zl_13_ok q h
  | 14 => exact zl_14_ok q h
  | 15 => exact zl_15_ok q h
  | n + 16 => exact absurd h List.not_mem_nil
def zm_np (o : Nat) : List zm_NP := ([zn_0, zn_1, zn_2, zn_3, zn_4, zn_5, zn_6, zn_7, zn_8, zn_9, zn_10, zn_11, zn_12, zn_13, zn_14, zn_15] : List (List zm_NP)).getD o []
theorem zm_np_ok : ∀ (o : Nat) (q : zm_NP), q ∈ zm_np o → zm_npk o q := by
  intro o q h
  match o with
  | 0 => exact zn_0_ok q h
  | 1 => exact zn_1_ok q h
  | 2 => exact zn_2_ok q h
  | 3 => exact zn_3_ok q h
  | 4 => exact zn_4_ok q h
  | 5 => exact zn_5_ok q h
  | 6 => exact zn_6_ok q h
  | 7 => exact zn_7_ok q h
  | 8 => exact zn_8_ok q h
  | 9 => exact zn_9_ok q h
  | 10 => exact zn_10_ok q h
  | 11 => exact zn_11_ok q h
  | 12 => exact zn_12_ok q h
  | 13 => exact zn_13_ok q h
  | 14 => exact zn_14_ok q h
  | 15 => exact zn_15_ok q h
  | n + 16 => exact absurd h List.not_mem_nil
/-! ===== END printed ===== -/
