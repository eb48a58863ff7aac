/-! ===== BEGIN printed by a program of ours: which words of the tables the rows of code rest on ===== -/
def zm_tb (k : Nat) : List Cond := match k with
  | 0 => k2_sels lw_privs
  | 1 => tables_1_1
  | 2 => tables_1_2
  | 3 => tables_1_3
  | 4 => tables_1_4
  | 5 => tables_1_5
  | 6 => tables_1_6
  | 7 => tables_1_7
  | 8 => tables_1_8
  | _ => tables_1_9
theorem zm_tb_in {k : Nat} {w : Cond} (h : w ∈ zm_tb k) : w ∈ lw_tbl := by
  have key : w ∈ k2_sels lw_privs ∨ w ∈ tables_1 := by
    unfold zm_tb at h
    unfold tables_1
    simp only [List.mem_append]
    split at h <;> simp [h]
  unfold lw_tbl
  exact List.mem_append.mpr key
theorem zm_tb_at {k i : Nat} {w : Cond} (h : (zm_tb k)[i]? = some w) : w ∈ lw_tbl := zm_tb_in (List.mem_of_getElem? h)
def zm_GW : List Cond := lw_tbl.filter goodWord
def zm_ct (c : Nat) : vw_C := vwCl.getD c (RX0, TX0, 0)
def zm_fd (c k : Nat) : String × String × String × Bool := (zm_ct c).2.1 k
def zm_fw (o i c k z : Nat) : Cond := if z = 0 then .fieldLink (zm_cn o) i (zm_fd c k).1 (zm_fd c k).2.1 (zm_fd c k).2.2.1 else .fieldLinkNest (zm_cn o) i (zm_fd c k).1 (zm_fd c k).2.1 (zm_fd c k).2.2.1 "NoddingRafts"
abbrev zm_FP : Type := Nat × Nat × Nat × Nat × Nat × Nat
def zm_fpk (o : Nat) (q : zm_FP) : Prop := (zm_tb q.2.2.2.2.1)[q.2.2.2.2.2]? = some (zm_fw o q.1 q.2.1 q.2.2.1 q.2.2.2.1) ∧ (q.2.2.2.1 = 0 → goodWord (zm_fw o q.1 q.2.1 q.2.2.1 q.2.2.2.1) = true) ∧ (zm_fd q.2.1 q.2.2.1).1 = (zm_ct q.2.1).1 ∧ q.2.2.1 < zm_nf q.2.1 ∧ q.2.1 < 12
def zf_0 : List zm_FP := [(12, 0, 1, 0, 2, 234), (16, 0, 0, 0, 2, 233)]
set_option maxRecDepth 100000 in
theorem zf_0_ok : ∀ q ∈ zf_0, zm_fpk 0 q := by unfold zm_fpk; decide +kernel
def zf_1 : List zm_FP := [(9, 1, 5, 0, 2, 18), (15, 1, 6, 0, 2, 20), (18, 1, 7, 0, 2, 21), (21, 1, 8, 0, 2, 22), (24, 1, 9, 0, 2, 23), (27, 1, 10, 0, 2, 24), (30, 1, 11, 0, 2, 26), (33, 1, 12, 0, 2, 28), (36, 1, 13, 0, 2, 30), (39, 1, 14, 0, 2, 31), (42, 1, 15, 0, 2, 32), (45, 1, 16, 0, 2, 34), (48, 1, 0, 0, 2, 11), (52, 1, 1, 0, 2, 13), (56, 1, 2, 0, 2, 14), (66, 1, 3, 0, 2, 15), (70, 1, 4, 0, 2, 17), (84, 4, 4, 1, 1, 185), (89, 4, 5, 1, 1, 188), (92, 4, 6, 1, 1, 190), (95, 4, 7, 1, 1, 192), (98, 4, 8, 1, 1, 194), (105, 4, 9, 1, 1, 196), (141, 4, 0, 1, 1, 174), (152, 4, 1, 1, 1, 178), (176, 9, 2, 1, 1, 228), (182, 9, 3, 1, 1, 231), (229, 4, 3, 1, 1, 183), (238, 4, 2, 1, 1, 181)]
set_option maxRecDepth 100000 in
theorem zf_1_ok : ∀ q ∈ zf_1, zm_fpk 1 q := by unfold zm_fpk; decide +kernel
def zf_2 : List zm_FP := [(11, 2, 4, 0, 2, 178), (15, 2, 5, 0, 2, 179), (18, 2, 6, 0, 2, 180), (21, 2, 8, 0, 2, 183), (24, 2, 10, 0, 2, 185), (27, 2, 12, 0, 2, 187), (30, 2, 13, 0, 2, 188), (33, 2, 15, 0, 2, 191), (36, 2, 0, 0, 2, 173), (40, 2, 1, 0, 2, 174), (44, 2, 2, 0, 2, 175), (48, 2, 3, 0, 2, 176), (52, 2, 7, 0, 2, 181), (61, 2, 9, 0, 2, 184), (64, 1, 0, 1, 2, 12), (70, 4, 0, 1, 1, 173), (75, 1, 5, 1, 2, 19), (78, 2, 11, 0, 2, 186), (87, 2, 14, 0, 2, 189), (127, 9, 2, 1, 1, 227), (133, 9, 3, 1, 1, 230)]
set_option maxRecDepth 100000 in
theorem zf_2_ok : ∀ q ∈ zf_2, zm_fpk 2 q := by unfold zm_fpk; decide +kernel
def zf_3 : List zm_FP := [(11, 3, 3, 0, 2, 81), (15, 3, 4, 0, 2, 82), (18, 3, 5, 0, 2, 83), (21, 3, 6, 0, 2, 84), (24, 3, 7, 0, 2, 85), (27, 3, 8, 0, 2, 86), (30, 3, 9, 0, 2, 87), (33, 3, 10, 0, 2, 88), (36, 3, 0, 0, 2, 78), (40, 3, 1, 0, 2, 79), (44, 3, 2, 0, 2, 80)]
set_option maxRecDepth 100000 in
theorem zf_3_ok : ∀ q ∈ zf_3, zm_fpk 3 q := by unfold zm_fpk; decide +kernel
def zf_4 : List zm_FP := [(9, 4, 1, 0, 1, 176), (15, 4, 2, 0, 1, 179), (18, 4, 3, 0, 1, 182), (21, 4, 5, 0, 1, 187), (24, 4, 6, 0, 1, 189), (27, 4, 7, 0, 1, 191), (30, 4, 8, 0, 1, 193), (33, 4, 9, 0, 1, 195), (36, 4, 0, 0, 1, 172), (40, 4, 4, 0, 1, 184)]
set_option maxRecDepth 100000 in
theorem zf_4_ok : ∀ q ∈ zf_4, zm_fpk 4 q := by unfold zm_fpk; decide +kernel
def zf_5 : List zm_FP := [(11, 5, 3, 0, 2, 122), (15, 5, 4, 0, 2, 123), (18, 5, 6, 0, 2, 125), (21, 5, 7, 0, 2, 126), (24, 5, 8, 0, 2, 127), (27, 5, 9, 0, 2, 128), (30, 5, 10, 0, 2, 129), (33, 5, 11, 0, 2, 130), (36, 5, 14, 0, 2, 134), (39, 5, 0, 0, 2, 118), (43, 5, 1, 0, 2, 119), (47, 5, 2, 0, 2, 120), (51, 5, 5, 0, 2, 124), (78, 5, 12, 0, 2, 131), (81, 5, 13, 0, 2, 133)]
set_option maxRecDepth 100000 in
theorem zf_5_ok : ∀ q ∈ zf_5, zm_fpk 5 q := by unfold zm_fpk; decide +kernel
def zf_6 : List zm_FP := [(13, 6, 1, 0, 1, 136), (17, 6, 2, 0, 1, 137), (20, 6, 3, 0, 1, 138), (23, 6, 5, 0, 1, 140), (26, 6, 6, 0, 1, 141), (29, 6, 7, 0, 1, 142), (32, 6, 8, 0, 1, 143), (35, 6, 0, 0, 1, 134), (39, 8, 9, 1, 1, 91), (44, 8, 10, 1, 1, 92), (53, 8, 11, 1, 1, 95), (54, 8, 12, 1, 1, 97), (55, 6, 4, 0, 1, 139), (88, 6, 9, 0, 1, 144)]
set_option maxRecDepth 100000 in
theorem zf_6_ok : ∀ q ∈ zf_6, zm_fpk 6 q := by unfold zm_fpk; decide +kernel
def zf_7 : List zm_FP := [(9, 7, 2, 0, 1, 44), (15, 7, 3, 0, 1, 45), (18, 7, 4, 0, 1, 46), (21, 7, 5, 0, 1, 47), (24, 7, 6, 0, 1, 48), (27, 7, 7, 0, 1, 49), (30, 7, 8, 0, 1, 50), (33, 7, 9, 0, 1, 51), (42, 7, 0, 0, 1, 40), (46, 7, 1, 0, 1, 42)]
set_option maxRecDepth 100000 in
theorem zf_7_ok : ∀ q ∈ zf_7, zm_fpk 7 q := by unfold zm_fpk; decide +kernel
def zf_8 : List zm_FP := [(11, 8, 0, 0, 1, 80), (15, 8, 3, 0, 1, 84), (19, 8, 4, 0, 1, 85), (22, 8, 5, 0, 1, 86), (25, 8, 9, 0, 1, 90), (28, 8, 11, 0, 1, 94), (31, 8, 12, 0, 1, 96), (34, 8, 1, 0, 1, 81), (38, 8, 2, 0, 1, 83), (41, 8, 10, 0, 1, 93), (53, 8, 7, 0, 1, 88), (56, 8, 8, 0, 1, 89), (98, 8, 6, 0, 1, 87)]
set_option maxRecDepth 100000 in
theorem zf_8_ok : ∀ q ∈ zf_8, zm_fpk 8 q := by unfold zm_fpk; decide +kernel
def zf_9 : List zm_FP := [(9, 9, 1, 0, 1, 225), (15, 9, 2, 0, 1, 226), (18, 9, 3, 0, 1, 229), (21, 9, 4, 0, 1, 232), (24, 9, 0, 0, 1, 224), (59, 4, 2, 1, 1, 180), (73, 4, 1, 1, 1, 177)]
set_option maxRecDepth 100000 in
theorem zf_9_ok : ∀ q ∈ zf_9, zm_fpk 9 q := by unfold zm_fpk; decide +kernel
def zf_10 : List zm_FP := [(8, 10, 1, 0, 3, 2), (14, 10, 2, 0, 3, 3), (20, 10, 3, 0, 3, 4), (27, 10, 4, 0, 3, 5), (34, 10, 5, 0, 3, 6), (41, 10, 6, 0, 3, 7), (50, 10, 7, 0, 3, 8), (59, 10, 8, 0, 3, 9), (63, 10, 9, 0, 3, 10), (71, 10, 12, 0, 3, 13), (80, 10, 13, 0, 3, 14), (89, 10, 14, 0, 3, 15), (96, 10, 15, 0, 3, 16), (107, 10, 0, 0, 3, 1), (149, 8, 1, 1, 1, 82), (164, 6, 0, 1, 1, 135), (209, 4, 4, 1, 1, 186), (232, 1, 15, 1, 2, 33), (236, 1, 16, 1, 2, 35), (266, 5, 2, 1, 2, 121), (278, 5, 12, 1, 2, 132), (281, 5, 14, 1, 2, 135), (287, 2, 7, 1, 2, 182), (299, 2, 14, 1, 2, 190), (302, 2, 15, 1, 2, 192), (305, 1, 12, 1, 2, 29), (311, 1, 11, 1, 2, 27), (314, 1, 10, 1, 2, 25), (324, 4, 0, 1, 1, 175), (327, 7, 0, 1, 1, 41), (330, 7, 1, 1, 1, 43), (333, 2, 3, 1, 2, 177), (336, 0, 1, 1, 2, 235), (351, 10, 10, 0, 3, 11), (354, 10, 11, 0, 3, 12), (360, 1, 3, 1, 2, 16)]
set_option maxRecDepth 100000 in
theorem zf_10_ok : ∀ q ∈ zf_10, zm_fpk 10 q := by unfold zm_fpk; decide +kernel
def zf_11 : List zm_FP := [(9, 11, 0, 0, 6, 159), (13, 11, 6, 0, 6, 165), (17, 11, 10, 0, 6, 169), (20, 11, 11, 0, 6, 170), (23, 11, 13, 0, 6, 172), (26, 11, 14, 0, 6, 173), (29, 11, 16, 0, 6, 175), (32, 11, 17, 0, 6, 176), (35, 11, 18, 0, 6, 177), (38, 11, 19, 0, 6, 178), (41, 11, 21, 0, 6, 180), (44, 11, 22, 0, 6, 181), (47, 11, 25, 0, 6, 184), (50, 11, 26, 0, 6, 185), (53, 11, 27, 0, 6, 186), (56, 11, 29, 0, 6, 188), (59, 11, 30, 0, 6, 189), (62, 11, 31, 0, 6, 190), (65, 11, 32, 0, 6, 191), (68, 11, 34, 0, 6, 193), (71, 11, 35, 0, 6, 194), (74, 11, 36, 0, 6, 195), (77, 11, 38, 0, 6, 197), (80, 11, 39, 0, 6, 198), (83, 11, 40, 0, 6, 199), (86, 11, 42, 0, 6, 201), (89, 11, 43, 0, 6, 202), (92, 11, 44, 0, 6, 203), (95, 11, 45, 0, 6, 204), (98, 11, 46, 0, 6, 205), (102, 11, 47, 0, 6, 206), (106, 11, 48, 0, 6, 207), (109, 11, 49, 0, 6, 208), (112, 11, 50, 0, 6, 209), (115, 11, 51, 0, 6, 210), (118, 11, 52, 0, 6, 211), (121, 11, 53, 0, 6, 212), (125, 11, 54, 0, 6, 213), (128, 11, 55, 0, 6, 214), (131, 11, 56, 0, 6, 215), (134, 11, 57, 0, 6, 216), (137, 11, 58, 0, 6, 217), (140, 11, 59, 0, 6, 218), (143, 11, 60, 0, 6, 219), (146, 11, 61, 0, 6, 220), (149, 11, 62, 0, 6, 221), (152, 11, 63, 0, 6, 222), (155, 11, 64, 0, 6, 223), (158, 11, 65, 0, 6, 224), (162, 11, 66, 0, 6, 225), (165, 11, 67, 0, 6, 226), (168, 11, 68, 0, 6, 227), (171, 11, 69, 0, 6, 228), (174, 11, 70, 0, 6, 229), (177, 11, 71, 0, 6, 230), (180, 11, 73, 0, 6, 232), (183, 11, 74, 0, 6, 233), (186, 11, 76, 0, 6, 235), (190, 11, 78, 0, 6, 237), (193, 11, 82, 0, 7, 1), (196, 11, 83, 0, 7, 2), (199, 11, 84, 0, 7, 3), (202, 11, 85, 0, 7, 4), (205, 11, 86, 0, 7, 5), (208, 11, 89, 0, 7, 8), (211, 11, 90, 0, 7, 9), (214, 11, 91, 0, 7, 10), (217, 11, 92, 0, 7, 11), (220, 11, 93, 0, 7, 12), (223, 11, 94, 0, 7, 13), (226, 11, 95, 0, 7, 14), (229, 11, 96, 0, 7, 15), (242, 11, 33, 0, 6, 192), (249, 11, 24, 0, 6, 183), (252, 11, 23, 0, 6, 182), (255, 11, 28, 0, 6, 187), (258, 11, 79, 0, 6, 238), (261, 11, 80, 0, 6, 239), (264, 11, 81, 0, 7, 0), (272, 11, 1, 0, 6, 160), (287, 11, 2, 0, 6, 161), (290, 11, 4, 0, 6, 163), (293, 11, 5, 0, 6, 164), (296, 11, 3, 0, 6, 162), (309, 11, 7, 0, 6, 166), (312, 11, 12, 0, 6, 171), (318, 11, 8, 0, 6, 167), (358, 11, 9, 0, 6, 168), (374, 11, 15, 0, 6, 174), (377, 11, 20, 0, 6, 179), (391, 11, 37, 0, 6, 196), (404, 11, 41, 0, 6, 200), (443, 11, 88, 0, 7, 7), (453, 11, 87, 0, 7, 6), (491, 11, 72, 0, 6, 231), (503, 11, 75, 0, 6, 234), (509, 11, 77, 0, 6, 236)]
set_option maxRecDepth 100000 in
theorem zf_11_ok : ∀ q ∈ zf_11, zm_fpk 11 q := by unfold zm_fpk; decide +kernel
def zf_12 : List zm_FP := []
set_option maxRecDepth 100000 in
theorem zf_12_ok : ∀ q ∈ zf_12, zm_fpk 12 q := by unfold zm_fpk; decide +kernel
def zf_13 : List zm_FP := []
set_option maxRecDepth 100000 in
theorem zf_13_ok : ∀ q ∈ zf_13, zm_fpk 13 q := by unfold zm_fpk; decide +kernel
def zf_14 : List zm_FP := []
set_option maxRecDepth 100000 in
theorem zf_14_ok : ∀ q ∈ zf_14, zm_fpk 14 q := by unfold zm_fpk; decide +kernel
def zf_15 : List zm_FP := []
set_option maxRecDepth 100000 in
theorem zf_15_ok : ∀ q ∈ zf_15, zm_fpk 15 q := by unfold zm_fpk; decide +kernel
abbrev zm_KP : Type := Nat × Nat × Int32 × Nat × Nat
def zm_sw (i : Nat) : String := (["sink  rise  boat  pay   heightperiodway   power hold  size  day   spell ready or    and   not   ", "+-*/()[]<>=;", " sink rise boat pay height period way power hold size day spell ready or and not "] : List String).getD i ""
def zm_kw (o : Nat) (q : zm_KP) : Cond := if q.2.1 = 0 then .constant (zm_cn o) q.1 q.2.2.1 else if q.2.1 = 2 then .constantLong (zm_cn o) q.1 q.2.2.1.toInt64 else .stringRef (zm_cn o) q.1 (zm_sw q.2.2.1.toNatClampNeg)
def zm_kpk (o : Nat) (q : zm_KP) : Prop := (zm_tb q.2.2.2.1)[q.2.2.2.2]? = some (zm_kw o q) ∧ (¬ q.2.1 = 1 → goodWord (zm_kw o q) = true)
def zk_0 : List zm_KP := [(11, 0, 65535, 2, 232)]
set_option maxRecDepth 100000 in
theorem zk_0_ok : ∀ q ∈ zk_0, zm_kpk 0 q := by unfold zm_kpk; decide +kernel
def zk_1 : List zm_KP := [(232, 0, -100000, 5, 138), (233, 0, 100000, 5, 139), (237, 0, -2147483648, 5, 180)]
set_option maxRecDepth 100000 in
theorem zk_1_ok : ∀ q ∈ zk_1, zm_kpk 1 q := by unfold zm_kpk; decide +kernel
def zk_2 : List zm_KP := []
set_option maxRecDepth 100000 in
theorem zk_2_ok : ∀ q ∈ zk_2, zm_kpk 2 q := by unfold zm_kpk; decide +kernel
def zk_3 : List zm_KP := []
set_option maxRecDepth 100000 in
theorem zk_3_ok : ∀ q ∈ zk_3, zm_kpk 3 q := by unfold zm_kpk; decide +kernel
def zk_4 : List zm_KP := []
set_option maxRecDepth 100000 in
theorem zk_4_ok : ∀ q ∈ zk_4, zm_kpk 4 q := by unfold zm_kpk; decide +kernel
def zk_5 : List zm_KP := []
set_option maxRecDepth 100000 in
theorem zk_5_ok : ∀ q ∈ zk_5, zm_kpk 5 q := by unfold zm_kpk; decide +kernel
def zk_6 : List zm_KP := [(94, 0, 100000, 5, 11), (103, 0, -1000000, 5, 19), (104, 0, 1000000, 5, 20), (105, 2, -1000000, 5, 21), (107, 2, 1000000, 5, 22)]
set_option maxRecDepth 100000 in
theorem zk_6_ok : ∀ q ∈ zk_6, zm_kpk 6 q := by unfold zm_kpk; decide +kernel
def zk_7 : List zm_KP := []
set_option maxRecDepth 100000 in
theorem zk_7_ok : ∀ q ∈ zk_7, zm_kpk 7 q := by unfold zm_kpk; decide +kernel
def zk_8 : List zm_KP := [(81, 0, 100313, 4, 86), (88, 0, 100314, 4, 85), (89, 0, 100315, 4, 84), (90, 0, 100000, 3, 214), (97, 0, 99999, 4, 63), (118, 1, 1, 3, 216), (129, 1, 0, 3, 166)]
set_option maxRecDepth 100000 in
theorem zk_8_ok : ∀ q ∈ zk_8, zm_kpk 8 q := by unfold zm_kpk; decide +kernel
def zk_9 : List zm_KP := []
set_option maxRecDepth 100000 in
theorem zk_9_ok : ∀ q ∈ zk_9, zm_kpk 9 q := by unfold zm_kpk; decide +kernel
def zk_10 : List zm_KP := [(7, 0, 50000, 1, 30), (122, 0, -2147483648, 3, 79), (212, 0, 288000, 4, 207)]
set_option maxRecDepth 100000 in
theorem zk_10_ok : ∀ q ∈ zk_10, zm_kpk 10 q := by unfold zm_kpk; decide +kernel
def zk_11 : List zm_KP := [(101, 0, 50000, 6, 157), (189, 0, 65535, 6, 158), (232, 2, -1000000, 8, 187), (234, 0, -1000000, 8, 188), (235, 2, 1000000, 8, 189), (237, 0, 1000000, 8, 29), (267, 0, -2147483648, 7, 231), (275, 1, 2, 8, 23), (364, 0, 99999, 8, 66), (426, 0, 288000, 8, 152), (456, 0, -100000, 8, 210), (457, 0, 100000, 8, 211)]
set_option maxRecDepth 100000 in
theorem zk_11_ok : ∀ q ∈ zk_11, zm_kpk 11 q := by unfold zm_kpk; decide +kernel
def zk_12 : List zm_KP := []
set_option maxRecDepth 100000 in
theorem zk_12_ok : ∀ q ∈ zk_12, zm_kpk 12 q := by unfold zm_kpk; decide +kernel
def zk_13 : List zm_KP := []
set_option maxRecDepth 100000 in
theorem zk_13_ok : ∀ q ∈ zk_13, zm_kpk 13 q := by unfold zm_kpk; decide +kernel
def zk_14 : List zm_KP := [(265, 0, 1431655765, 6, 139), (266, 0, 858993459, 6, 140), (267, 0, 252645135, 6, 141)]
set_option maxRecDepth 100000 in
theorem zk_14_ok : ∀ q ∈ zk_14, zm_kpk 14 q := by unfold zm_kpk; decide +kernel
def zk_15 : List zm_KP := []
set_option maxRecDepth 100000 in
theorem zk_15_ok : ∀ q ∈ zk_15, zm_kpk 15 q := by unfold zm_kpk; decide +kernel
abbrev zm_LP : Type := Nat × Nat × Nat × Nat × Nat
def zm_xy (a : Nat) : MethodName := if a = 1000 then objectInit else if a = 1001 then arraycopyName else if a = 1002 then yJ0_charAt_5068e else if a = 1003 then yJ0_length_8abf5 else if a = 1004 then yJ0_indexOf_0f7a4 else if a = 1005 then Lib.Math.max.name else if a = 1006 then Lib.Math.min.name else if a = 1007 then Lib.Math.abs.name else if a = 1008 then Lib.MathLoose.max_long.x else if a = 1009 then Lib.MathLoose.min_long.x else zm_y a
def zm_lw (o : Nat) (q : zm_LP) : Cond := if q.2.2.1 = 0 then .methodLink (zm_cn o) q.1 (zm_xy q.2.1) else .methodLinkNest (zm_cn o) q.1 (zm_xy q.2.1) "NoddingRafts"
def zm_lpk (o : Nat) (q : zm_LP) : Prop := (zm_tb q.2.2.2.1)[q.2.2.2.2]? = some (zm_lw o q) ∧ (q.2.2.1 = 0 → goodWord (zm_lw o q) = true)
def zl_0 : List zm_LP := [(3, 1000, 0, 2, 231), (19, 2, 0, 6, 125), (23, 264, 0, 6, 136), (29, 1005, 0, 6, 142)]
set_option maxRecDepth 100000 in
theorem zl_0_ok : ∀ q ∈ zl_0, zm_lpk 0 q := by unfold zm_lpk; decide +kernel
def zl_1 : List zm_LP := [(3, 1000, 0, 2, 9), (60, 265, 0, 2, 10), (73, 11, 0, 4, 199), (77, 6, 0, 4, 170), (81, 7, 0, 4, 174), (101, 5, 0, 4, 190), (108, 9, 0, 4, 191), (112, 10, 0, 4, 195), (116, 8, 0, 5, 33), (119, 74, 1, 5, 34), (125, 13, 0, 5, 35), (128, 18, 0, 5, 59), (131, 22, 0, 5, 110), (134, 27, 0, 5, 134), (137, 72, 1, 5, 39), (144, 14, 0, 5, 40), (148, 15, 0, 5, 44), (155, 75, 1, 5, 57), (158, 76, 1, 5, 58), (161, 111, 1, 5, 67), (166, 112, 1, 5, 72), (169, 19, 0, 5, 63), (173, 113, 1, 5, 77), (179, 20, 0, 5, 100), (185, 1001, 0, 5, 109), (191, 1006, 0, 5, 108), (196, 21, 0, 5, 104), (199, 124, 1, 5, 114), (202, 127, 1, 5, 115), (205, 23, 0, 5, 116), (208, 25, 0, 5, 126), (211, 26, 0, 5, 130), (214, 24, 0, 5, 120), (217, 16, 0, 5, 48), (223, 17, 0, 5, 52), (226, 1005, 0, 5, 56), (234, 125, 1, 5, 140)]
set_option maxRecDepth 100000 in
theorem zl_1_ok : ∀ q ∈ zl_1, zm_lpk 1 q := by unfold zm_lpk; decide +kernel
def zl_2 : List zm_LP := [(3, 1000, 0, 2, 172), (55, 1006, 0, 6, 80), (81, 88, 1, 6, 85), (90, 39, 0, 6, 90), (94, 40, 0, 6, 94), (97, 41, 0, 6, 100), (100, 34, 0, 6, 98), (104, 6, 1, 6, 99), (107, 19, 1, 6, 104), (111, 112, 1, 6, 105), (117, 113, 1, 6, 106), (121, 114, 1, 6, 107), (124, 42, 0, 6, 108), (130, 20, 1, 6, 112)]
set_option maxRecDepth 100000 in
theorem zl_2_ok : ∀ q ∈ zl_2, zm_lpk 2 q := by unfold zm_lpk; decide +kernel
def zl_3 : List zm_LP := [(3, 1000, 0, 2, 76), (48, 265, 0, 2, 77), (54, 47, 0, 5, 153), (58, 73, 1, 4, 229), (64, 46, 0, 5, 145), (68, 55, 1, 5, 149), (74, 5, 1, 5, 150), (80, 56, 1, 5, 151), (84, 8, 1, 5, 152)]
set_option maxRecDepth 100000 in
theorem zl_3_ok : ∀ q ∈ zl_3, zm_lpk 3 q := by unfold zm_lpk; decide +kernel
def zl_4 : List zm_LP := [(3, 1000, 0, 1, 171)]
set_option maxRecDepth 100000 in
theorem zl_4_ok : ∀ q ∈ zl_4, zm_lpk 4 q := by unfold zm_lpk; decide +kernel
def zl_5 : List zm_LP := [(3, 1000, 0, 2, 117), (54, 88, 1, 6, 20), (60, 73, 1, 6, 21), (66, 1001, 0, 6, 34), (72, 62, 0, 6, 35), (75, 63, 0, 6, 39), (84, 66, 0, 6, 52), (88, 64, 0, 6, 43), (92, 67, 0, 6, 56), (96, 265, 0, 6, 47), (102, 65, 0, 6, 48)]
set_option maxRecDepth 100000 in
theorem zl_5_ok : ∀ q ∈ zl_5, zm_lpk 5 q := by unfold zm_lpk; decide +kernel
def zl_6 : List zm_LP := [(3, 1000, 0, 1, 131), (47, 266, 0, 4, 99), (58, 124, 1, 4, 238), (62, 126, 1, 4, 239), (65, 127, 1, 5, 0), (68, 72, 0, 4, 233), (72, 74, 0, 4, 234), (76, 75, 0, 5, 1), (80, 76, 0, 5, 5), (83, 1006, 0, 5, 9), (91, 1005, 0, 5, 10), (95, 77, 0, 5, 12), (99, 78, 0, 5, 16), (109, 1009, 0, 5, 23), (112, 1008, 0, 5, 26)]
set_option maxRecDepth 100000 in
theorem zl_6_ok : ∀ q ∈ zl_6, zm_lpk 6 q := by unfold zm_lpk; decide +kernel
def zl_7 : List zm_LP := [(3, 1000, 0, 1, 36), (36, 265, 0, 1, 37), (49, 83, 0, 3, 84), (53, 85, 0, 4, 224), (57, 86, 0, 3, 95), (61, 87, 0, 3, 99), (64, 124, 1, 3, 103), (68, 125, 1, 3, 106)]
set_option maxRecDepth 100000 in
theorem zl_7_ok : ∀ q ∈ zl_7, zm_lpk 7 q := by unfold zm_lpk; decide +kernel
def zl_8 : List zm_LP := [(5, 1000, 0, 1, 79), (44, 265, 0, 3, 146), (50, 95, 0, 3, 147), (59, 99, 0, 4, 39), (62, 100, 0, 4, 43), (65, 93, 0, 4, 47), (68, 101, 0, 4, 51), (72, 106, 0, 4, 72), (75, 105, 0, 4, 68), (78, 107, 0, 4, 76), (82, 104, 0, 4, 64), (85, 108, 0, 4, 80), (91, 102, 0, 4, 55), (94, 103, 0, 4, 59), (101, 96, 0, 3, 151), (105, 94, 0, 3, 155), (109, 98, 0, 3, 158), (112, 97, 0, 3, 207), (115, 267, 0, 3, 210), (120, 1004, 0, 3, 217), (125, 109, 0, 3, 162), (131, 1002, 0, 3, 167), (135, 1006, 0, 3, 215)]
set_option maxRecDepth 100000 in
theorem zl_8_ok : ∀ q ∈ zl_8, zm_lpk 8 q := by unfold zm_lpk; decide +kernel
def zl_9 : List zm_LP := [(3, 1000, 0, 1, 223), (28, 265, 0, 5, 71), (34, 139, 1, 5, 76), (38, 124, 1, 5, 84), (42, 126, 1, 5, 85), (45, 114, 0, 5, 81), (48, 127, 1, 5, 86), (51, 115, 0, 5, 87), (55, 116, 0, 5, 92), (64, 1007, 0, 5, 96), (69, 1005, 0, 5, 99), (76, 136, 1, 5, 91)]
set_option maxRecDepth 100000 in
theorem zl_9_ok : ∀ q ∈ zl_9, zm_lpk 9 q := by unfold zm_lpk; decide +kernel
def zl_10 : List zm_LP := [(1, 1000, 0, 1, 27), (19, 79, 1, 1, 33), (26, 89, 1, 1, 76), (33, 68, 1, 1, 128), (40, 53, 1, 1, 168), (47, 110, 1, 1, 220), (56, 4, 1, 2, 6), (68, 43, 1, 2, 73), (77, 57, 1, 2, 114), (86, 32, 1, 2, 169), (95, 0, 1, 2, 228), (100, 119, 0, 3, 54), (104, 120, 0, 3, 57), (110, 80, 1, 3, 60), (114, 122, 0, 3, 68), (118, 81, 1, 3, 71), (123, 82, 1, 3, 80), (127, 84, 1, 3, 87), (130, 85, 1, 3, 91), (133, 124, 0, 3, 115), (136, 126, 0, 3, 116), (139, 127, 0, 3, 119), (142, 90, 1, 3, 126), (145, 91, 1, 3, 130), (152, 92, 1, 3, 142), (156, 69, 1, 4, 91), (160, 70, 1, 4, 95), (167, 71, 1, 4, 117), (171, 72, 1, 4, 125), (174, 54, 1, 4, 133), (177, 136, 0, 4, 141), (180, 33, 1, 4, 144), (183, 138, 0, 4, 152), (186, 139, 0, 4, 156), (189, 140, 0, 4, 159), (192, 55, 1, 4, 162), (195, 5, 1, 4, 166), (198, 34, 1, 4, 178), (202, 56, 1, 4, 182), (206, 8, 1, 4, 186), (213, 144, 0, 4, 216), (216, 28, 1, 5, 160), (219, 29, 1, 5, 164), (222, 147, 0, 5, 172), (225, 30, 1, 5, 176), (228, 149, 0, 5, 185), (239, 1005, 0, 3, 112), (244, 1006, 0, 3, 109), (247, 48, 1, 5, 209), (250, 155, 0, 5, 217), (253, 49, 1, 5, 220), (256, 50, 1, 5, 228), (260, 51, 1, 5, 236), (263, 58, 1, 6, 4), (269, 59, 1, 6, 16), (272, 60, 1, 6, 22), (275, 61, 1, 6, 30), (284, 35, 1, 6, 64), (290, 36, 1, 6, 76), (293, 37, 1, 6, 81), (296, 38, 1, 6, 86), (308, 88, 1, 4, 220), (317, 1, 1, 6, 121), (321, 3, 1, 6, 132), (339, 52, 1, 6, 147), (342, 44, 1, 4, 225), (345, 12, 1, 5, 29), (348, 45, 1, 5, 141), (357, 31, 1, 5, 189)]
set_option maxRecDepth 100000 in
theorem zl_10_ok : ∀ q ∈ zl_10, zm_lpk 10 q := by unfold zm_lpk; decide +kernel
def zl_11 : List zm_LP := [(1, 1000, 0, 6, 156), (238, 172, 0, 7, 220), (245, 171, 0, 7, 217), (268, 175, 0, 7, 232), (277, 1003, 0, 8, 24), (283, 1002, 0, 8, 25), (299, 181, 0, 8, 16), (302, 182, 0, 8, 19), (306, 183, 0, 8, 26), (315, 180, 0, 8, 12), (321, 184, 0, 8, 30), (325, 186, 0, 8, 38), (328, 187, 0, 8, 42), (331, 188, 0, 8, 46), (334, 189, 0, 8, 50), (337, 190, 0, 8, 54), (341, 191, 0, 8, 58), (345, 192, 0, 8, 62), (348, 194, 0, 8, 71), (352, 196, 0, 8, 79), (355, 197, 0, 8, 83), (361, 195, 0, 8, 75), (365, 193, 0, 8, 67), (368, 185, 0, 8, 34), (371, 179, 0, 8, 8), (380, 201, 0, 8, 99), (383, 222, 0, 8, 181), (387, 223, 0, 8, 184), (394, 212, 0, 8, 141), (397, 210, 0, 8, 133), (400, 211, 0, 8, 137), (407, 205, 0, 8, 115), (410, 206, 0, 8, 119), (413, 207, 0, 8, 122), (416, 208, 0, 8, 126), (419, 209, 0, 8, 129), (422, 213, 0, 8, 144), (427, 220, 0, 8, 173), (430, 219, 0, 8, 169), (433, 218, 0, 8, 165), (437, 221, 0, 8, 177), (440, 225, 0, 8, 194), (446, 226, 0, 8, 198), (450, 227, 0, 8, 202), (458, 228, 0, 8, 206), (461, 217, 0, 8, 161), (464, 224, 0, 8, 190), (467, 229, 0, 8, 212), (470, 230, 0, 8, 216), (473, 232, 0, 8, 223), (476, 234, 0, 8, 231), (479, 235, 0, 8, 235), (482, 237, 0, 9, 2), (485, 238, 0, 9, 6), (488, 244, 0, 9, 30), (494, 250, 0, 9, 53), (497, 253, 0, 9, 65), (500, 252, 0, 9, 61), (506, 257, 0, 9, 81), (512, 260, 0, 9, 93), (515, 262, 0, 9, 100)]
set_option maxRecDepth 100000 in
theorem zl_11_ok : ∀ q ∈ zl_11, zm_lpk 11 q := by unfold zm_lpk; decide +kernel
def zl_12 : List zm_LP := [(9, 117, 0, 1, 24), (12, 169, 0, 6, 153), (13, 118, 0, 3, 50), (17, 170, 0, 7, 213), (18, 121, 0, 3, 64), (22, 173, 0, 7, 223), (23, 123, 0, 3, 75), (26, 174, 0, 7, 227), (27, 128, 0, 3, 122), (31, 176, 0, 7, 236), (32, 129, 0, 3, 134), (36, 177, 0, 8, 0), (37, 130, 0, 3, 138), (41, 178, 0, 8, 4), (42, 131, 0, 4, 87), (45, 198, 0, 8, 87), (46, 132, 0, 4, 113), (49, 199, 0, 8, 91), (50, 133, 0, 4, 121), (53, 200, 0, 8, 95), (54, 134, 0, 4, 129), (57, 202, 0, 8, 103), (58, 135, 0, 4, 137), (61, 203, 0, 8, 107), (62, 137, 0, 4, 148), (65, 204, 0, 8, 111), (66, 141, 0, 4, 203), (69, 214, 0, 8, 148), (70, 142, 0, 4, 208), (73, 215, 0, 8, 153), (74, 143, 0, 4, 212), (78, 216, 0, 8, 157), (79, 145, 0, 5, 156), (82, 231, 0, 8, 219), (83, 146, 0, 5, 168), (86, 233, 0, 8, 227), (87, 148, 0, 5, 181), (90, 236, 0, 8, 238), (91, 150, 0, 5, 193), (94, 239, 0, 9, 10), (95, 151, 0, 5, 197), (98, 240, 0, 9, 14), (99, 152, 0, 5, 201), (103, 241, 0, 9, 18), (104, 153, 0, 5, 205), (107, 242, 0, 9, 22), (108, 154, 0, 5, 213), (111, 243, 0, 9, 26), (112, 156, 0, 5, 224), (115, 245, 0, 9, 33), (116, 157, 0, 5, 232), (119, 246, 0, 9, 37), (120, 158, 0, 6, 0), (123, 247, 0, 9, 41), (124, 159, 0, 6, 8), (127, 248, 0, 9, 45), (128, 160, 0, 6, 12), (131, 249, 0, 9, 49), (132, 161, 0, 6, 26), (135, 251, 0, 9, 57), (136, 162, 0, 6, 60), (139, 254, 0, 9, 69), (140, 163, 0, 6, 68), (143, 255, 0, 9, 73), (144, 164, 0, 6, 72), (147, 256, 0, 9, 77), (148, 165, 0, 6, 113), (151, 258, 0, 9, 85), (152, 166, 0, 6, 117), (156, 259, 0, 9, 89), (157, 167, 0, 6, 128), (160, 261, 0, 9, 96), (161, 168, 0, 6, 143), (164, 263, 0, 9, 103)]
set_option maxRecDepth 100000 in
theorem zl_12_ok : ∀ q ∈ zl_12, zm_lpk 12 q := by unfold zm_lpk; decide +kernel
def zl_13 : List zm_LP := []
set_option maxRecDepth 100000 in
theorem zl_13_ok : ∀ q ∈ zl_13, zm_lpk 13 q := by unfold zm_lpk; decide +kernel
def zl_14 : List zm_LP := []
set_option maxRecDepth 100000 in
theorem zl_14_ok : ∀ q ∈ zl_14, zm_lpk 14 q := by unfold zm_lpk; decide +kernel
def zl_15 : List zm_LP := [(150, 1001, 0, 4, 110), (304, 1006, 0, 4, 109)]
set_option maxRecDepth 100000 in
theorem zl_15_ok : ∀ q ∈ zl_15, zm_lpk 15 q := by unfold zm_lpk; decide +kernel
abbrev zm_NP : Type := Nat × Nat × Nat × Nat
def zm_nw (o : Nat) (q : zm_NP) : Cond := .classLink (zm_cn o) q.1 (if q.2.1 = 100 then "[I" else zm_cn q.2.1)
def zm_npk (o : Nat) (q : zm_NP) : Prop := (zm_tb q.2.2.1)[q.2.2.2]? = some (zm_nw o q) ∧ goodWord (zm_nw o q) = true
def zn_0 : List zm_NP := []
set_option maxRecDepth 100000 in
theorem zn_0_ok : ∀ q ∈ zn_0, zm_npk 0 q := by unfold zm_npk; decide +kernel
def zn_1 : List zm_NP := []
set_option maxRecDepth 100000 in
theorem zn_1_ok : ∀ q ∈ zn_1, zm_npk 1 q := by unfold zm_npk; decide +kernel
def zn_2 : List zm_NP := []
set_option maxRecDepth 100000 in
theorem zn_2_ok : ∀ q ∈ zn_2, zm_npk 2 q := by unfold zm_npk; decide +kernel
def zn_3 : List zm_NP := []
set_option maxRecDepth 100000 in
theorem zn_3_ok : ∀ q ∈ zn_3, zm_npk 3 q := by unfold zm_npk; decide +kernel
def zn_4 : List zm_NP := []
set_option maxRecDepth 100000 in
theorem zn_4_ok : ∀ q ∈ zn_4, zm_npk 4 q := by unfold zm_npk; decide +kernel
def zn_5 : List zm_NP := []
set_option maxRecDepth 100000 in
theorem zn_5_ok : ∀ q ∈ zn_5, zm_npk 5 q := by unfold zm_npk; decide +kernel
def zn_6 : List zm_NP := [(11, 100, 1, 132)]
set_option maxRecDepth 100000 in
theorem zn_6_ok : ∀ q ∈ zn_6, zm_npk 6 q := by unfold zm_npk; decide +kernel
def zn_7 : List zm_NP := []
set_option maxRecDepth 100000 in
theorem zn_7_ok : ∀ q ∈ zn_7, zm_npk 7 q := by unfold zm_npk; decide +kernel
def zn_8 : List zm_NP := []
set_option maxRecDepth 100000 in
theorem zn_8_ok : ∀ q ∈ zn_8, zm_npk 8 q := by unfold zm_npk; decide +kernel
def zn_9 : List zm_NP := []
set_option maxRecDepth 100000 in
theorem zn_9_ok : ∀ q ∈ zn_9, zm_npk 9 q := by unfold zm_npk; decide +kernel
def zn_10 : List zm_NP := [(17, 7, 1, 31), (24, 8, 1, 74), (31, 6, 1, 126), (38, 4, 1, 166), (45, 9, 1, 218), (54, 1, 2, 4), (66, 3, 2, 71), (75, 5, 2, 112), (84, 2, 2, 167), (93, 0, 2, 226)]
set_option maxRecDepth 100000 in
theorem zn_10_ok : ∀ q ∈ zn_10, zm_npk 10 q := by unfold zm_npk; decide +kernel
def zn_11 : List zm_NP := []
set_option maxRecDepth 100000 in
theorem zn_11_ok : ∀ q ∈ zn_11, zm_npk 11 q := by unfold zm_npk; decide +kernel
def zn_12 : List zm_NP := [(7, 10, 1, 22), (10, 11, 6, 151)]
set_option maxRecDepth 100000 in
theorem zn_12_ok : ∀ q ∈ zn_12, zm_npk 12 q := by unfold zm_npk; decide +kernel
def zn_13 : List zm_NP := []
set_option maxRecDepth 100000 in
theorem zn_13_ok : ∀ q ∈ zn_13, zm_npk 13 q := by unfold zm_npk; decide +kernel
def zn_14 : List zm_NP := []
set_option maxRecDepth 100000 in
theorem zn_14_ok : ∀ q ∈ zn_14, zm_npk 14 q := by unfold zm_npk; decide +kernel
def zn_15 : List zm_NP := []
set_option maxRecDepth 100000 in
theorem zn_15_ok : ∀ q ∈ zn_15, zm_npk 15 q := by unfold zm_npk; decide +kernel
def zm_fp (o : Nat) : List zm_FP := ([zf_0, zf_1, zf_2, zf_3, zf_4, zf_5, zf_6, zf_7, zf_8, zf_9, zf_10, zf_11, zf_12, zf_13, zf_14, zf_15] : List (List zm_FP)).getD o []
theorem zm_fp_ok : ∀ (o : Nat) (q : zm_FP), q ∈ zm_fp o → zm_fpk o q := by
  intro o q h
  match o with
  | 0 => exact zf_0_ok q h
  | 1 => exact zf_1_ok q h
  | 2 => exact zf_2_ok q h
  | 3 => exact zf_3_ok q h
  | 4 => exact zf_4_ok q h
  | 5 => exact zf_5_ok q h
  | 6 => exact zf_6_ok q h
  | 7 => exact zf_7_ok q h
  | 8 => exact zf_8_ok q h
  | 9 => exact zf_9_ok q h
  | 10 => exact zf_10_ok q h
  | 11 => exact zf_11_ok q h
  | 12 => exact zf_12_ok q h
  | 13 => exact zf_13_ok q h
  | 14 => exact zf_14_ok q h
  | 15 => exact zf_15_ok q h
  | n + 16 => exact absurd h List.not_mem_nil
def zm_kp (o : Nat) : List zm_KP := ([zk_0, zk_1, zk_2, zk_3, zk_4, zk_5, zk_6, zk_7, zk_8, zk_9, zk_10, zk_11, zk_12, zk_13, zk_14, zk_15] : List (List zm_KP)).getD o []
theorem zm_kp_ok : ∀ (o : Nat) (q : zm_KP), q ∈ zm_kp o → zm_kpk o q := by
  intro o q h
  match o with
  | 0 => exact zk_0_ok q h
  | 1 => exact zk_1_ok q h
  | 2 => exact zk_2_ok q h
  | 3 => exact zk_3_ok q h
  | 4 => exact zk_4_ok q h
  | 5 => exact zk_5_ok q h
  | 6 => exact zk_6_ok q h
  | 7 => exact zk_7_ok q h
  | 8 => exact zk_8_ok q h
  | 9 => exact zk_9_ok q h
  | 10 => exact zk_10_ok q h
  | 11 => exact zk_11_ok q h
  | 12 => exact zk_12_ok q h
  | 13 => exact zk_13_ok q h
  | 14 => exact zk_14_ok q h
  | 15 => exact zk_15_ok q h
  | n + 16 => exact absurd h List.not_mem_nil
def zm_lp (o : Nat) : List zm_LP := ([zl_0, zl_1, zl_2, zl_3, zl_4, zl_5, zl_6, zl_7, zl_8, zl_9, zl_10, zl_11, zl_12, zl_13, zl_14, zl_15] : List (List zm_LP)).getD o []
theorem zm_lp_ok : ∀ (o : Nat) (q : zm_LP), q ∈ zm_lp o → zm_lpk o q := by
  intro o q h
  match o with
  | 0 => exact zl_0_ok q h
  | 1 => exact zl_1_ok q h
  | 2 => exact zl_2_ok q h
  | 3 => exact zl_3_ok q h
  | 4 => exact zl_4_ok q h
  | 5 => exact zl_5_ok q h
  | 6 => exact zl_6_ok q h
  | 7 => exact zl_7_ok q h
  | 8 => exact zl_8_ok q h
  | 9 => exact zl_9_ok q h
  | 10 => exact zl_10_ok q h
  | 11 => exact zl_11_ok q h
  | 12 => exact zl_12_ok q h
  | 13 => exact zl_13_ok q h
  | 14 => exact zl_14_ok q h
  | 15 => exact zl_15_ok q h
  | n + 16 => exact absurd h List.not_mem_nil
def zm_np (o : Nat) : List zm_NP := ([zn_0, zn_1, zn_2, zn_3, zn_4, zn_5, zn_6, zn_7, zn_8, zn_9, zn_10, zn_11, zn_12, zn_13, zn_14, zn_15] : List (List zm_NP)).getD o []
theorem zm_np_ok : ∀ (o : Nat) (q : zm_NP), q ∈ zm_np o → zm_npk o q := by
  intro o q h
  match o with
  | 0 => exact zn_0_ok q h
  | 1 => exact zn_1_ok q h
  | 2 => exact zn_2_ok q h
  | 3 => exact zn_3_ok q h
  | 4 => exact zn_4_ok q h
  | 5 => exact zn_5_ok q h
  | 6 => exact zn_6_ok q h
  | 7 => exact zn_7_ok q h
  | 8 => exact zn_8_ok q h
  | 9 => exact zn_9_ok q h
  | 10 => exact zn_10_ok q h
  | 11 => exact zn_11_ok q h
  | 12 => exact zn_12_ok q h
  | 13 => exact zn_13_ok q h
  | 14 => exact zn_14_ok q h
  | 15 => exact zn_15_ok q h
  | n + 16 => exact absurd h List.not_mem_nil
/-! ===== END printed ===== -/
