def tX2_begin : List (Nat × List Et) := [(14, [(0, .aload_n 0, 1, 1, 0, [], 0), (1, .iload_n 1, 1, 2, 0, [], 0), (2, .putfield 15, 3, 5, 0, [], 0), (5, .aload_n 0, 1, 6, 0, [], 0), (6, .iload_n 2, 1, 7, 0, [], 0), (7, .putfield 19, 3, 10, 0, [], 0), (10, .aload_n 0, 1, 11, 0, [], 0), (11, .getfield 9, 3, 14, 0, [], 0), (14, .iconst 0, 1, 15, 0, [], 0)]),
  (18, [(15, .invokestatic 22, 3, 18, 0, [], 0), (18, .return_, 1, 19, 0, [], 0)])]
set_option maxRecDepth 100000 in
theorem okX2_begin : okT cX2_begin tX2_begin = true := by decide +kernel
def tX2_faultAt : List (Nat × List Et) := [(14, [(0, .aload_n 0, 1, 1, 0, [], 0), (1, .getfield 15, 3, 4, 0, [], 0), (4, .iconst (-1), 1, 5, 0, [], (-1)), (5, .if_icmp .ne 5, 3, 8, 10, [], 0), (8, .iconst 1, 1, 9, 0, [], 1), (9, .ireturn, 1, 10, 0, [], 0), (10, .aload_n 0, 1, 11, 0, [], 0), (11, .getfield 15, 3, 14, 0, [], 0), (14, .iload_n 1, 1, 15, 0, [], 0)]),
  (29, [(15, .if_icmp .eq 5, 3, 18, 20, [], 0), (18, .iconst 3, 1, 19, 0, [], 3), (19, .ireturn, 1, 20, 0, [], 0), (20, .iload_n 2, 1, 21, 0, [], 0), (21, .ifCond .lt 13, 3, 24, 34, [], 0), (24, .iload_n 2, 1, 25, 0, [], 0), (25, .aload_n 0, 1, 26, 0, [], 0), (26, .getfield 19, 3, 29, 0, [], 0), (29, .iload_n 3, 1, 30, 0, [], 0)]),
  (39, [(30, .isub, 1, 31, 0, [], 0), (31, .if_icmp .le 7, 3, 34, 38, [], 0), (34, .iconst 2, 1, 35, 0, [], 2), (35, .goto 4, 3, 38, 39, [], 0), (38, .iconst 0, 1, 39, 0, [], 0), (39, .ireturn, 1, 40, 0, [], 0)])]
set_option maxRecDepth 100000 in
theorem okX2_faultAt : okT cX2_faultAt tX2_faultAt = true := by decide +kernel
def tX2_put : List (Nat × List Et) := [(14, [(0, .aload_n 0, 1, 1, 0, [], 0), (1, .getfield 15, 3, 4, 0, [], 0), (4, .ifCond .ne 14, 3, 7, 18, [], 0), (7, .aload_n 0, 1, 8, 0, [], 0), (8, .getfield 9, 3, 11, 0, [], 0), (11, .iload_n 1, 1, 12, 0, [], 0), (12, .iload_n 2, 1, 13, 0, [], 0), (13, .i2b, 1, 14, 0, [], 0), (14, .iastore, 1, 15, 0, [], 0)]),
  (31, [(15, .goto 29, 3, 18, 44, [], 0), (18, .aload_n 0, 1, 19, 0, [], 0), (19, .getfield 15, 3, 22, 0, [], 0), (22, .iconst 1, 1, 23, 0, [], 1), (23, .if_icmp .ne 14, 3, 26, 37, [], 0), (26, .aload_n 0, 1, 27, 0, [], 0), (27, .getfield 9, 3, 30, 0, [], 0), (30, .iload_n 1, 1, 31, 0, [], 0), (31, .iload_n 2, 1, 32, 0, [], 0)]),
  (44, [(32, .i2s, 1, 33, 0, [], 0), (33, .iastore, 1, 34, 0, [], 0), (34, .goto 10, 3, 37, 44, [], 0), (37, .aload_n 0, 1, 38, 0, [], 0), (38, .getfield 9, 3, 41, 0, [], 0), (41, .iload_n 1, 1, 42, 0, [], 0), (42, .iload_n 2, 1, 43, 0, [], 0), (43, .iastore, 1, 44, 0, [], 0), (44, .return_, 1, 45, 0, [], 0)])]
set_option maxRecDepth 100000 in
theorem okX2_put : okT cX2_put tX2_put = true := by decide +kernel
