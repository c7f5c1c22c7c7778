def bX0_init : List (Nat × ac_I) := [(0, [(.aload 0, 1), (.monitorexit, 3), (.aload 0, 1), (.sipush (1), 1), (.putfield 1, 3), (.aload 0, 1), (.sipush (10), 2), (.putfield 2, 3), (.aload 0, 1), (.sipush (12), 2), (.newarray .int, 2), (.putfield 10, 3), (.aload 0, 1), (.sipush (12), 2), (.newarray .int, 2), (.putfield 11, 3), (.aload 0, 1), (.sipush (12), 2), (.newarray .int, 2), (.putfield 12, 3), (.aload 0, 1), (.sipush (60), 2), (.newarray .int, 2), (.putfield 13, 3), (.return_, 1)])]
def mX0_init : ac_M := (yX0_init, cX0_init, 1, none, 0, 2, 0, (4, 96), [], bX0_init, [110, 77, 109], [])
def bX0_clear : List (Nat × ac_I) := [(0, [(.aload 0, 1), (.sipush (0), 1), (.putfield 0, 3), (.aload 0, 1), (.sipush (1), 1), (.putfield 1, 3), (.aload 0, 1), (.sipush (10), 2), (.putfield 2, 3), (.aload 0, 1), (.sipush (0), 1), (.putfield 3, 3), (.aload 0, 1), (.sipush (0), 1), (.putfield 4, 3), (.aload 0, 1), (.sipush (0), 1), (.putfield 5, 3), (.aload 0, 1), (.sipush (0), 1), (.putfield 6, 3), (.return_, 1)])]
def mX0_clear : ac_M := (yX0_clear, cX0_clear, 1, none, 0, 0, 0, (0, 0), [], bX0_clear, [585, 77, 583, 584], [])
def bX0_join : List (Nat × ac_I) := [(0, [(.aload 0, 1), (.getfield 4, 3), (.sipush (12), 2), (.if_icmp .lt 1, 3), (.return_, 1)]),
  (10, [(.aload 0, 1), (.getfield 10, 3), (.aload 0, 1), (.getfield 4, 3), (.iload 1, 1), (.iastore, 1), (.aload 0, 1), (.getfield 11, 3), (.aload 0, 1), (.getfield 4, 3), (.iload 2, 1), (.iastore, 1), (.aload 0, 1), (.getfield 12, 3), (.aload 0, 1), (.getfield 4, 3), (.iload 3, 1), (.iastore, 1), (.iload 4, 2), (.ifCond .eq 2, 3), (.aload 0, 1), (.dup, 1), (.getfield 5, 3), (.sipush (1), 1), (.aload 0, 1), (.getfield 4, 3), (.ishl, 1), (.ior, 1), (.putfield 5, 3), (.goto 2, 0)]),
  (60, [(.aload 0, 1), (.dup, 1), (.getfield 4, 3), (.sipush (1), 1), (.iadd, 1), (.putfield 4, 3), (.return_, 1)])]
def mX0_join : ac_M := (yX0_join, cX0_join, 5, none, 0, 0, 4, (0, 0), [], bX0_join, [696, 77, 694, 695], [])
def bX0_weigh : List (Nat × ac_I) := [(0, [(.aload 0, 1), (.sipush (0), 1), (.putfield 7, 3), (.aload 0, 1), (.sipush (0), 1), (.putfield 8, 3), (.aload 0, 1), (.sipush (0), 1), (.putfield 9, 3), (.sipush (0), 1), (.istore 1, 1), (.goto 1, 0)]),
  (17, [(.iload 1, 1), (.aload 0, 1), (.getfield 4, 3), (.if_icmp .ge 8, 3), (.aload 0, 1), (.dup, 1), (.getfield 7, 3), (.aload 0, 1), (.getfield 12, 3), (.iload 1, 1), (.iaload, 1), (.aload 0, 1), (.getfield 2, 3), (.if_icmp .ge 2, 3), (.sipush (1), 1), (.iload 1, 1), (.ishl, 1), (.goto 3, 3)]),
  (49, [(.sipush (0), 1), (.goto 3, 0)]),
  (50, [(.ior, 1), (.putfield 7, 3), (.aload 0, 1), (.dup, 1), (.getfield 8, 3), (.aload 0, 1), (.getfield 12, 3), (.iload 1, 1), (.iaload, 1), (.ifCond .le 4, 3), (.sipush (1), 1), (.iload 1, 1), (.ishl, 1), (.goto 5, 3)]),
  (74, [(.sipush (0), 1), (.goto 5, 0)]),
  (75, [(.ior, 1), (.putfield 8, 3), (.aload 0, 1), (.dup, 1), (.getfield 9, 3), (.aload 0, 1), (.getfield 12, 3), (.iload 1, 1), (.iaload, 1), (.aload 0, 1), (.getfield 2, 3), (.if_icmp .le 6, 3), (.sipush (1), 1), (.iload 1, 1), (.ishl, 1), (.goto 7, 3)]),
  (103, [(.sipush (0), 1), (.goto 7, 0)]),
  (104, [(.ior, 1), (.putfield 9, 3), (.iinc 1 (1), 3), (.goto 1, 3)]),
  (114, [(.return_, 1)])]
def mX0_weigh : ac_M := (yX0_weigh, cX0_weigh, 2, none, 0, 0, 0, (0, 0), [], bX0_weigh, [707, 77, 705, 706], [])
def bX0_become : List (Nat × ac_I) := [(0, [(.aload 0, 1), (.aload 1, 1), (.getfield 0, 3), (.putfield 0, 3), (.aload 0, 1), (.aload 1, 1), (.getfield 1, 3), (.putfield 1, 3), (.aload 0, 1), (.aload 1, 1), (.getfield 2, 3), (.putfield 2, 3), (.aload 0, 1), (.aload 1, 1), (.getfield 3, 3), (.putfield 3, 3), (.aload 0, 1), (.aload 1, 1), (.getfield 4, 3), (.putfield 4, 3), (.aload 0, 1), (.aload 1, 1), (.getfield 5, 3), (.putfield 5, 3), (.aload 0, 1), (.aload 1, 1), (.getfield 6, 3), (.putfield 6, 3), (.aload 0, 1), (.aload 1, 1), (.getfield 7, 3), (.putfield 7, 3), (.aload 0, 1), (.aload 1, 1), (.getfield 8, 3), (.putfield 8, 3), (.aload 0, 1), (.aload 1, 1), (.getfield 9, 3), (.putfield 9, 3), (.aload 1, 1), (.getfield 10, 3), (.sipush (0), 1), (.aload 0, 1), (.getfield 10, 3), (.sipush (0), 1), (.sipush (12), 2), (.monitorenter, 3), (.aload 1, 1), (.getfield 11, 3), (.sipush (0), 1), (.aload 0, 1), (.getfield 11, 3), (.sipush (0), 1), (.sipush (12), 2), (.monitorenter, 3), (.aload 1, 1), (.getfield 12, 3), (.sipush (0), 1), (.aload 0, 1), (.getfield 12, 3), (.sipush (0), 1), (.sipush (12), 2), (.monitorenter, 3), (.aload 1, 1), (.getfield 13, 3), (.sipush (0), 1), (.aload 0, 1), (.getfield 13, 3), (.sipush (0), 1), (.sipush (60), 2), (.monitorenter, 3), (.return_, 1)])]
def mX0_become : ac_M := (yX0_become, cX0_become, 2, none, 0, 0, 1, (0, 0), [], bX0_become, [1069, 77, 1067, 1068], [])
def bX0_giveRule : List (Nat × ac_I) := [(0, [(.aload 0, 1), (.getfield 10, 3), (.iload 1, 1), (.iload 2, 1), (.iastore, 1), (.aload 0, 1), (.getfield 11, 3), (.iload 1, 1), (.iload 3, 1), (.iastore, 1), (.return_, 1)])]
def mX0_giveRule : ac_M := (yX0_giveRule, cX0_giveRule, 4, none, 0, 0, 3, (0, 0), [], bX0_giveRule, [1076, 77, 1074, 1075], [])
def bX0_addWeek : List (Nat × ac_I) := [(0, [(.aload 0, 1), (.getfield 6, 3), (.sipush (60), 2), (.if_icmp .ge 1, 3), (.aload 0, 1), (.getfield 13, 3), (.aload 0, 1), (.getfield 6, 3), (.iload 1, 1), (.iastore, 1), (.aload 0, 1), (.dup, 1), (.getfield 6, 3), (.sipush (1), 1), (.iadd, 1), (.putfield 6, 3), (.goto 1, 0)]),
  (29, [(.return_, 1)])]
def mX0_addWeek : ac_M := (yX0_addWeek, cX0_addWeek, 2, none, 0, 0, 1, (0, 0), [], bX0_addWeek, [781, 77, 779, 780], [])
def bX0_everyone : List (Nat × ac_I) := [(0, [(.sipush (1), 1), (.aload 0, 1), (.getfield 4, 3), (.ishl, 1), (.sipush (1), 1), (.isub, 1), (.ireturn, 1)])]
def mX0_everyone : ac_M := (yX0_everyone, cX0_everyone, 1, (some .int), 0, 0, 0, (0, 0), [], bX0_everyone, [439, 77, 437, 438], [])
def bX0_has : List (Nat × ac_I) := [(0, [(.iload 1, 1), (.iload 2, 1), (.ishr, 1), (.sipush (1), 1), (.iand, 1), (.ifCond .eq 1, 3), (.sipush (1), 1), (.goto 2, 3)]),
  (12, [(.sipush (0), 1), (.goto 2, 0)]),
  (13, [(.ireturn, 1)])]
def mX0_has : ac_M := (yX0_has, cX0_has, 3, (some .boolean), 0, 0, 2, (0, 0), [], bX0_has, [388, 77, 386, 387], [])
def bX0_lastSet : List (Nat × ac_I) := [(0, [(.aload 0, 1), (.getfield 6, 3), (.ifCond .le 1, 3), (.aload 0, 1), (.getfield 13, 3), (.aload 0, 1), (.getfield 6, 3), (.sipush (1), 1), (.isub, 1), (.iaload, 1), (.goto 2, 3)]),
  (21, [(.sipush (0), 1), (.goto 2, 0)]),
  (22, [(.ireturn, 1)])]
def mX0_lastSet : ac_M := (yX0_lastSet, cX0_lastSet, 1, (some .int), 0, 0, 0, (0, 0), [], bX0_lastSet, [376, 77, 374, 375], [])
def bX0_meets : List (Nat × ac_I) := [(0, [(.iload 1, 1), (.invokeinterface 249 1, 3), (.aload 0, 1), (.getfield 1, 3), (.if_icmp .ne 1, 3), (.sipush (1), 1), (.goto 2, 3)]),
  (15, [(.sipush (0), 1), (.goto 2, 0)]),
  (16, [(.ireturn, 1)])]
def mX0_meets : ac_M := (yX0_meets, cX0_meets, 2, (some .boolean), 0, 0, 1, (0, 0), [], bX0_meets, [392, 77, 390, 391], [])
def bX0_payOf : List (Nat × ac_I) := [(0, [(.aload 0, 1), (.iload 2, 1), (.iload 1, 1), (.multianewarray 8 48, 3), (.ifCond .ne 1, 3), (.sipush (0), 1), (.ireturn, 1)]),
  (11, [(.aload 0, 1), (.iload 2, 1), (.multianewarray 10 32, 3), (.ifCond .eq 2, 3), (.aload 0, 1), (.getfield 2, 3), (.goto 3, 3)]),
  (26, [(.sipush (0), 1), (.goto 3, 0)]),
  (27, [(.aload 0, 1), (.getfield 12, 3), (.iload 1, 1), (.iaload, 1), (.isub, 1), (.ireturn, 1)])]
def mX0_payOf : ac_M := (yX0_payOf, cX0_payOf, 3, (some .int), 0, 0, 2, (0, 0), [], bX0_payOf, [384, 77, 382, 383], [])
def bX0_gainOf : List (Nat × ac_I) := [(0, [(.aload 0, 1), (.iload 1, 1), (.iload 2, 1), (.sipush (1), 1), (.iload 1, 1), (.ishl, 1), (.ixor, 1), (.multianewarray 11 48, 3), (.aload 0, 1), (.iload 1, 1), (.iload 2, 1), (.multianewarray 11 48, 3), (.isub, 1), (.ireturn, 1)])]
def mX0_gainOf : ac_M := (yX0_gainOf, cX0_gainOf, 3, (some .int), 0, 0, 2, (0, 0), [], bX0_gainOf, [864, 77, 862, 863], [])
def bX0_payOfAll : List (Nat × ac_I) := [(0, [(.aload 0, 1), (.iload 1, 1), (.multianewarray 10 32, 3), (.ifCond .eq 1, 3), (.aload 0, 1), (.getfield 2, 3), (.aload 0, 1), (.getfield 1, 3), (.imul, 1), (.goto 2, 3)]),
  (20, [(.sipush (0), 1), (.goto 2, 0)]),
  (21, [(.istore 2, 1), (.iload 2, 1), (.aload 0, 1), (.iload 1, 1), (.multianewarray 14 32, 3), (.isub, 1), (.ireturn, 1)])]
def mX0_payOfAll : ac_M := (yX0_payOfAll, cX0_payOfAll, 3, (some .int), 0, 0, 1, (0, 0), [], bX0_payOfAll, [473, 77, 471, 472], [])
def bX0_costOfAll : List (Nat × ac_I) := [(0, [(.sipush (0), 1), (.istore 2, 1), (.sipush (0), 1), (.istore 3, 1), (.goto 1, 0)]),
  (4, [(.iload 3, 1), (.aload 0, 1), (.getfield 4, 3), (.if_icmp .ge 4, 3), (.iload 2, 1), (.aload 0, 1), (.iload 1, 1), (.iload 3, 1), (.multianewarray 8 48, 3), (.ifCond .eq 2, 3), (.aload 0, 1), (.getfield 12, 3), (.iload 3, 1), (.iaload, 1), (.goto 3, 3)]),
  (31, [(.sipush (0), 1), (.goto 3, 0)]),
  (32, [(.iadd, 1), (.istore 2, 1), (.iinc 3 (1), 3), (.goto 1, 3)]),
  (40, [(.iload 2, 1), (.ireturn, 1)])]
def mX0_costOfAll : ac_M := (yX0_costOfAll, cX0_costOfAll, 4, (some .int), 0, 0, 1, (0, 0), [], bX0_costOfAll, [477, 77, 475, 476], [])
def bX0_bribeFor : List (Nat × ac_I) := [(0, [(.sipush (0), 1), (.istore 2, 1), (.sipush (0), 1), (.istore 3, 1), (.goto 1, 0)]),
  (4, [(.iload 3, 1), (.aload 0, 1), (.getfield 4, 3), (.if_icmp .ge 2, 3), (.iload 2, 1), (.sipush (0), 1), (.aload 0, 1), (.iload 3, 1), (.iload 1, 1), (.multianewarray 12 48, 3), (.invokeinterface 253 2, 3), (.iadd, 1), (.istore 2, 1), (.iinc 3 (1), 3), (.goto 1, 3)]),
  (31, [(.iload 2, 1), (.ireturn, 1)])]
def mX0_bribeFor : ac_M := (yX0_bribeFor, cX0_bribeFor, 4, (some .int), 0, 0, 1, (0, 0), [], bX0_bribeFor, [958, 77, 956, 957], [])
def bX0_eager : List (Nat × ac_I) := [(0, [(.iload 1, 1), (.invokeinterface 249 1, 3), (.istore 2, 1), (.iload 2, 1), (.aload 0, 1), (.getfield 1, 3), (.if_icmp .ne 1, 3), (.iload 1, 1), (.aload 0, 1), (.getfield 9, 3), (.iand, 1), (.ireturn, 1)]),
  (20, [(.iload 1, 1), (.aload 0, 1), (.getfield 8, 3), (.iand, 1), (.istore 3, 1), (.iload 2, 1), (.sipush (1), 1), (.iadd, 1), (.aload 0, 1), (.getfield 1, 3), (.if_icmp .ne 2, 3), (.iload 3, 1), (.aload 0, 1), (.getfield 7, 3), (.iload 1, 1), (.sipush (-1), 1), (.ixor, 1), (.iand, 1), (.ior, 1), (.goto 3, 3)]),
  (50, [(.iload 3, 1), (.goto 3, 0)]),
  (51, [(.ireturn, 1)])]
def mX0_eager : ac_M := (yX0_eager, cX0_eager, 4, (some .int), 0, 0, 1, (0, 0), [], bX0_eager, [443, 77, 441, 442], [])
def bX0_isStrong : List (Nat × ac_I) := [(0, [(.aload 0, 1), (.iload 1, 1), (.multianewarray 16 32, 3), (.ifCond .eq 1, 3), (.sipush (0), 1), (.ireturn, 1)]),
  (10, [(.iload 1, 1), (.invokeinterface 249 1, 3), (.sipush (2), 1), (.iadd, 1), (.aload 0, 1), (.getfield 1, 3), (.if_icmp .ne 2, 3), (.sipush (1), 1), (.goto 3, 3)]),
  (27, [(.sipush (0), 1), (.goto 3, 0)]),
  (28, [(.istore 2, 1), (.iload 2, 1), (.ifCond .eq 4, 3), (.aload 0, 1), (.getfield 7, 3), (.iload 1, 1), (.sipush (-1), 1), (.ixor, 1), (.iand, 1), (.invokeinterface 249 1, 3), (.sipush (2), 1), (.if_icmp .ge 5, 3), (.goto 4, 0)]),
  (48, [(.sipush (1), 1), (.goto 6, 3)]),
  (52, [(.sipush (0), 1), (.goto 6, 0)]),
  (53, [(.ireturn, 1)])]
def mX0_isStrong : ac_M := (yX0_isStrong, cX0_isStrong, 3, (some .boolean), 0, 0, 1, (0, 0), [], bX0_isStrong, [451, 77, 449, 450], [])
def bX0_thoughts : List (Nat × ac_I) := [(0, [(.iload 1, 1), (.istore 3, 1), (.sipush (0), 1), (.istore 4, 2), (.goto 1, 0)]),
  (5, [(.iload 4, 2), (.iload 2, 1), (.if_icmp .ge 6, 3), (.iload 3, 1), (.invokeinterface 249 1, 3), (.istore 5, 2), (.iload 5, 2), (.aload 0, 1), (.getfield 1, 3), (.if_icmp .ne 2, 3), (.iload 3, 1), (.aload 0, 1), (.getfield 7, 3), (.iand, 1), (.istore 3, 1), (.goto 5, 3)]),
  (36, [(.iload 5, 2), (.sipush (1), 1), (.iadd, 1), (.aload 0, 1), (.getfield 1, 3), (.if_icmp .ne 3, 3), (.aload 0, 1), (.getfield 7, 3), (.iload 3, 1), (.sipush (-1), 1), (.ixor, 1), (.iand, 1), (.goto 4, 3)]),
  (58, [(.sipush (0), 1), (.goto 4, 0)]),
  (59, [(.istore 3, 1), (.goto 5, 0)]),
  (60, [(.iinc 4 (1), 3), (.goto 1, 3)]),
  (66, [(.iload 3, 1), (.ireturn, 1)])]
def mX0_thoughts : ac_M := (yX0_thoughts, cX0_thoughts, 6, (some .int), 0, 0, 2, (0, 0), [], bX0_thoughts, [425, 77, 423, 424], [])
def bX0_hatsAhead : List (Nat × ac_I) := [(0, [(.iload 2, 1), (.aload 0, 1), (.getfield 5, 3), (.ior, 1), (.sipush (1), 1), (.iload 1, 1), (.ishl, 1), (.sipush (1), 1), (.isub, 1), (.iand, 1), (.ireturn, 1)])]
def mX0_hatsAhead : ac_M := (yX0_hatsAhead, cX0_hatsAhead, 3, (some .int), 0, 0, 2, (0, 0), [], bX0_hatsAhead, [412, 77, 410, 411], [])
def bX0_comesBySeeing : List (Nat × ac_I) := [(0, [(.aload 0, 1), (.getfield 10, 3), (.iload 1, 1), (.iaload, 1), (.sipush (7), 2), (.if_icmp .ne 2, 3), (.iload 2, 1), (.aload 0, 1), (.getfield 11, 3), (.iload 1, 1), (.iaload, 1), (.if_icmp .ge 1, 3), (.sipush (1), 1), (.goto 4, 3)]),
  (25, [(.sipush (0), 1), (.goto 4, 3)]),
  (29, [(.iload 2, 1), (.aload 0, 1), (.getfield 11, 3), (.iload 1, 1), (.iaload, 1), (.if_icmp .ne 3, 3), (.sipush (1), 1), (.goto 4, 3)]),
  (43, [(.sipush (0), 1), (.goto 4, 0)]),
  (44, [(.ireturn, 1)])]
def mX0_comesBySeeing : ac_M := (yX0_comesBySeeing, cX0_comesBySeeing, 3, (some .boolean), 0, 0, 2, (0, 0), [], bX0_comesBySeeing, [421, 77, 419, 420], [])
def bX0_hasLearner : List (Nat × ac_I) := [(0, [(.sipush (0), 1), (.istore 1, 1), (.goto 1, 0)]),
  (2, [(.iload 1, 1), (.aload 0, 1), (.getfield 4, 3), (.if_icmp .ge 3, 3), (.aload 0, 1), (.getfield 10, 3), (.iload 1, 1), (.iaload, 1), (.sipush (10), 2), (.if_icmp .ne 2, 3), (.sipush (1), 1), (.ireturn, 1)]),
  (23, [(.iinc 1 (1), 3), (.goto 1, 3)]),
  (29, [(.sipush (0), 1), (.ireturn, 1)])]
def mX0_hasLearner : ac_M := (yX0_hasLearner, cX0_hasLearner, 2, (some .boolean), 0, 0, 0, (0, 0), [], bX0_hasLearner, [1051, 77, 1049, 1050], [])
def bX0_roundOfWeeks : List (Nat × ac_I) := [(0, [(.sipush (1), 1), (.istore 1, 1), (.sipush (0), 1), (.istore 2, 1), (.goto 1, 0)]),
  (4, [(.iload 2, 1), (.aload 0, 1), (.getfield 4, 3), (.if_icmp .ge 3, 3), (.aload 0, 1), (.getfield 10, 3), (.iload 2, 1), (.iaload, 1), (.sipush (6), 2), (.if_icmp .ne 2, 3), (.iload 1, 1), (.aload 0, 1), (.getfield 11, 3), (.iload 2, 1), (.iaload, 1), (.invokeinterface 23 2, 3), (.istore 1, 1), (.goto 2, 0)]),
  (34, [(.iinc 2 (1), 3), (.goto 1, 3)]),
  (40, [(.iload 1, 1), (.ireturn, 1)])]
def mX0_roundOfWeeks : ac_M := (yX0_roundOfWeeks, cX0_roundOfWeeks, 3, (some .int), 0, 0, 0, (0, 0), [], bX0_roundOfWeeks, [1055, 77, 1053, 1054], [])
def bX0_leastMultiple : List (Nat × ac_I) := [(0, [(.sipush (1), 1), (.istore 2, 1), (.goto 1, 0)]),
  (2, [(.iload 2, 1), (.iload 1, 1), (.if_icmp .gt 3, 3), (.iload 0, 1), (.iload 2, 1), (.imul, 1), (.iload 1, 1), (.irem, 1), (.ifCond .ne 2, 3), (.iload 0, 1), (.iload 2, 1), (.imul, 1), (.ireturn, 1)]),
  (19, [(.iinc 2 (1), 3), (.goto 1, 3)]),
  (25, [(.iload 0, 1), (.ireturn, 1)])]
def mX0_leastMultiple : ac_M := (yX0_leastMultiple, cX0_leastMultiple, 3, (some .int), 0, 1, 2, (0, 0), [], bX0_leastMultiple, [1058, 77, 1057], [])
def bX0_weeksOf : List (Nat × ac_I) := [(0, [(.sipush (0), 1), (.istore 2, 1), (.sipush (0), 1), (.istore 3, 1), (.goto 1, 0)]),
  (4, [(.iload 3, 1), (.aload 0, 1), (.getfield 6, 3), (.if_icmp .ge 4, 3), (.iload 2, 1), (.aload 0, 1), (.getfield 13, 3), (.iload 3, 1), (.iaload, 1), (.iload 1, 1), (.iand, 1), (.iload 1, 1), (.if_icmp .ne 2, 3), (.sipush (1), 1), (.goto 3, 3)]),
  (29, [(.sipush (0), 1), (.goto 3, 0)]),
  (30, [(.iadd, 1), (.istore 2, 1), (.iinc 3 (1), 3), (.goto 1, 3)]),
  (38, [(.iload 2, 1), (.ireturn, 1)])]
def mX0_weeksOf : ac_M := (yX0_weeksOf, cX0_weeksOf, 4, (some .int), 0, 0, 1, (0, 0), [], bX0_weeksOf, [493, 77, 491, 492], [])
def bX0_dinnersOf : List (Nat × ac_I) := [(0, [(.sipush (0), 1), (.istore 2, 1), (.sipush (0), 1), (.istore 3, 1), (.goto 1, 0)]),
  (4, [(.iload 3, 1), (.aload 0, 1), (.getfield 6, 3), (.if_icmp .ge 4, 3), (.iload 2, 1), (.aload 0, 1), (.aload 0, 1), (.getfield 13, 3), (.iload 3, 1), (.iaload, 1), (.iload 1, 1), (.multianewarray 8 48, 3), (.ifCond .eq 2, 3), (.aload 0, 1), (.aload 0, 1), (.getfield 13, 3), (.iload 3, 1), (.iaload, 1), (.multianewarray 10 32, 3), (.ifCond .eq 2, 3), (.sipush (1), 1), (.goto 3, 3)]),
  (44, [(.sipush (0), 1), (.goto 3, 0)]),
  (45, [(.iadd, 1), (.istore 2, 1), (.iinc 3 (1), 3), (.goto 1, 3)]),
  (53, [(.iload 2, 1), (.ireturn, 1)])]
def mX0_dinnersOf : ac_M := (yX0_dinnersOf, cX0_dinnersOf, 4, (some .int), 0, 0, 1, (0, 0), [], bX0_dinnersOf, [738, 77, 736, 737], [])
def bX0_weeksMet : List (Nat × ac_I) := [(0, [(.aload 0, 1), (.aload 0, 1), (.getfield 1, 3), (.aload 0, 1), (.getfield 6, 3), (.multianewarray 27 48, 3), (.ireturn, 1)])]
def mX0_weeksMet : ac_M := (yX0_weeksMet, cX0_weeksMet, 1, (some .int), 0, 0, 0, (0, 0), [], bX0_weeksMet, [501, 77, 499, 500], [])
def bX0_weeksOfJust : List (Nat × ac_I) := [(0, [(.sipush (0), 1), (.istore 3, 1), (.sipush (0), 1), (.istore 4, 2), (.goto 1, 0)]),
  (5, [(.iload 4, 2), (.iload 2, 1), (.if_icmp .ge 4, 3), (.iload 3, 1), (.aload 0, 1), (.getfield 13, 3), (.iload 4, 2), (.iaload, 1), (.invokeinterface 249 1, 3), (.iload 1, 1), (.if_icmp .ne 2, 3), (.sipush (1), 1), (.goto 3, 3)]),
  (30, [(.sipush (0), 1), (.goto 3, 0)]),
  (31, [(.iadd, 1), (.istore 3, 1), (.iinc 4 (1), 3), (.goto 1, 3)]),
  (39, [(.iload 3, 1), (.ireturn, 1)])]
def mX0_weeksOfJust : ac_M := (yX0_weeksOfJust, cX0_weeksOfJust, 5, (some .int), 0, 0, 2, (0, 0), [], bX0_weeksOfJust, [485, 77, 483, 484], [])
def bX0_guessOf : List (Nat × ac_I) := [(0, [(.iload 2, 1), (.ifCond .gt 1, 3), (.sipush (-1), 1), (.ireturn, 1)]),
  (6, [(.iload 1, 1), (.tableswitch 5 0 2 #[2, 3, 4], 25)]),
  (32, [(.aload 0, 1), (.getfield 13, 3), (.iload 2, 1), (.sipush (1), 1), (.isub, 1), (.iaload, 1), (.invokeinterface 249 1, 3), (.ireturn, 1)]),
  (44, [(.aload 0, 1), (.iload 2, 1), (.multianewarray 29 32, 3), (.iload 2, 1), (.idiv, 1), (.ireturn, 1)]),
  (52, [(.aload 0, 1), (.iload 2, 1), (.multianewarray 30 32, 3), (.ireturn, 1)]),
  (58, [(.aload 0, 1), (.getfield 1, 3), (.ireturn, 1)])]
def mX0_guessOf : ac_M := (yX0_guessOf, cX0_guessOf, 3, (some .int), 0, 0, 2, (0, 0), [], bX0_guessOf, [1129, 77, 1127, 1128], [])
def bX0_comersUntil : List (Nat × ac_I) := [(0, [(.sipush (0), 1), (.istore 2, 1), (.sipush (0), 1), (.istore 3, 1), (.goto 1, 0)]),
  (4, [(.iload 3, 1), (.iload 1, 1), (.if_icmp .ge 2, 3), (.iload 2, 1), (.aload 0, 1), (.getfield 13, 3), (.iload 3, 1), (.iaload, 1), (.invokeinterface 249 1, 3), (.iadd, 1), (.istore 2, 1), (.iinc 3 (1), 3), (.goto 1, 3)]),
  (27, [(.iload 2, 1), (.ireturn, 1)])]
def mX0_comersUntil : ac_M := (yX0_comersUntil, cX0_comersUntil, 4, (some .int), 0, 0, 1, (0, 0), [], bX0_comersUntil, [1133, 77, 1132, 24], [])
def bX0_mostOftenUntil : List (Nat × ac_I) := [(0, [(.sipush (0), 1), (.istore 2, 1), (.sipush (0), 1), (.istore 3, 1), (.sipush (0), 1), (.istore 4, 2), (.goto 1, 0)]),
  (7, [(.iload 4, 2), (.aload 0, 1), (.getfield 4, 3), (.if_icmp .gt 3, 3), (.aload 0, 1), (.iload 4, 2), (.iload 1, 1), (.multianewarray 27 48, 3), (.istore 5, 2), (.iload 5, 2), (.iload 3, 1), (.if_icmp .le 2, 3), (.iload 4, 2), (.istore 2, 1), (.iload 5, 2), (.istore 3, 1), (.goto 2, 0)]),
  (37, [(.iinc 4 (1), 3), (.goto 1, 3)]),
  (43, [(.iload 2, 1), (.ireturn, 1)])]
def mX0_mostOftenUntil : ac_M := (yX0_mostOftenUntil, cX0_mostOftenUntil, 6, (some .int), 0, 0, 1, (0, 0), [], bX0_mostOftenUntil, [1137, 77, 1136, 25], [])
def bX1_init : List (Nat × ac_I) := [(0, [(.aload 0, 1), (.monitorexit, 3), (.aload 0, 1), (.sipush (12), 2), (.newarray .int, 2), (.putfield 37, 3), (.aload 0, 1), (.aload 1, 1), (.putfield 32, 3), (.return_, 1)])]
def mX1_init : ac_M := (yX1_init, cX1_init, 2, none, 1, 2, 1, (1, 12), [], bX1_init, [227, 79, 226], [])
def bX1_start : List (Nat × ac_I) := [(0, [(.aload 0, 1), (.aload 1, 1), (.putfield 32, 3), (.aload 0, 1), (.aload 1, 1), (.getfield 6, 3), (.putfield 33, 3), (.aload 0, 1), (.aload 1, 1), (.multianewarray 9 16, 3), (.putfield 34, 3), (.aload 0, 1), (.sipush (0), 1), (.putfield 35, 3), (.sipush (0), 1), (.istore 2, 1), (.goto 1, 0)]),
  (28, [(.iload 2, 1), (.aload 1, 1), (.getfield 4, 3), (.if_icmp .ge 3, 3), (.aload 0, 1), (.getfield 37, 3), (.iload 2, 1), (.sipush (0), 1), (.iastore, 1), (.aload 1, 1), (.getfield 10, 3), (.iload 2, 1), (.iaload, 1), (.sipush (10), 2), (.if_icmp .ne 2, 3), (.aload 0, 1), (.iload 2, 1), (.multianewarray 33 33, 3), (.goto 2, 0)]),
  (59, [(.iinc 2 (1), 3), (.goto 1, 3)]),
  (65, [(.return_, 1)])]
def mX1_start : ac_M := (yX1_start, cX1_start, 3, none, 1, 0, 1, (0, 0), [], bX1_start, [372, 79, 370, 371], [])
def bX1_recall : List (Nat × ac_I) := [(0, [(.sipush (0), 1), (.istore 2, 1), (.goto 1, 0)]),
  (2, [(.iload 2, 1), (.aload 0, 1), (.getfield 32, 3), (.getfield 6, 3), (.if_icmp .ge 2, 3), (.aload 0, 1), (.getfield 37, 3), (.iload 1, 1), (.dup2, 1), (.iaload, 1), (.aload 0, 1), (.getfield 32, 3), (.iload 1, 1), (.aload 0, 1), (.getfield 32, 3), (.getfield 13, 3), (.iload 2, 1), (.iaload, 1), (.sipush (1), 1), (.iload 1, 1), (.ishl, 1), (.ior, 1), (.multianewarray 11 48, 3), (.iadd, 1), (.iastore, 1), (.iinc 2 (1), 3), (.goto 1, 3)]),
  (49, [(.return_, 1)])]
def mX1_recall : ac_M := (yX1_recall, cX1_recall, 3, none, 1, 0, 1, (0, 0), [], bX1_recall, [380, 79, 379, 0], [])
def ms0 : List ac_M := [mX0_init, mX0_clear, mX0_join, mX0_weigh, mX0_become, mX0_giveRule, mX0_addWeek, mX0_everyone, mX0_has, mX0_lastSet, mX0_meets, mX0_payOf, mX0_gainOf, mX0_payOfAll, mX0_costOfAll, mX0_bribeFor, mX0_eager, mX0_isStrong, mX0_thoughts, mX0_hatsAhead, mX0_comesBySeeing, mX0_hasLearner, mX0_roundOfWeeks, mX0_leastMultiple, mX0_weeksOf, mX0_dinnersOf, mX0_weeksMet, mX0_weeksOfJust, mX0_guessOf, mX0_comersUntil, mX0_mostOftenUntil, mX1_init, mX1_start, mX1_recall]
def bX1_go : List (Nat × ac_I) := [(0, [(.aload 0, 1), (.multianewarray 36 17, 3), (.istore 1, 1), (.sipush (0), 1), (.istore 2, 1), (.goto 1, 0)]),
  (7, [(.iload 2, 1), (.aload 0, 1), (.getfield 32, 3), (.getfield 4, 3), (.if_icmp .ge 3, 3), (.aload 0, 1), (.getfield 32, 3), (.getfield 10, 3), (.iload 2, 1), (.iaload, 1), (.sipush (10), 2), (.if_icmp .ne 2, 3), (.aload 0, 1), (.getfield 37, 3), (.iload 2, 1), (.dup2, 1), (.iaload, 1), (.aload 0, 1), (.getfield 32, 3), (.iload 2, 1), (.iload 1, 1), (.sipush (1), 1), (.iload 2, 1), (.ishl, 1), (.ior, 1), (.multianewarray 11 48, 3), (.iadd, 1), (.iastore, 1), (.goto 2, 0)]),
  (54, [(.iinc 2 (1), 3), (.goto 1, 3)]),
  (60, [(.aload 0, 1), (.iload 1, 1), (.putfield 34, 3), (.aload 0, 1), (.dup, 1), (.getfield 33, 3), (.sipush (1), 1), (.iadd, 1), (.putfield 33, 3), (.iload 1, 1), (.ireturn, 1)])]
def mX1_go : ac_M := (yX1_go, cX1_go, 3, (some .int), 1, 0, 0, (0, 0), [], bX1_go, [853, 79, 851, 852], [])
def bX1_comersInFog : List (Nat × ac_I) := [(0, [(.aload 0, 1), (.sipush (1), 1), (.putfield 35, 3), (.aload 0, 1), (.iload 1, 1), (.putfield 36, 3), (.aload 0, 1), (.multianewarray 36 17, 3), (.ireturn, 1)])]
def mX1_comersInFog : ac_M := (yX1_comersInFog, cX1_comersInFog, 2, (some .int), 1, 0, 1, (0, 0), [], bX1_comersInFog, [776, 79, 774, 775], [])
def bX1_comers : List (Nat × ac_I) := [(0, [(.sipush (0), 1), (.istore 1, 1), (.sipush (0), 1), (.istore 2, 1), (.goto 1, 0)]),
  (4, [(.iload 2, 1), (.aload 0, 1), (.getfield 32, 3), (.getfield 4, 3), (.if_icmp .ge 3, 3), (.aload 0, 1), (.iload 2, 1), (.iload 1, 1), (.multianewarray 37 49, 3), (.ifCond .eq 2, 3), (.iload 1, 1), (.sipush (1), 1), (.iload 2, 1), (.ishl, 1), (.ior, 1), (.istore 1, 1), (.goto 2, 0)]),
  (30, [(.iinc 2 (1), 3), (.goto 1, 3)]),
  (36, [(.iload 1, 1), (.ireturn, 1)])]
def mX1_comers : ac_M := (yX1_comers, cX1_comers, 3, (some .int), 1, 0, 0, (0, 0), [], bX1_comers, [402, 79, 400, 401], [])
def bX1_comes : List (Nat × ac_I) := [(0, [(.aload 0, 1), (.getfield 32, 3), (.getfield 11, 3), (.iload 1, 1), (.iaload, 1), (.istore 3, 1), (.aload 0, 1), (.getfield 32, 3), (.getfield 10, 3), (.iload 1, 1), (.iaload, 1), (.tableswitch 20 0 10 #[1, 20, 2, 3, 6, 9, 12, 15, 15, 16, 17], 57)]),
  (76, [(.sipush (1), 1), (.ireturn, 1)]),
  (78, [(.aload 0, 1), (.getfield 32, 3), (.aload 0, 1), (.getfield 34, 3), (.iload 1, 1), (.multianewarray 8 48, 3), (.ireturn, 1)]),
  (91, [(.aload 0, 1), (.getfield 32, 3), (.aload 0, 1), (.getfield 34, 3), (.iload 1, 1), (.multianewarray 8 48, 3), (.ifCond .ne 4, 3), (.sipush (1), 1), (.goto 5, 3)]),
  (110, [(.sipush (0), 1), (.goto 5, 0)]),
  (111, [(.ireturn, 1)]),
  (112, [(.aload 0, 1), (.getfield 34, 3), (.invokeinterface 249 1, 3), (.iload 3, 1), (.if_icmp .ge 7, 3), (.sipush (1), 1), (.goto 8, 3)]),
  (127, [(.sipush (0), 1), (.goto 8, 0)]),
  (128, [(.ireturn, 1)]),
  (129, [(.aload 0, 1), (.getfield 34, 3), (.invokeinterface 249 1, 3), (.iload 3, 1), (.if_icmp .le 10, 3), (.sipush (1), 1), (.goto 11, 3)]),
  (144, [(.sipush (0), 1), (.goto 11, 0)]),
  (145, [(.ireturn, 1)]),
  (146, [(.iload 3, 1), (.ifCond .le 13, 3), (.aload 0, 1), (.getfield 33, 3), (.iload 3, 1), (.irem, 1), (.ifCond .ne 13, 3), (.sipush (1), 1), (.goto 14, 3)]),
  (163, [(.sipush (0), 1), (.goto 14, 0)]),
  (164, [(.ireturn, 1)]),
  (165, [(.aload 0, 1), (.getfield 32, 3), (.iload 1, 1), (.aload 0, 1), (.aload 0, 1), (.getfield 32, 3), (.iload 1, 1), (.iload 2, 1), (.multianewarray 19 48, 3), (.multianewarray 38 33, 3), (.multianewarray 20 48, 3), (.ireturn, 1)]),
  (187, [(.aload 0, 1), (.getfield 32, 3), (.aload 0, 1), (.getfield 32, 3), (.aload 0, 1), (.getfield 34, 3), (.iload 3, 1), (.multianewarray 18 48, 3), (.iload 1, 1), (.multianewarray 8 48, 3), (.ireturn, 1)]),
  (208, [(.aload 0, 1), (.getfield 37, 3), (.iload 1, 1), (.iaload, 1), (.ifCond .le 18, 3), (.sipush (1), 1), (.goto 19, 3)]),
  (221, [(.sipush (0), 1), (.goto 19, 0)]),
  (222, [(.ireturn, 1)]),
  (223, [(.sipush (0), 1), (.ireturn, 1)])]
def mX1_comes : ac_M := (yX1_comes, cX1_comes, 4, (some .boolean), 1, 0, 2, (0, 0), [], bX1_comes, [406, 79, 405, 1], [])
def bX1_hatsSeen : List (Nat × ac_I) := [(0, [(.aload 0, 1), (.getfield 35, 3), (.ifCond .ne 1, 3), (.iload 1, 1), (.invokeinterface 249 1, 3), (.ireturn, 1)]),
  (12, [(.sipush (0), 1), (.istore 2, 1), (.sipush (0), 1), (.istore 3, 1), (.goto 2, 0)]),
  (16, [(.iload 3, 1), (.aload 0, 1), (.getfield 32, 3), (.getfield 4, 3), (.if_icmp .ge 6, 3), (.aload 0, 1), (.getfield 32, 3), (.iload 1, 1), (.iload 3, 1), (.multianewarray 8 48, 3), (.ifCond .eq 5, 3), (.aload 0, 1), (.sipush (1103515245), 2), (.aload 0, 1), (.getfield 36, 3), (.imul, 1), (.sipush (12345), 3), (.iadd, 1), (.putfield 36, 3), (.iload 2, 1), (.aload 0, 1), (.getfield 36, 3), (.sipush (16), 2), (.iushr, 1), (.sipush (100), 2), (.irem, 1), (.aload 0, 1), (.getfield 32, 3), (.getfield 3, 3), (.if_icmp .ge 3, 3), (.sipush (0), 1), (.goto 4, 3)]),
  (79, [(.sipush (1), 1), (.goto 4, 0)]),
  (80, [(.iadd, 1), (.istore 2, 1), (.goto 5, 0)]),
  (82, [(.iinc 3 (1), 3), (.goto 2, 3)]),
  (88, [(.iload 2, 1), (.ireturn, 1)])]
def mX1_hatsSeen : ac_M := (yX1_hatsSeen, cX1_hatsSeen, 4, (some .int), 1, 0, 1, (0, 0), [], bX1_hatsSeen, [416, 79, 415, 2], [])
def bX1_meetings : List (Nat × ac_I) := [(0, [(.aload 0, 1), (.aload 1, 1), (.multianewarray 32 33, 3), (.sipush (0), 1), (.istore 3, 1), (.sipush (0), 1), (.istore 4, 2), (.goto 1, 0)]),
  (10, [(.iload 4, 2), (.iload 2, 1), (.if_icmp .ge 4, 3), (.iload 3, 1), (.aload 1, 1), (.aload 0, 1), (.multianewarray 34 17, 3), (.multianewarray 10 32, 3), (.ifCond .eq 2, 3), (.sipush (1), 1), (.goto 3, 3)]),
  (32, [(.sipush (0), 1), (.goto 3, 0)]),
  (33, [(.iadd, 1), (.istore 3, 1), (.iinc 4 (1), 3), (.goto 1, 3)]),
  (41, [(.iload 3, 1), (.ireturn, 1)])]
def mX1_meetings : ac_M := (yX1_meetings, cX1_meetings, 5, (some .int), 1, 0, 2, (0, 0), [], bX1_meetings, [1037, 79, 1035, 1036], [])
def bX1_payAhead : List (Nat × ac_I) := [(0, [(.aload 0, 1), (.aload 1, 1), (.multianewarray 32 33, 3), (.sipush (0), 1), (.istore 4, 2), (.sipush (0), 1), (.istore 5, 2), (.goto 1, 0)]),
  (11, [(.iload 5, 2), (.iload 3, 1), (.if_icmp .ge 2, 3), (.iload 4, 2), (.aload 1, 1), (.iload 2, 1), (.aload 0, 1), (.multianewarray 34 17, 3), (.multianewarray 11 48, 3), (.iadd, 1), (.istore 4, 2), (.iinc 5 (1), 3), (.goto 1, 3)]),
  (37, [(.iload 4, 2), (.ireturn, 1)])]
def mX1_payAhead : ac_M := (yX1_payAhead, cX1_payAhead, 6, (some .int), 1, 0, 3, (0, 0), [], bX1_payAhead, [1096, 79, 1094, 1095], [])
def bX2_init : List (Nat × ac_I) := [(0, [(.aload 0, 1), (.monitorexit, 3), (.aload 0, 1), (.sipush (700), 3), (.newarray .byte, 2), (.putfield 64, 3), (.aload 0, 1), (.sipush (-1), 1), (.putfield 67, 3), (.aload 0, 1), (.aload 1, 1), (.putfield 72, 3), (.return_, 1)])]
def mX2_init : ac_M := (yX2_init, cX2_init, 2, none, 2, 2, 1, (1, 700), [], bX2_init, [189, 78, 188], [])
def bX2_lay : List (Nat × ac_I) := [(0, [(.sipush (24), 2), (.istore 2, 1), (.goto 1, 0)]),
  (3, [(.iload 2, 1), (.ifCond .lt 3, 3), (.aload 0, 1), (.getfield 65, 3), (.sipush (700), 3), (.if_icmp .ge 2, 3), (.aload 0, 1), (.getfield 64, 3), (.aload 0, 1), (.getfield 65, 3), (.iload 1, 1), (.iload 2, 1), (.ishr, 1), (.i2b, 1), (.bastore, 1), (.aload 0, 1), (.dup, 1), (.getfield 65, 3), (.sipush (1), 1), (.iadd, 1), (.putfield 65, 3), (.goto 2, 0)]),
  (40, [(.iinc 2 (-8), 3), (.goto 1, 3)]),
  (46, [(.return_, 1)])]
def mX2_lay : ac_M := (yX2_lay, cX2_lay, 3, none, 2, 0, 1, (0, 0), [], bX2_lay, [360, 78, 358, 359], [])
def bX2_read : List (Nat × ac_I) := [(0, [(.aload 0, 1), (.sipush (0), 1), (.putfield 66, 3), (.aload 0, 1), (.sipush (-1), 1), (.putfield 67, 3), (.aload 0, 1), (.iload 1, 1), (.putfield 68, 3), (.aload 0, 1), (.sipush (0), 1), (.putfield 69, 3), (.aload 0, 1), (.aload 2, 1), (.putfield 72, 3), (.aload 2, 1), (.multianewarray 1 16, 3), (.aload 0, 1), (.multianewarray 53 18, 3), (.sipush (0), 1), (.istore 3, 1), (.goto 1, 0)]),
  (35, [(.iload 3, 1), (.sipush (700), 3), (.if_icmp .ge 3, 3), (.aload 0, 1), (.getfield 70, 3), (.sipush (4), 1), (.if_icmp .eq 3, 3), (.aload 0, 1), (.multianewarray 44 18, 3), (.ifCond .ne 2, 3), (.sipush (0), 1), (.ireturn, 1)]),
  (59, [(.aload 2, 1), (.dup, 1), (.getfield 0, 3), (.sipush (1), 1), (.iadd, 1), (.putfield 0, 3), (.iinc 3 (1), 3), (.goto 1, 3)]),
  (75, [(.aload 2, 1), (.multianewarray 3 16, 3), (.sipush (1), 1), (.ireturn, 1)])]
def mX2_read : ac_M := (yX2_read, cX2_read, 4, (some .boolean), 2, 0, 2, (0, 0), [], bX2_read, [581, 78, 579, 580], [])
def bX2_readLine : List (Nat × ac_I) := [(0, [(.aload 0, 1), (.ldc 0, 2), (.multianewarray 52 34, 3), (.ifCond .eq 3, 3), (.aload 0, 1), (.multianewarray 45 18, 3), (.ifCond .eq 1, 3), (.aload 0, 1), (.multianewarray 48 18, 3), (.ifCond .eq 1, 3), (.sipush (1), 1), (.goto 2, 3)]),
  (27, [(.sipush (0), 1), (.goto 2, 0)]),
  (28, [(.ireturn, 1)]),
  (29, [(.aload 0, 1), (.ldc 14, 2), (.multianewarray 52 34, 3), (.ifCond .eq 6, 3), (.aload 0, 1), (.multianewarray 53 18, 3), (.aload 0, 1), (.getfield 72, 3), (.aload 0, 1), (.sipush (1), 1), (.sipush (12), 2), (.multianewarray 49 50, 3), (.putfield 1, 3), (.aload 0, 1), (.getfield 72, 3), (.getfield 1, 3), (.sipush (-1), 1), (.if_icmp .eq 4, 3), (.aload 0, 1), (.multianewarray 48 18, 3), (.ifCond .eq 4, 3), (.sipush (1), 1), (.goto 5, 3)]),
  (78, [(.sipush (0), 1), (.goto 5, 0)]),
  (79, [(.ireturn, 1)]),
  (80, [(.aload 0, 1), (.ldc 15, 2), (.multianewarray 52 34, 3), (.ifCond .eq 9, 3), (.aload 0, 1), (.multianewarray 53 18, 3), (.aload 0, 1), (.getfield 72, 3), (.aload 0, 1), (.sipush (0), 1), (.sipush (999), 3), (.multianewarray 49 50, 3), (.putfield 2, 3), (.aload 0, 1), (.getfield 72, 3), (.getfield 2, 3), (.sipush (-1), 1), (.if_icmp .eq 7, 3), (.aload 0, 1), (.multianewarray 48 18, 3), (.ifCond .eq 7, 3), (.sipush (1), 1), (.goto 8, 3)]),
  (130, [(.sipush (0), 1), (.goto 8, 0)]),
  (131, [(.ireturn, 1)]),
  (132, [(.aload 0, 1), (.ldc 16, 2), (.multianewarray 52 34, 3), (.ifCond .eq 12, 3), (.aload 0, 1), (.multianewarray 53 18, 3), (.aload 0, 1), (.getfield 72, 3), (.aload 0, 1), (.sipush (0), 1), (.sipush (100), 2), (.multianewarray 49 50, 3), (.putfield 3, 3), (.aload 0, 1), (.getfield 72, 3), (.getfield 3, 3), (.sipush (-1), 1), (.if_icmp .eq 10, 3), (.aload 0, 1), (.multianewarray 48 18, 3), (.ifCond .eq 10, 3), (.sipush (1), 1), (.goto 11, 3)]),
  (181, [(.sipush (0), 1), (.goto 11, 0)]),
  (182, [(.ireturn, 1)]),
  (183, [(.aload 0, 1), (.multianewarray 50 18, 3), (.ireturn, 1)])]
def mX2_readLine : ac_M := (yX2_readLine, cX2_readLine, 1, (some .boolean), 2, 0, 0, (0, 0), [], bX2_readLine, [599, 78, 598, 6], [])
def bX2_readMember : List (Nat × ac_I) := [(0, [(.aload 0, 1), (.getfield 72, 3), (.getfield 4, 3), (.sipush (12), 2), (.if_icmp .lt 1, 3), (.aload 0, 1), (.sipush (4), 1), (.multianewarray 51 34, 3), (.ireturn, 1)]),
  (18, [(.aload 0, 1), (.multianewarray 53 18, 3), (.aload 0, 1), (.multianewarray 46 18, 3), (.istore 1, 1), (.iload 1, 1), (.sipush (-1), 1), (.if_icmp .ne 2, 3), (.aload 0, 1), (.multianewarray 50 18, 3), (.ireturn, 1)]),
  (37, [(.aload 0, 1), (.multianewarray 53 18, 3), (.iload 1, 1), (.sipush (4), 1), (.if_icmp .lt 3, 3), (.iload 1, 1), (.sipush (9), 2), (.if_icmp .gt 3, 3), (.sipush (1), 1), (.goto 4, 3)]),
  (56, [(.sipush (0), 1), (.goto 4, 0)]),
  (57, [(.istore 2, 1), (.iload 2, 1), (.ifCond .eq 5, 3), (.aload 0, 1), (.getstatic 0, 3), (.iload 1, 1), (.daload, 1), (.getstatic 1, 3), (.iload 1, 1), (.saload, 1), (.multianewarray 49 50, 3), (.goto 6, 3)]),
  (79, [(.sipush (0), 1), (.goto 6, 0)]),
  (80, [(.istore 3, 1), (.iload 3, 1), (.sipush (-1), 1), (.if_icmp .ne 7, 3), (.sipush (0), 1), (.ireturn, 1)]),
  (88, [(.sipush (0), 1), (.istore 4, 2), (.aload 0, 1), (.ldc 12, 2), (.multianewarray 52 34, 3), (.ifCond .eq 8, 3), (.aload 0, 1), (.multianewarray 53 18, 3), (.aload 0, 1), (.sipush (0), 1), (.sipush (999), 3), (.multianewarray 49 50, 3), (.istore 4, 2), (.goto 8, 0)]),
  (114, [(.iload 4, 2), (.sipush (-1), 1), (.if_icmp .ne 9, 3), (.sipush (0), 1), (.ireturn, 1)]),
  (122, [(.aload 0, 1), (.ldc 13, 2), (.multianewarray 52 34, 3), (.istore 5, 2), (.iload 5, 2), (.ifCond .eq 10, 3), (.aload 0, 1), (.multianewarray 53 18, 3), (.goto 10, 0)]),
  (139, [(.aload 0, 1), (.getfield 72, 3), (.iload 1, 1), (.iload 3, 1), (.iload 4, 2), (.iload 5, 2), (.multianewarray 2 80, 3), (.sipush (1), 1), (.ireturn, 1)])]
def mX2_readMember : ac_M := (yX2_readMember, cX2_readMember, 6, (some .boolean), 2, 0, 0, (0, 0), [], bX2_readMember, [656, 78, 655, 8], [])
def bX2_ruleHere : List (Nat × ac_I) := [(0, [(.sipush (0), 1), (.istore 1, 1), (.goto 1, 0)]),
  (2, [(.iload 1, 1), (.sipush (11), 2), (.if_icmp .ge 3, 3), (.aload 0, 1), (.iload 1, 1), (.invokeinterface 47 1, 3), (.multianewarray 52 34, 3), (.ifCond .eq 2, 3), (.iload 1, 1), (.ireturn, 1)]),
  (21, [(.iinc 1 (1), 3), (.goto 1, 3)]),
  (27, [(.sipush (-1), 1), (.ireturn, 1)])]
def mX2_ruleHere : ac_M := (yX2_ruleHere, cX2_ruleHere, 2, (some .int), 2, 0, 0, (0, 0), [], bX2_ruleHere, [664, 78, 663, 10], [])
def bX2_wordOf : List (Nat × ac_I) := [(0, [(.iload 0, 1), (.tableswitch 11 0 9 #[1, 2, 3, 4, 5, 6, 7, 8, 9, 10], 55)]),
  (56, [(.ldc 1, 2), (.areturn, 1)]),
  (59, [(.ldc 2, 2), (.areturn, 1)]),
  (62, [(.ldc 3, 2), (.areturn, 1)]),
  (65, [(.ldc 4, 2), (.areturn, 1)]),
  (68, [(.ldc 5, 2), (.areturn, 1)]),
  (71, [(.ldc 6, 2), (.areturn, 1)]),
  (74, [(.ldc 7, 2), (.areturn, 1)]),
  (77, [(.ldc 8, 2), (.areturn, 1)]),
  (80, [(.ldc 9, 2), (.areturn, 1)]),
  (83, [(.ldc 10, 2), (.areturn, 1)]),
  (86, [(.ldc 11, 2), (.areturn, 1)])]
def mX2_wordOf : ac_M := (yX2_wordOf, cX2_wordOf, 1, (some (.object "java/lang/String")), 2, 1, 1, (0, 0), [], bX2_wordOf, [667, 78, 666], [])
def bX2_takeSemicolon : List (Nat × ac_I) := [(0, [(.aload 0, 1), (.getfield 70, 3), (.sipush (3), 1), (.if_icmp .eq 1, 3), (.aload 0, 1), (.multianewarray 50 18, 3), (.ireturn, 1)]),
  (13, [(.aload 0, 1), (.multianewarray 53 18, 3), (.sipush (1), 1), (.ireturn, 1)])]
def mX2_takeSemicolon : ac_M := (yX2_takeSemicolon, cX2_takeSemicolon, 1, (some .boolean), 2, 0, 0, (0, 0), [], bX2_takeSemicolon, [700, 78, 699, 13], [])
def bX2_takeNumber : List (Nat × ac_I) := [(0, [(.aload 0, 1), (.getfield 70, 3), (.sipush (2), 1), (.if_icmp .eq 1, 3), (.aload 0, 1), (.multianewarray 50 18, 3), (.pop, 1), (.sipush (-1), 1), (.ireturn, 1)]),
  (15, [(.sipush (0), 1), (.istore 3, 1), (.aload 0, 1), (.getfield 71, 3), (.istore 4, 2), (.goto 2, 0)]),
  (23, [(.iload 4, 2), (.aload 0, 1), (.getfield 69, 3), (.if_icmp .ge 3, 3), (.sipush (10), 2), (.iload 3, 1), (.imul, 1), (.aload 0, 1), (.getfield 64, 3), (.iload 4, 2), (.baload, 1), (.iadd, 1), (.sipush (48), 2), (.isub, 1), (.istore 3, 1), (.iinc 4 (1), 3), (.goto 2, 3)]),
  (54, [(.iload 3, 1), (.iload 1, 1), (.if_icmp .lt 4, 3), (.iload 3, 1), (.iload 2, 1), (.if_icmp .le 5, 3), (.goto 4, 0)]),
  (64, [(.aload 0, 1), (.sipush (3), 1), (.multianewarray 51 34, 3), (.pop, 1), (.sipush (-1), 1), (.ireturn, 1)]),
  (72, [(.aload 0, 1), (.multianewarray 53 18, 3), (.iload 3, 1), (.ireturn, 1)])]
def mX2_takeNumber : ac_M := (yX2_takeNumber, cX2_takeNumber, 5, (some .int), 2, 0, 2, (0, 0), [], bX2_takeNumber, [690, 78, 689, 12], [])
def bX2_refuseMisfit : List (Nat × ac_I) := [(0, [(.aload 0, 1), (.aload 0, 1), (.getfield 70, 3), (.ifCond .ne 1, 3), (.sipush (1), 1), (.goto 2, 3)]),
  (12, [(.sipush (2), 1), (.goto 2, 0)]),
  (13, [(.multianewarray 51 34, 3), (.ireturn, 1)])]
def mX2_refuseMisfit : ac_M := (yX2_refuseMisfit, cX2_refuseMisfit, 1, (some .boolean), 2, 0, 0, (0, 0), [], bX2_refuseMisfit, [682, 78, 681, 11], [])
def bX2_refuse : List (Nat × ac_I) := [(0, [(.aload 0, 1), (.iload 1, 1), (.putfield 66, 3), (.aload 0, 1), (.aload 0, 1), (.getfield 71, 3), (.putfield 67, 3), (.sipush (0), 1), (.ireturn, 1)])]
def mX2_refuse : ac_M := (yX2_refuse, cX2_refuse, 2, (some .boolean), 2, 0, 1, (0, 0), [], bX2_refuse, [660, 78, 659, 9], [])
def bX2_isWord : List (Nat × ac_I) := [(0, [(.aload 0, 1), (.getfield 70, 3), (.sipush (1), 1), (.if_icmp .ne 1, 3), (.aload 0, 1), (.getfield 69, 3), (.aload 0, 1), (.getfield 71, 3), (.isub, 1), (.aload 1, 1), (.invokedynamic 0, 3), (.if_icmp .eq 2, 3), (.goto 1, 0)]),
  (24, [(.sipush (0), 1), (.ireturn, 1)]),
  (26, [(.sipush (0), 1), (.istore 2, 1), (.goto 3, 0)]),
  (28, [(.iload 2, 1), (.aload 1, 1), (.invokedynamic 0, 3), (.if_icmp .ge 5, 3), (.aload 0, 1), (.getfield 64, 3), (.aload 0, 1), (.getfield 71, 3), (.iload 2, 1), (.iadd, 1), (.baload, 1), (.aload 1, 1), (.iload 2, 1), (.invokedynamic 1, 3), (.if_icmp .eq 4, 3), (.sipush (0), 1), (.ireturn, 1)]),
  (57, [(.iinc 2 (1), 3), (.goto 3, 3)]),
  (63, [(.sipush (1), 1), (.ireturn, 1)])]
def mX2_isWord : ac_M := (yX2_isWord, cX2_isWord, 3, (some .boolean), 2, 0, 1, (0, 0), [], bX2_isWord, [604, 78, 603, 7], [])
def bX2_advance : List (Nat × ac_I) := [(0, [(.aload 0, 1), (.getfield 69, 3), (.aload 0, 1), (.getfield 68, 3), (.if_icmp .ge 2, 3), (.aload 0, 1), (.getfield 64, 3), (.aload 0, 1), (.getfield 69, 3), (.baload, 1), (.sipush (32), 2), (.if_icmp .eq 1, 3), (.aload 0, 1), (.getfield 64, 3), (.aload 0, 1), (.getfield 69, 3), (.baload, 1), (.sipush (10), 2), (.if_icmp .ne 2, 3), (.goto 1, 0)]),
  (39, [(.aload 0, 1), (.dup, 1), (.getfield 69, 3), (.sipush (1), 1), (.iadd, 1), (.putfield 69, 3), (.goto 0, 3)]),
  (52, [(.aload 0, 1), (.aload 0, 1), (.getfield 69, 3), (.putfield 71, 3), (.aload 0, 1), (.getfield 69, 3), (.aload 0, 1), (.getfield 68, 3), (.if_icmp .lt 3, 3), (.aload 0, 1), (.sipush (4), 1), (.putfield 70, 3), (.goto 13, 3)]),
  (79, [(.aload 0, 1), (.getfield 64, 3), (.aload 0, 1), (.getfield 69, 3), (.baload, 1), (.invokeinterface 54 1, 3), (.ifCond .eq 5, 3), (.aload 0, 1), (.sipush (1), 1), (.putfield 70, 3), (.goto 4, 0)]),
  (99, [(.aload 0, 1), (.getfield 69, 3), (.aload 0, 1), (.getfield 68, 3), (.if_icmp .ge 13, 3), (.aload 0, 1), (.getfield 64, 3), (.aload 0, 1), (.getfield 69, 3), (.baload, 1), (.invokeinterface 54 1, 3), (.ifCond .eq 13, 3), (.aload 0, 1), (.dup, 1), (.getfield 69, 3), (.sipush (1), 1), (.iadd, 1), (.putfield 69, 3), (.goto 4, 3)]),
  (138, [(.aload 0, 1), (.getfield 64, 3), (.aload 0, 1), (.getfield 69, 3), (.baload, 1), (.invokeinterface 55 1, 3), (.ifCond .eq 10, 3), (.goto 6, 0)]),
  (153, [(.aload 0, 1), (.getfield 69, 3), (.aload 0, 1), (.getfield 68, 3), (.if_icmp .ge 7, 3), (.aload 0, 1), (.getfield 64, 3), (.aload 0, 1), (.getfield 69, 3), (.baload, 1), (.invokeinterface 55 1, 3), (.ifCond .eq 7, 3), (.aload 0, 1), (.dup, 1), (.getfield 69, 3), (.sipush (1), 1), (.iadd, 1), (.putfield 69, 3), (.goto 6, 3)]),
  (192, [(.aload 0, 1), (.aload 0, 1), (.getfield 69, 3), (.aload 0, 1), (.getfield 71, 3), (.isub, 1), (.sipush (3), 1), (.if_icmp .le 8, 3), (.sipush (0), 1), (.goto 9, 3)]),
  (210, [(.sipush (2), 1), (.goto 9, 0)]),
  (211, [(.putfield 70, 3), (.goto 13, 3)]),
  (217, [(.aload 0, 1), (.aload 0, 1), (.getfield 64, 3), (.aload 0, 1), (.getfield 69, 3), (.baload, 1), (.sipush (59), 2), (.if_icmp .ne 11, 3), (.sipush (3), 1), (.goto 12, 3)]),
  (236, [(.sipush (0), 1), (.goto 12, 0)]),
  (237, [(.putfield 70, 3), (.aload 0, 1), (.dup, 1), (.getfield 69, 3), (.sipush (1), 1), (.iadd, 1), (.putfield 69, 3), (.goto 13, 0)]),
  (250, [(.return_, 1)])]
def mX2_advance : ac_M := (yX2_advance, cX2_advance, 1, none, 2, 0, 0, (0, 0), [], bX2_advance, [589, 78, 588, 5], [])
def bX2_isLetter : List (Nat × ac_I) := [(0, [(.iload 0, 1), (.sipush (97), 2), (.if_icmp .lt 1, 3), (.iload 0, 1), (.sipush (122), 2), (.if_icmp .gt 1, 3), (.sipush (1), 1), (.goto 2, 3)]),
  (16, [(.sipush (0), 1), (.goto 2, 0)]),
  (17, [(.ireturn, 1)])]
def mX2_isLetter : ac_M := (yX2_isLetter, cX2_isLetter, 1, (some .boolean), 2, 1, 1, (0, 0), [], bX2_isLetter, [592, 78, 591], [])
def bX2_isDigit : List (Nat × ac_I) := [(0, [(.iload 0, 1), (.sipush (48), 2), (.if_icmp .lt 1, 3), (.iload 0, 1), (.sipush (57), 2), (.if_icmp .gt 1, 3), (.sipush (1), 1), (.goto 2, 3)]),
  (16, [(.sipush (0), 1), (.goto 2, 0)]),
  (17, [(.ireturn, 1)])]
def mX2_isDigit : ac_M := (yX2_isDigit, cX2_isDigit, 1, (some .boolean), 2, 1, 1, (0, 0), [], bX2_isDigit, [595, 78, 594], [])
def bX3_init : List (Nat × ac_I) := [(0, [(.aload 0, 1), (.monitorexit, 3), (.aload 0, 1), (.sipush (60), 2), (.newarray .long, 2), (.putfield 99, 3), (.return_, 1)])]
def mX3_init : ac_M := (yX3_init, cX3_init, 1, none, 3, 2, 0, (1, 60), [], bX3_init, [296, 82, 295], [])
def bX3_lay : List (Nat × ac_I) := [(0, [(.aload 0, 1), (.sipush (1), 1), (.putfield 96, 3), (.aload 0, 1), (.iload 1, 1), (.putfield 97, 3), (.aload 0, 1), (.iload 2, 1), (.putfield 98, 3), (.sipush (0), 1), (.istore 3, 1), (.goto 1, 0)]),
  (17, [(.iload 3, 1), (.sipush (60), 2), (.if_icmp .ge 2, 3), (.aload 0, 1), (.getfield 99, 3), (.iload 3, 1), (.ldc2_w 0, 1), (.lastore, 1), (.iinc 3 (1), 3), (.goto 1, 3)]),
  (36, [(.return_, 1)])]
def mX3_lay : ac_M := (yX3_lay, cX3_lay, 4, none, 3, 0, 2, (0, 0), [], bX3_lay, [1158, 82, 1156, 1157], [])
def ms1 : List ac_M := [mX1_go, mX1_comersInFog, mX1_comers, mX1_comes, mX1_hatsSeen, mX1_meetings, mX1_payAhead, mX2_init, mX2_lay, mX2_read, mX2_readLine, mX2_readMember, mX2_ruleHere, mX2_wordOf, mX2_takeSemicolon, mX2_takeNumber, mX2_refuseMisfit, mX2_refuse, mX2_isWord, mX2_advance, mX2_isLetter, mX2_isDigit, mX3_init, mX3_lay]
def bX3_put : List (Nat × ac_I) := [(0, [(.aload 0, 1), (.getfield 99, 3), (.iload 1, 1), (.aload 0, 1), (.lload 2, 1), (.multianewarray 59 35, 3), (.lastore, 1), (.aload 0, 1), (.getfield 99, 3), (.iload 1, 1), (.laload, 1), (.lreturn, 1)])]
def mX3_put : ac_M := (yX3_put, cX3_put, 4, (some .long), 3, 0, 2, (0, 0), [], bX3_put, [1185, 82, 1183, 1184], [])
def bX3_cut : List (Nat × ac_I) := [(0, [(.aload 0, 1), (.getfield 97, 3), (.tableswitch 4 0 2 #[1, 2, 3], 28)]),
  (32, [(.lload 1, 1), (.l2i, 1), (.i2b, 1), (.i2l, 1), (.lreturn, 1)]),
  (37, [(.lload 1, 1), (.l2i, 1), (.i2s, 1), (.i2l, 1), (.lreturn, 1)]),
  (42, [(.lload 1, 1), (.l2i, 1), (.i2l, 1), (.lreturn, 1)]),
  (46, [(.lload 1, 1), (.lreturn, 1)])]
def mX3_cut : ac_M := (yX3_cut, cX3_cut, 3, (some .long), 3, 0, 1, (0, 0), [], bX3_cut, [1189, 82, 1188, 26], [])
def bX4_init : List (Nat × ac_I) := [(0, [(.aload 0, 1), (.monitorexit, 3), (.aload 0, 1), (.sipush (12), 2), (.newarray .int, 2), (.putfield 128, 3), (.aload 0, 1), (.sipush (13), 2), (.sipush (14), 2), (.swap, 4), (.putfield 129, 3), (.return_, 1)])]
def mX4_init : ac_M := (yX4_init, cX4_init, 1, none, 4, 2, 0, (15, 207), [], bX4_init, [253, 80, 252], [])
def bX4_play : List (Nat × ac_I) := [(0, [(.sipush (0), 1), (.istore 2, 1), (.goto 1, 0)]),
  (2, [(.iload 2, 1), (.aload 1, 1), (.getfield 4, 3), (.if_icmp .gt 2, 3), (.aload 0, 1), (.getfield 129, 3), (.aload 1, 1), (.getfield 4, 3), (.aaload, 1), (.iload 2, 1), (.iload 2, 1), (.iastore, 1), (.iinc 2 (1), 3), (.goto 1, 3)]),
  (28, [(.aload 1, 1), (.getfield 4, 3), (.sipush (1), 1), (.isub, 1), (.istore 2, 1), (.goto 3, 0)]),
  (35, [(.iload 2, 1), (.ifCond .lt 8, 3), (.sipush (0), 1), (.istore 3, 1), (.goto 4, 0)]),
  (41, [(.iload 3, 1), (.iload 2, 1), (.if_icmp .gt 7, 3), (.aload 0, 1), (.aload 1, 1), (.iload 2, 1), (.iload 3, 1), (.multianewarray 62 68, 3), (.ifCond .eq 5, 3), (.iload 3, 1), (.sipush (1), 1), (.iadd, 1), (.goto 6, 3)]),
  (62, [(.iload 3, 1), (.goto 6, 0)]),
  (63, [(.istore 4, 2), (.aload 0, 1), (.getfield 129, 3), (.iload 2, 1), (.aaload, 1), (.iload 3, 1), (.aload 0, 1), (.getfield 129, 3), (.iload 2, 1), (.sipush (1), 1), (.iadd, 1), (.aaload, 1), (.iload 4, 2), (.iaload, 1), (.iastore, 1), (.iinc 3 (1), 3), (.goto 4, 3)]),
  (90, [(.iinc 2 (-1), 3), (.goto 3, 3)]),
  (96, [(.sipush (0), 1), (.istore 2, 1), (.sipush (0), 1), (.istore 3, 1), (.sipush (0), 1), (.istore 4, 2), (.goto 9, 0)]),
  (103, [(.iload 4, 2), (.aload 1, 1), (.getfield 4, 3), (.if_icmp .ge 11, 3), (.aload 0, 1), (.aload 1, 1), (.iload 4, 2), (.iload 3, 1), (.multianewarray 62 68, 3), (.ifCond .eq 10, 3), (.iload 2, 1), (.sipush (1), 1), (.aload 0, 1), (.getfield 128, 3), (.iload 4, 2), (.iaload, 1), (.ishl, 1), (.ior, 1), (.istore 2, 1), (.iinc 3 (1), 3), (.goto 10, 0)]),
  (138, [(.iinc 4 (1), 3), (.goto 9, 3)]),
  (144, [(.iload 2, 1), (.ireturn, 1)])]
def mX4_play : ac_M := (yX4_play, cX4_play, 5, (some .int), 4, 0, 1, (0, 0), [], bX4_play, [460, 80, 458, 459], [])
def bX4_comesAt : List (Nat × ac_I) := [(0, [(.aload 1, 1), (.aload 1, 1), (.getfield 7, 3), (.aload 0, 1), (.getfield 128, 3), (.iload 2, 1), (.iaload, 1), (.multianewarray 8 48, 3), (.ifCond .eq 1, 3), (.aload 0, 1), (.getfield 129, 3), (.iload 2, 1), (.sipush (1), 1), (.iadd, 1), (.aaload, 1), (.iload 3, 1), (.sipush (1), 1), (.iadd, 1), (.iaload, 1), (.aload 1, 1), (.getfield 1, 3), (.if_icmp .ne 1, 3), (.sipush (1), 1), (.goto 2, 3)]),
  (40, [(.sipush (0), 1), (.goto 2, 0)]),
  (41, [(.ireturn, 1)])]
def mX4_comesAt : ac_M := (yX4_comesAt, cX4_comesAt, 4, (some .boolean), 4, 0, 3, (0, 0), [], bX4_comesAt, [464, 80, 463, 3], [])
def bX4_firstOf : List (Nat × ac_I) := [(0, [(.sipush (0), 1), (.istore 3, 1), (.goto 1, 0)]),
  (2, [(.iload 3, 1), (.aload 1, 1), (.getfield 4, 3), (.if_icmp .ge 3, 3), (.aload 1, 1), (.iload 2, 1), (.aload 0, 1), (.getfield 128, 3), (.iload 3, 1), (.iaload, 1), (.multianewarray 8 48, 3), (.ifCond .eq 2, 3), (.aload 0, 1), (.getfield 128, 3), (.iload 3, 1), (.iaload, 1), (.ireturn, 1)]),
  (31, [(.iinc 3 (1), 3), (.goto 1, 3)]),
  (37, [(.sipush (-1), 1), (.ireturn, 1)])]
def mX4_firstOf : ac_M := (yX4_firstOf, cX4_firstOf, 4, (some .int), 4, 0, 2, (0, 0), [], bX4_firstOf, [894, 80, 892, 893], [])
def bX5_init : List (Nat × ac_I) := [(0, [(.aload 0, 1), (.monitorexit, 3), (.aload 0, 1), (.sipush (8), 2), (.newarray .int, 2), (.putfield 160, 3), (.aload 0, 1), (.aload 1, 1), (.putfield 161, 3), (.return_, 1)])]
def mX5_init : ac_M := (yX5_init, cX5_init, 2, none, 5, 2, 1, (1, 8), [], bX5_init, [269, 81, 268], [])
def bX5_find : List (Nat × ac_I) := [(0, [(.aload 0, 1), (.aload 1, 1), (.iload 2, 1), (.iload 3, 1), (.multianewarray 66 69, 3), (.sipush (3), 1), (.aload 1, 1), (.getfield 4, 3), (.invokeinterface 136 2, 3), (.lstore 5, 2), (.sipush (0), 1), (.istore 7, 2), (.sipush (0), 1), (.istore 8, 2), (.goto 1, 0)]),
  (23, [(.iload 8, 2), (.i2l, 1), (.lload 5, 2), (.lcmp, 1), (.ifCond .ge 4, 3), (.aload 0, 1), (.multianewarray 67 21, 3), (.ifCond .eq 3, 3), (.iload 7, 2), (.iload 4, 2), (.if_icmp .ne 2, 3), (.iload 8, 2), (.ireturn, 1)]),
  (49, [(.iinc 7 (1), 3), (.goto 3, 0)]),
  (52, [(.aload 0, 1), (.multianewarray 69 21, 3), (.iinc 8 (1), 3), (.goto 1, 3)]),
  (62, [(.iload 4, 2), (.sipush (-1), 1), (.if_icmp .ne 5, 3), (.iload 7, 2), (.goto 6, 3)]),
  (73, [(.sipush (-1), 1), (.goto 6, 0)]),
  (74, [(.ireturn, 1)])]
def mX5_find : ac_M := (yX5_find, cX5_find, 9, (some .int), 5, 0, 4, (0, 0), [], bX5_find, [905, 81, 903, 904], [])
def bX5_begin : List (Nat × ac_I) := [(0, [(.aload 0, 1), (.aload 1, 1), (.putfield 161, 3), (.aload 0, 1), (.iload 2, 1), (.putfield 162, 3), (.aload 0, 1), (.iload 3, 1), (.putfield 163, 3), (.aload 0, 1), (.sipush (0), 1), (.putfield 164, 3), (.aload 0, 1), (.sipush (0), 1), (.putfield 165, 3), (.sipush (0), 1), (.istore 4, 2), (.goto 1, 0)]),
  (28, [(.iload 4, 2), (.sipush (8), 2), (.if_icmp .ge 2, 3), (.aload 0, 1), (.getfield 160, 3), (.iload 4, 2), (.sipush (0), 1), (.iastore, 1), (.iinc 4 (1), 3), (.goto 1, 3)]),
  (49, [(.return_, 1)])]
def mX5_begin : ac_M := (yX5_begin, cX5_begin, 5, none, 5, 0, 3, (0, 0), [], bX5_begin, [909, 81, 908, 20], [])
def bX5_isAtRest : List (Nat × ac_I) := [(0, [(.sipush (0), 1), (.istore 1, 1), (.goto 1, 0)]),
  (2, [(.iload 1, 1), (.aload 0, 1), (.getfield 161, 3), (.getfield 4, 3), (.if_icmp .ge 10, 3), (.aload 0, 1), (.getfield 164, 3), (.aload 0, 1), (.getfield 160, 3), (.iload 1, 1), (.iaload, 1), (.sipush (1), 1), (.if_icmp .ne 2, 3), (.sipush (0), 1), (.goto 3, 3)]),
  (31, [(.sipush (1), 1), (.goto 3, 0)]),
  (32, [(.iadd, 1), (.aload 0, 1), (.getfield 161, 3), (.getfield 1, 3), (.aload 0, 1), (.getfield 161, 3), (.getfield 2, 3), (.invokeinterface 68 3, 3), (.aload 0, 1), (.getfield 161, 3), (.getfield 12, 3), (.iload 1, 1), (.iaload, 1), (.isub, 1), (.istore 2, 1), (.aload 0, 1), (.getfield 165, 3), (.aload 0, 1), (.getfield 160, 3), (.iload 1, 1), (.iaload, 1), (.sipush (2), 1), (.if_icmp .ne 4, 3), (.sipush (0), 1), (.goto 5, 3)]),
  (79, [(.sipush (1), 1), (.goto 5, 0)]),
  (80, [(.iadd, 1), (.aload 0, 1), (.getfield 162, 3), (.aload 0, 1), (.getfield 163, 3), (.invokeinterface 68 3, 3), (.aload 0, 1), (.getfield 161, 3), (.getfield 12, 3), (.iload 1, 1), (.iaload, 1), (.isub, 1), (.istore 3, 1), (.sipush (0), 1), (.iload 2, 1), (.iload 3, 1), (.invokeinterface 253 2, 3), (.invokeinterface 253 2, 3), (.istore 4, 2), (.aload 0, 1), (.getfield 160, 3), (.iload 1, 1), (.iaload, 1), (.ifCond .ne 6, 3), (.sipush (0), 1), (.goto 8, 3)]),
  (127, [(.aload 0, 1), (.getfield 160, 3), (.iload 1, 1), (.iaload, 1), (.sipush (1), 1), (.if_icmp .ne 7, 3), (.iload 2, 1), (.goto 8, 3)]),
  (141, [(.iload 3, 1), (.goto 8, 0)]),
  (142, [(.istore 5, 2), (.iload 4, 2), (.iload 5, 2), (.if_icmp .le 9, 3), (.sipush (0), 1), (.ireturn, 1)]),
  (153, [(.iinc 1 (1), 3), (.goto 1, 3)]),
  (159, [(.sipush (1), 1), (.ireturn, 1)])]
def mX5_isAtRest : ac_M := (yX5_isAtRest, cX5_isAtRest, 6, (some .boolean), 5, 0, 0, (0, 0), [], bX5_isAtRest, [916, 81, 915, 21], [])
def bX5_payIn : List (Nat × ac_I) := [(0, [(.iload 0, 1), (.iload 1, 1), (.if_icmp .ne 1, 3), (.iload 2, 1), (.goto 2, 3)]),
  (9, [(.sipush (0), 1), (.goto 2, 0)]),
  (10, [(.ireturn, 1)])]
def mX5_payIn : ac_M := (yX5_payIn, cX5_payIn, 3, (some .int), 5, 1, 3, (0, 0), [], bX5_payIn, [919, 81, 918], [])
def bX5_turnOn : List (Nat × ac_I) := [(0, [(.sipush (0), 1), (.istore 1, 1), (.goto 1, 0)]),
  (2, [(.iload 1, 1), (.aload 0, 1), (.getfield 161, 3), (.getfield 4, 3), (.if_icmp .ge 4, 3), (.aload 0, 1), (.getfield 160, 3), (.iload 1, 1), (.iaload, 1), (.ifCond .ne 2, 3), (.aload 0, 1), (.getfield 160, 3), (.iload 1, 1), (.sipush (1), 1), (.iastore, 1), (.aload 0, 1), (.dup, 1), (.getfield 164, 3), (.sipush (1), 1), (.iadd, 1), (.putfield 164, 3), (.return_, 1)]),
  (40, [(.aload 0, 1), (.getfield 160, 3), (.iload 1, 1), (.iaload, 1), (.sipush (1), 1), (.if_icmp .ne 3, 3), (.aload 0, 1), (.getfield 160, 3), (.iload 1, 1), (.sipush (2), 1), (.iastore, 1), (.aload 0, 1), (.dup, 1), (.getfield 164, 3), (.sipush (1), 1), (.isub, 1), (.putfield 164, 3), (.aload 0, 1), (.dup, 1), (.getfield 165, 3), (.sipush (1), 1), (.iadd, 1), (.putfield 165, 3), (.return_, 1)]),
  (78, [(.aload 0, 1), (.getfield 160, 3), (.iload 1, 1), (.sipush (0), 1), (.iastore, 1), (.aload 0, 1), (.dup, 1), (.getfield 165, 3), (.sipush (1), 1), (.isub, 1), (.putfield 165, 3), (.iinc 1 (1), 3), (.goto 1, 3)]),
  (101, [(.return_, 1)])]
def mX5_turnOn : ac_M := (yX5_turnOn, cX5_turnOn, 2, none, 5, 0, 0, (0, 0), [], bX5_turnOn, [926, 81, 925, 22], [])
def bX6_init : List (Nat × ac_I) := [(0, [(.aload 0, 1), (.monitorexit, 3), (.aload 0, 1), (.new 0, 3), (.dup, 1), (.dload 1, 3), (.putfield 192, 3), (.aload 0, 1), (.new 0, 3), (.dup, 1), (.dload 1, 3), (.putfield 193, 3), (.aload 0, 1), (.new 0, 3), (.dup, 1), (.dload 1, 3), (.putfield 194, 3), (.aload 0, 1), (.new 2, 3), (.dup, 1), (.aload 0, 1), (.getfield 193, 3), (.dload 658, 3), (.putfield 195, 3), (.aload 0, 1), (.new 1, 3), (.dup, 1), (.aload 0, 1), (.getfield 194, 3), (.dload 498, 3), (.putfield 196, 3), (.aload 0, 1), (.new 4, 3), (.dup, 1), (.dload 961, 3), (.putfield 197, 3), (.aload 0, 1), (.new 5, 3), (.dup, 1), (.aload 0, 1), (.getfield 194, 3), (.dload 1026, 3), (.putfield 198, 3), (.aload 0, 1), (.sipush (4), 1), (.anewarray 5, 3), (.putfield 199, 3), (.aload 0, 1), (.sipush (3), 1), (.anewarray 6, 3), (.putfield 200, 3), (.aload 0, 1), (.sipush (3), 1), (.newarray .boolean, 2), (.putfield 201, 3), (.aload 0, 1), (.sipush (401), 3), (.newarray .int, 2), (.putfield 202, 3), (.aload 0, 1), (.sipush (13), 2), (.newarray .long, 2), (.putfield 203, 3), (.sipush (0), 1), (.istore 1, 1), (.goto 1, 0)]),
  (135, [(.iload 1, 1), (.sipush (4), 1), (.if_icmp .ge 2, 3), (.aload 0, 1), (.getfield 199, 3), (.iload 1, 1), (.new 3, 3), (.dup, 1), (.dload 897, 3), (.aastore, 1), (.iinc 1 (1), 3), (.goto 1, 3)]),
  (159, [(.sipush (0), 1), (.istore 1, 1), (.goto 3, 0)]),
  (161, [(.iload 1, 1), (.sipush (3), 1), (.if_icmp .ge 4, 3), (.aload 0, 1), (.getfield 200, 3), (.iload 1, 1), (.new 0, 3), (.dup, 1), (.dload 1, 3), (.aastore, 1), (.iinc 1 (1), 3), (.goto 3, 3)]),
  (185, [(.return_, 1)])]
def mX6_init : ac_M := (yX6_init, cX6_init, 2, none, 6, 2, 0, (65, 2290), [], bX6_init, [102, 76, 101], [])
def bX6_feed : List (Nat × ac_I) := [(0, [(.aload 0, 1), (.getfield 195, 3), (.getfield 65, 3), (.sipush (20), 2), (.iadd, 1), (.sipush (700), 3), (.if_icmp .le 1, 3), (.sipush (-1), 1), (.ireturn, 1)]),
  (18, [(.aload 0, 1), (.getfield 195, 3), (.iload 1, 1), (.multianewarray 42 34, 3), (.aload 0, 1), (.getfield 195, 3), (.iload 2, 1), (.multianewarray 42 34, 3), (.aload 0, 1), (.getfield 195, 3), (.iload 3, 1), (.multianewarray 42 34, 3), (.aload 0, 1), (.getfield 195, 3), (.iload 4, 2), (.multianewarray 42 34, 3), (.aload 0, 1), (.getfield 195, 3), (.iload 5, 2), (.multianewarray 42 34, 3), (.aload 0, 1), (.getfield 195, 3), (.getfield 65, 3), (.ireturn, 1)])]
def mX6_feed : ac_M := (yX6_feed, cX6_feed, 6, (some .int), 6, 0, 5, (0, 0), [], bX6_feed, [356, 76, 354, 355], [])
def bX6_club : List (Nat × ac_I) := [(0, [(.iload 1, 1), (.sipush (0), 1), (.aload 0, 1), (.getfield 195, 3), (.getfield 65, 3), (.ret 1987, 3), (.aload 0, 1), (.getfield 195, 3), (.iload 1, 1), (.aload 0, 1), (.getfield 193, 3), (.multianewarray 43 50, 3), (.istore 2, 1), (.aload 0, 1), (.getfield 195, 3), (.sipush (0), 1), (.putfield 65, 3), (.iload 2, 1), (.ifCond .ne 1, 3), (.sipush (-10), 2), (.aload 0, 1), (.getfield 195, 3), (.getfield 66, 3), (.isub, 1), (.ireturn, 1)]),
  (48, [(.aload 0, 1), (.getfield 192, 3), (.astore 3, 1), (.aload 0, 1), (.aload 0, 1), (.getfield 193, 3), (.putfield 192, 3), (.aload 0, 1), (.aload 3, 1), (.putfield 193, 3), (.aload 0, 1), (.getfield 192, 3), (.getfield 0, 3), (.ireturn, 1)])]
def mX6_club : ac_M := (yX6_club, cX6_club, 4, (some .int), 6, 0, 1, (1, 6), [], bX6_club, [510, 76, 508, 509], [])
def bX6_fault : List (Nat × ac_I) := [(0, [(.iload 1, 1), (.lookupswitch 3 #[(0, 1), (1, 2)], 27)]),
  (28, [(.aload 0, 1), (.getfield 195, 3), (.getfield 66, 3), (.ireturn, 1)]),
  (36, [(.aload 0, 1), (.getfield 195, 3), (.getfield 67, 3), (.ireturn, 1)]),
  (44, [(.sipush (-1), 1), (.ireturn, 1)])]
def mX6_fault : ac_M := (yX6_fault, cX6_fault, 2, (some .int), 6, 0, 1, (0, 0), [], bX6_fault, [364, 76, 362, 363], [])
def bX6_member : List (Nat × ac_I) := [(0, [(.aload 0, 1), (.iload 1, 1), (.putstatic 32550, 3), (.iload 2, 1), (.tableswitch 8 0 6 #[1, 2, 3, 4, 5, 6, 7], 42)]),
  (48, [(.aload 0, 1), (.getfield 192, 3), (.getfield 10, 3), (.iload 1, 1), (.iaload, 1), (.ireturn, 1)]),
  (58, [(.aload 0, 1), (.getfield 192, 3), (.getfield 11, 3), (.iload 1, 1), (.iaload, 1), (.ireturn, 1)]),
  (68, [(.aload 0, 1), (.getfield 192, 3), (.getfield 12, 3), (.iload 1, 1), (.iaload, 1), (.ireturn, 1)]),
  (78, [(.aload 0, 1), (.getfield 192, 3), (.getfield 5, 3), (.iload 1, 1), (.ishr, 1), (.sipush (1), 1), (.iand, 1), (.ireturn, 1)]),
  (90, [(.aload 0, 1), (.getfield 192, 3), (.sipush (1), 1), (.iload 1, 1), (.ishl, 1), (.multianewarray 24 32, 3), (.ireturn, 1)]),
  (101, [(.aload 0, 1), (.getfield 192, 3), (.iload 1, 1), (.multianewarray 25 32, 3), (.ireturn, 1)]),
  (110, [(.aload 0, 1), (.getfield 192, 3), (.iload 1, 1), (.multianewarray 25 32, 3), (.aload 0, 1), (.getfield 192, 3), (.getfield 2, 3), (.imul, 1), (.aload 0, 1), (.getfield 192, 3), (.sipush (1), 1), (.iload 1, 1), (.ishl, 1), (.multianewarray 24 32, 3), (.aload 0, 1), (.getfield 192, 3), (.getfield 12, 3), (.iload 1, 1), (.iaload, 1), (.imul, 1), (.isub, 1), (.ireturn, 1)]),
  (148, [(.instanceof 0, 8)])]
def mX6_member : ac_M := (yX6_member, cX6_member, 3, (some .int), 6, 0, 2, (2, 12), [], bX6_member, [715, 76, 713, 714], [])
def bX6_quota : List (Nat × ac_I) := [(0, [(.iload 1, 1), (.sipush (1), 1), (.sipush (12), 2), (.ret 1987, 3), (.aload 0, 1), (.getfield 192, 3), (.getfield 1, 3), (.istore 2, 1), (.aload 0, 1), (.getfield 192, 3), (.iload 1, 1), (.putfield 1, 3), (.iload 2, 1), (.ireturn, 1)])]
def mX6_quota : ac_M := (yX6_quota, cX6_quota, 3, (some .int), 6, 0, 1, (1, 6), [], bX6_quota, [745, 76, 743, 744], [])
def bX6_week : List (Nat × ac_I) := [(0, [(.aload 0, 1), (.putstatic 33046, 3), (.aload 0, 1), (.getfield 196, 3), (.aload 0, 1), (.getfield 192, 3), (.multianewarray 32 33, 3), (.aload 0, 1), (.getfield 196, 3), (.iload 1, 1), (.multianewarray 35 33, 3), (.istore 2, 1), (.aload 0, 1), (.getfield 192, 3), (.iload 2, 1), (.multianewarray 6 32, 3), (.iload 2, 1), (.ireturn, 1)])]
def mX6_week : ac_M := (yX6_week, cX6_week, 3, (some .int), 6, 0, 1, (1, 6), [], bX6_week, [753, 76, 751, 752], [])
def bX6_told : List (Nat × ac_I) := [(0, [(.aload 0, 1), (.putstatic 33046, 3), (.aload 0, 1), (.iload 1, 1), (.putstatic 33318, 3), (.aload 0, 1), (.getfield 192, 3), (.iload 1, 1), (.multianewarray 6 32, 3), (.aload 0, 1), (.getfield 192, 3), (.iload 1, 1), (.multianewarray 10 32, 3), (.ireturn, 1)])]
def mX6_told : ac_M := (yX6_told, cX6_told, 2, (some .boolean), 6, 0, 1, (2, 12), [], bX6_told, [788, 76, 786, 787], [])
def bX6_back : List (Nat × ac_I) := [(0, [(.iload 1, 1), (.sipush (0), 1), (.aload 0, 1), (.getfield 192, 3), (.getfield 6, 3), (.ret 1987, 3), (.aload 0, 1), (.getfield 192, 3), (.dup, 1), (.getfield 6, 3), (.iload 1, 1), (.isub, 1), (.putfield 6, 3), (.aload 0, 1), (.getfield 192, 3), (.getfield 6, 3), (.ireturn, 1)])]
def mX6_back : ac_M := (yX6_back, cX6_back, 2, (some .int), 6, 0, 1, (1, 6), [], bX6_back, [800, 76, 798, 799], [])
def bX6_came : List (Nat × ac_I) := [(0, [(.aload 0, 1), (.iload 1, 1), (.putstatic 32806, 3), (.aload 0, 1), (.getfield 192, 3), (.getfield 13, 3), (.iload 1, 1), (.iaload, 1), (.ireturn, 1)])]
def mX6_came : ac_M := (yX6_came, cX6_came, 2, (some .int), 6, 0, 1, (1, 6), [], bX6_came, [807, 76, 805, 806], [])
def bX6_met : List (Nat × ac_I) := [(0, [(.aload 0, 1), (.iload 1, 1), (.putstatic 32806, 3), (.aload 0, 1), (.getfield 192, 3), (.aload 0, 1), (.getfield 192, 3), (.getfield 13, 3), (.iload 1, 1), (.iaload, 1), (.multianewarray 10 32, 3), (.ireturn, 1)])]
def mX6_met : ac_M := (yX6_met, cX6_met, 2, (some .boolean), 6, 0, 1, (1, 6), [], bX6_met, [818, 76, 816, 817], [])
def bX6_next : List (Nat × ac_I) := [(0, [(.aload 0, 1), (.getfield 196, 3), (.aload 0, 1), (.getfield 192, 3), (.multianewarray 32 33, 3), (.aload 0, 1), (.getfield 196, 3), (.multianewarray 36 17, 3), (.ireturn, 1)])]
def mX6_next : ac_M := (yX6_next, cX6_next, 1, (some .int), 6, 0, 0, (0, 0), [], bX6_next, [368, 76, 366, 367], [])
def bX6_hats : List (Nat × ac_I) := [(0, [(.aload 0, 1), (.iload 1, 1), (.putstatic 32550, 3), (.aload 0, 1), (.getfield 196, 3), (.aload 0, 1), (.getfield 192, 3), (.multianewarray 32 33, 3), (.aload 0, 1), (.getfield 192, 3), (.iload 1, 1), (.aload 0, 1), (.getfield 196, 3), (.multianewarray 36 17, 3), (.multianewarray 19 48, 3), (.invokeinterface 249 1, 3), (.ireturn, 1)])]
def mX6_hats : ac_M := (yX6_hats, cX6_hats, 2, (some .int), 6, 0, 1, (1, 6), [], bX6_hats, [825, 76, 823, 824], [])
def bX6_thought : List (Nat × ac_I) := [(0, [(.aload 0, 1), (.iload 1, 1), (.putstatic 32550, 3), (.iload 2, 1), (.sipush (0), 1), (.sipush (6), 2), (.ret 1987, 3), (.aload 0, 1), (.getfield 192, 3), (.aload 0, 1), (.getfield 192, 3), (.aload 0, 1), (.getfield 192, 3), (.multianewarray 9 16, 3), (.iload 2, 1), (.multianewarray 18 48, 3), (.iload 1, 1), (.multianewarray 8 48, 3), (.ireturn, 1)])]
def mX6_thought : ac_M := (yX6_thought, cX6_thought, 3, (some .boolean), 6, 0, 2, (2, 12), [], bX6_thought, [834, 76, 832, 833], [])
def bX6_settled : List (Nat × ac_I) := [(0, [(.aload 0, 1), (.getfield 192, 3), (.multianewarray 9 16, 3), (.istore 1, 1), (.sipush (0), 1), (.istore 2, 1), (.sipush (1), 1), (.istore 3, 1), (.goto 1, 0)]),
  (12, [(.iload 3, 1), (.sipush (6), 2), (.if_icmp .gt 3, 3), (.aload 0, 1), (.getfield 192, 3), (.iload 1, 1), (.sipush (1), 1), (.multianewarray 18 48, 3), (.istore 4, 2), (.iload 4, 2), (.iload 1, 1), (.if_icmp .eq 2, 3), (.iload 3, 1), (.istore 2, 1), (.goto 2, 0)]),
  (37, [(.iload 4, 2), (.istore 1, 1), (.iinc 3 (1), 3), (.goto 1, 3)]),
  (46, [(.iload 2, 1), (.sipush (6), 2), (.if_icmp .ne 4, 3), (.sipush (-1), 1), (.goto 5, 3)]),
  (56, [(.iload 2, 1), (.goto 5, 0)]),
  (57, [(.ireturn, 1)])]
def mX6_settled : ac_M := (yX6_settled, cX6_settled, 5, (some .int), 6, 0, 0, (0, 0), [], bX6_settled, [429, 76, 427, 428], [])
def bX6_judge : List (Nat × ac_I) := [(0, [(.aload 0, 1), (.iload 1, 1), (.putstatic 34086, 3), (.astore 3, 1), (.iload 2, 1), (.sipush (0), 1), (.sipush (1), 1), (.ret 1987, 3), (.aload 0, 1), (.getfield 196, 3), (.aload 0, 1), (.getfield 192, 3), (.multianewarray 32 33, 3), (.sipush (0), 1), (.istore 4, 2), (.goto 1, 0)]),
  (26, [(.iload 4, 2), (.aload 3, 1), (.getfield 98, 3), (.if_icmp .ge 5, 3), (.aload 0, 1), (.getfield 196, 3), (.multianewarray 34 17, 3), (.istore 5, 2), (.aload 3, 1), (.getfield 99, 3), (.iload 4, 2), (.laload, 1), (.iload 5, 2), (.i2l, 1), (.lcmp, 1), (.ifCond .eq 4, 3), (.iload 2, 1), (.ifCond .ne 2, 3), (.iload 4, 2), (.goto 3, 3)]),
  (67, [(.iload 5, 2), (.goto 3, 0)]),
  (69, [(.ireturn, 1)]),
  (70, [(.iinc 4 (1), 3), (.goto 1, 3)]),
  (76, [(.sipush (-1), 1), (.ireturn, 1)])]
def mX6_judge : ac_M := (yX6_judge, cX6_judge, 6, (some .int), 6, 0, 2, (3, 18), [], bX6_judge, [842, 76, 840, 841], [])
def bX6_gain : List (Nat × ac_I) := [(0, [(.aload 0, 1), (.iload 2, 1), (.putstatic 32550, 3), (.aload 0, 1), (.iload 1, 1), (.putstatic 33318, 3), (.aload 0, 1), (.getfield 192, 3), (.iload 2, 1), (.iload 1, 1), (.multianewarray 12 48, 3), (.ireturn, 1)])]
def mX6_gain : ac_M := (yX6_gain, cX6_gain, 3, (some .int), 6, 0, 2, (2, 12), [], bX6_gain, [860, 76, 858, 859], [])
def ms2 : List ac_M := [mX3_put, mX3_cut, mX4_init, mX4_play, mX4_comesAt, mX4_firstOf, mX5_init, mX5_find, mX5_begin, mX5_isAtRest, mX5_payIn, mX5_turnOn, mX6_init, mX6_feed, mX6_club, mX6_fault, mX6_member, mX6_quota, mX6_week, mX6_told, mX6_back, mX6_came, mX6_met, mX6_next, mX6_hats, mX6_thought, mX6_settled, mX6_judge, mX6_gain]
def bX6_rests : List (Nat × ac_I) := [(0, [(.aload 0, 1), (.iload 1, 1), (.putstatic 33318, 3), (.aload 0, 1), (.getfield 192, 3), (.iload 1, 1), (.multianewarray 16 32, 3), (.ifCond .ne 1, 3), (.sipush (1), 1), (.goto 2, 3)]),
  (20, [(.sipush (0), 1), (.goto 2, 0)]),
  (21, [(.ireturn, 1)])]
def mX6_rests : ac_M := (yX6_rests, cX6_rests, 2, (some .boolean), 6, 0, 1, (1, 6), [], bX6_rests, [872, 76, 870, 871], [])
def bX6_rest : List (Nat × ac_I) := [(0, [(.sipush (0), 1), (.istore 2, 1), (.sipush (0), 1), (.istore 3, 1), (.goto 1, 0)]),
  (4, [(.iload 3, 1), (.aload 0, 1), (.getfield 192, 3), (.multianewarray 7 16, 3), (.if_icmp .gt 4, 3), (.aload 0, 1), (.getfield 192, 3), (.iload 3, 1), (.multianewarray 16 32, 3), (.ifCond .ne 3, 3), (.iload 2, 1), (.iload 1, 1), (.if_icmp .ne 2, 3), (.iload 3, 1), (.ireturn, 1)]),
  (33, [(.iinc 2 (1), 3), (.goto 3, 0)]),
  (36, [(.iinc 3 (1), 3), (.goto 1, 3)]),
  (42, [(.iload 1, 1), (.sipush (-1), 1), (.if_icmp .ne 5, 3), (.iload 2, 1), (.goto 6, 3)]),
  (51, [(.sipush (-1), 1), (.goto 6, 0)]),
  (52, [(.ireturn, 1)])]
def mX6_rest : ac_M := (yX6_rest, cX6_rest, 4, (some .int), 6, 0, 1, (0, 0), [], bX6_rest, [435, 76, 433, 434], [])
def bX6_strong : List (Nat × ac_I) := [(0, [(.aload 0, 1), (.iload 1, 1), (.putstatic 33318, 3), (.aload 0, 1), (.getfield 192, 3), (.iload 1, 1), (.multianewarray 17 32, 3), (.ireturn, 1)])]
def mX6_strong : ac_M := (yX6_strong, cX6_strong, 2, (some .boolean), 6, 0, 1, (1, 6), [], bX6_strong, [879, 76, 877, 878], [])
def bX6_strongs : List (Nat × ac_I) := [(0, [(.sipush (0), 1), (.istore 2, 1), (.sipush (0), 1), (.istore 3, 1), (.goto 1, 0)]),
  (4, [(.iload 3, 1), (.aload 0, 1), (.getfield 192, 3), (.multianewarray 7 16, 3), (.if_icmp .gt 4, 3), (.aload 0, 1), (.getfield 192, 3), (.iload 3, 1), (.multianewarray 17 32, 3), (.ifCond .eq 3, 3), (.iload 2, 1), (.iload 1, 1), (.if_icmp .ne 2, 3), (.iload 3, 1), (.ireturn, 1)]),
  (33, [(.iinc 2 (1), 3), (.goto 3, 0)]),
  (36, [(.iinc 3 (1), 3), (.goto 1, 3)]),
  (42, [(.iload 1, 1), (.sipush (-1), 1), (.if_icmp .ne 5, 3), (.iload 2, 1), (.goto 6, 3)]),
  (51, [(.sipush (-1), 1), (.goto 6, 0)]),
  (52, [(.ireturn, 1)])]
def mX6_strongs : ac_M := (yX6_strongs, cX6_strongs, 4, (some .int), 6, 0, 1, (0, 0), [], bX6_strongs, [447, 76, 445, 446], [])
def bX6_inTurn : List (Nat × ac_I) := [(0, [(.sipush (0), 1), (.istore 1, 1), (.goto 1, 0)]),
  (2, [(.iload 1, 1), (.aload 0, 1), (.getfield 192, 3), (.getfield 4, 3), (.if_icmp .ge 2, 3), (.aload 0, 1), (.getfield 197, 3), (.getfield 128, 3), (.iload 1, 1), (.iload 1, 1), (.iastore, 1), (.iinc 1 (1), 3), (.goto 1, 3)]),
  (29, [(.aload 0, 1), (.getfield 197, 3), (.aload 0, 1), (.getfield 192, 3), (.multianewarray 61 36, 3), (.ireturn, 1)])]
def mX6_inTurn : ac_M := (yX6_inTurn, cX6_inTurn, 2, (some .int), 6, 0, 0, (0, 0), [], bX6_inTurn, [456, 76, 454, 455], [])
def bX6_turnsBy : List (Nat × ac_I) := [(0, [(.aload 0, 1), (.iload 1, 1), (.putstatic 34086, 3), (.astore 3, 1), (.iload 2, 1), (.sipush (0), 1), (.sipush (1), 1), (.ret 1987, 3), (.aload 0, 1), (.aload 3, 1), (.putstatic 23846, 3), (.aload 0, 1), (.getfield 197, 3), (.aload 0, 1), (.getfield 192, 3), (.multianewarray 61 36, 3), (.istore 4, 2), (.iload 2, 1), (.ifCond .ne 1, 3), (.iload 4, 2), (.goto 2, 3)]),
  (39, [(.aload 0, 1), (.getfield 197, 3), (.aload 0, 1), (.getfield 192, 3), (.iload 4, 2), (.multianewarray 63 52, 3), (.goto 2, 0)]),
  (52, [(.ireturn, 1)])]
def mX6_turnsBy : ac_M := (yX6_turnsBy, cX6_turnsBy, 5, (some .int), 6, 0, 2, (5, 30), [], bX6_turnsBy, [886, 76, 884, 885], [])
def bX6_takeOrder : List (Nat × ac_I) := [(0, [(.aload 1, 1), (.getfield 98, 3), (.aload 0, 1), (.getfield 192, 3), (.getfield 4, 3), (.if_icmp .eq 1, 3), (.instanceof 0, 8)]),
  (22, [(.sipush (0), 1), (.istore 2, 1), (.sipush (0), 1), (.istore 3, 1), (.goto 2, 0)]),
  (26, [(.iload 3, 1), (.aload 0, 1), (.getfield 192, 3), (.getfield 4, 3), (.if_icmp .ge 5, 3), (.aload 1, 1), (.getfield 99, 3), (.iload 3, 1), (.laload, 1), (.lstore 4, 2), (.lload 4, 2), (.ldc2_w 0, 1), (.lcmp, 1), (.ifCond .lt 3, 3), (.lload 4, 2), (.aload 0, 1), (.getfield 192, 3), (.getfield 4, 3), (.i2l, 1), (.lcmp, 1), (.ifCond .ge 3, 3), (.aload 0, 1), (.getfield 192, 3), (.iload 2, 1), (.lload 4, 2), (.l2i, 1), (.multianewarray 8 48, 3), (.ifCond .eq 4, 3), (.goto 3, 0)]),
  (80, [(.instanceof 0, 8)]),
  (88, [(.iload 2, 1), (.sipush (1), 1), (.lload 4, 2), (.l2i, 1), (.ishl, 1), (.ior, 1), (.istore 2, 1), (.aload 0, 1), (.getfield 197, 3), (.getfield 128, 3), (.iload 3, 1), (.lload 4, 2), (.l2i, 1), (.iastore, 1), (.iinc 3 (1), 3), (.goto 2, 3)]),
  (114, [(.return_, 1)])]
def mX6_takeOrder : ac_M := (yX6_takeOrder, cX6_takeOrder, 6, none, 6, 0, 1, (2, 12), [], bX6_takeOrder, [890, 76, 889, 19], [])
def bX6_two : List (Nat × ac_I) := [(0, [(.iload 1, 1), (.sipush (1), 1), (.sipush (12), 2), (.ret 1987, 3), (.iload 2, 1), (.sipush (0), 1), (.sipush (999), 3), (.ret 1987, 3), (.aload 0, 1), (.getfield 192, 3), (.getfield 4, 3), (.sipush (8), 2), (.if_icmp .le 1, 3), (.instanceof 2, 8)]),
  (35, [(.aload 0, 1), (.getfield 198, 3), (.aload 0, 1), (.getfield 192, 3), (.iload 1, 1), (.iload 2, 1), (.iload 3, 1), (.multianewarray 65 85, 3), (.ireturn, 1)])]
def mX6_two : ac_M := (yX6_two, cX6_two, 4, (some .int), 6, 0, 3, (3, 18), [], bX6_two, [901, 76, 899, 900], [])
def bX6_bestRest : List (Nat × ac_I) := [(0, [(.sipush (-1), 1), (.istore 1, 1), (.sipush (0), 1), (.istore 2, 1), (.sipush (0), 1), (.istore 3, 1), (.goto 1, 0)]),
  (6, [(.iload 3, 1), (.aload 0, 1), (.getfield 192, 3), (.multianewarray 7 16, 3), (.if_icmp .gt 4, 3), (.aload 0, 1), (.getfield 192, 3), (.iload 3, 1), (.multianewarray 16 32, 3), (.ifCond .ne 3, 3), (.aload 0, 1), (.getfield 192, 3), (.iload 3, 1), (.multianewarray 13 32, 3), (.istore 4, 2), (.iload 1, 1), (.sipush (-1), 1), (.if_icmp .eq 2, 3), (.iload 4, 2), (.iload 2, 1), (.if_icmp .le 3, 3), (.goto 2, 0)]),
  (49, [(.iload 3, 1), (.istore 1, 1), (.iload 4, 2), (.istore 2, 1), (.goto 3, 0)]),
  (54, [(.iinc 3 (1), 3), (.goto 1, 3)]),
  (60, [(.iload 1, 1), (.ireturn, 1)])]
def mX6_bestRest : ac_M := (yX6_bestRest, cX6_bestRest, 5, (some .int), 6, 0, 0, (0, 0), [], bX6_bestRest, [469, 76, 467, 468], [])
def bX6_pay : List (Nat × ac_I) := [(0, [(.aload 0, 1), (.iload 1, 1), (.putstatic 33318, 3), (.aload 0, 1), (.getfield 192, 3), (.iload 1, 1), (.multianewarray 13 32, 3), (.ireturn, 1)])]
def mX6_pay : ac_M := (yX6_pay, cX6_pay, 2, (some .int), 6, 0, 1, (1, 6), [], bX6_pay, [933, 76, 931, 932], [])
def bX6_pivots : List (Nat × ac_I) := [(0, [(.aload 0, 1), (.iload 1, 1), (.putstatic 33318, 3), (.sipush (0), 1), (.istore 2, 1), (.sipush (0), 1), (.istore 3, 1), (.goto 1, 0)]),
  (9, [(.iload 3, 1), (.aload 0, 1), (.getfield 192, 3), (.getfield 4, 3), (.if_icmp .ge 3, 3), (.aload 0, 1), (.getfield 192, 3), (.iload 1, 1), (.sipush (1), 1), (.iload 3, 1), (.ishl, 1), (.ixor, 1), (.multianewarray 10 32, 3), (.aload 0, 1), (.getfield 192, 3), (.iload 1, 1), (.multianewarray 10 32, 3), (.if_icmp .eq 2, 3), (.iload 2, 1), (.sipush (1), 1), (.iload 3, 1), (.ishl, 1), (.ior, 1), (.istore 2, 1), (.goto 2, 0)]),
  (49, [(.iinc 3 (1), 3), (.goto 1, 3)]),
  (55, [(.iload 2, 1), (.ireturn, 1)])]
def mX6_pivots : ac_M := (yX6_pivots, cX6_pivots, 4, (some .int), 6, 0, 1, (1, 6), [], bX6_pivots, [940, 76, 938, 939], [])
def bX6_replies : List (Nat × ac_I) := [(0, [(.aload 0, 1), (.iload 1, 1), (.putstatic 33318, 3), (.iload 2, 1), (.sipush (0), 1), (.sipush (1), 1), (.ret 1987, 3), (.iload 1, 1), (.istore 3, 1), (.sipush (0), 1), (.istore 4, 2), (.goto 1, 0)]),
  (16, [(.iload 4, 2), (.sipush (4096), 3), (.if_icmp .gt 5, 3), (.aload 0, 1), (.getfield 192, 3), (.iload 3, 1), (.multianewarray 16 32, 3), (.istore 5, 2), (.iload 5, 2), (.ifCond .ne 4, 3), (.iload 2, 1), (.ifCond .ne 2, 3), (.iload 3, 1), (.goto 3, 3)]),
  (47, [(.iload 4, 2), (.goto 3, 0)]),
  (49, [(.ireturn, 1)]),
  (50, [(.iload 3, 1), (.iload 5, 2), (.iload 5, 2), (.ineg, 1), (.iand, 1), (.ixor, 1), (.istore 3, 1), (.iinc 4 (1), 3), (.goto 1, 3)]),
  (65, [(.sipush (-1), 1), (.ireturn, 1)])]
def mX6_replies : ac_M := (yX6_replies, cX6_replies, 6, (some .int), 6, 0, 2, (2, 12), [], bX6_replies, [947, 76, 945, 946], [])
def bX6_bribe : List (Nat × ac_I) := [(0, [(.aload 0, 1), (.iload 1, 1), (.putstatic 33318, 3), (.aload 0, 1), (.getfield 192, 3), (.iload 1, 1), (.multianewarray 15 32, 3), (.ireturn, 1)])]
def mX6_bribe : ac_M := (yX6_bribe, cX6_bribe, 2, (some .int), 6, 0, 1, (1, 6), [], bX6_bribe, [954, 76, 952, 953], [])
def bX6_leastBribe : List (Nat × ac_I) := [(0, [(.iload 1, 1), (.sipush (0), 1), (.sipush (1), 1), (.ret 1987, 3), (.sipush (-1), 1), (.istore 2, 1), (.sipush (-1), 1), (.istore 3, 1), (.sipush (0), 1), (.istore 4, 2), (.goto 1, 0)]),
  (13, [(.iload 4, 2), (.aload 0, 1), (.getfield 192, 3), (.multianewarray 7 16, 3), (.if_icmp .gt 4, 3), (.aload 0, 1), (.getfield 192, 3), (.iload 4, 2), (.multianewarray 10 32, 3), (.ifCond .eq 3, 3), (.aload 0, 1), (.getfield 192, 3), (.iload 4, 2), (.multianewarray 15 32, 3), (.istore 5, 2), (.iload 2, 1), (.sipush (-1), 1), (.if_icmp .eq 2, 3), (.iload 5, 2), (.iload 3, 1), (.if_icmp .ge 3, 3), (.goto 2, 0)]),
  (59, [(.iload 4, 2), (.istore 2, 1), (.iload 5, 2), (.istore 3, 1), (.goto 3, 0)]),
  (65, [(.iinc 4 (1), 3), (.goto 1, 3)]),
  (71, [(.iload 1, 1), (.ifCond .ne 5, 3), (.iload 3, 1), (.goto 6, 3)]),
  (79, [(.iload 2, 1), (.goto 6, 0)]),
  (80, [(.ireturn, 1)])]
def mX6_leastBribe : ac_M := (yX6_leastBribe, cX6_leastBribe, 6, (some .int), 6, 0, 1, (1, 6), [], bX6_leastBribe, [967, 76, 965, 966], [])
def bX6_contract : List (Nat × ac_I) := [(0, [(.iload 1, 1), (.sipush (0), 1), (.sipush (1), 1), (.ret 1987, 3), (.sipush (-1), 1), (.istore 2, 1), (.sipush (-1), 1), (.istore 3, 1), (.sipush (0), 1), (.istore 4, 2), (.goto 1, 0)]),
  (13, [(.iload 4, 2), (.aload 0, 1), (.getfield 192, 3), (.multianewarray 7 16, 3), (.if_icmp .gt 4, 3), (.aload 0, 1), (.getfield 192, 3), (.iload 4, 2), (.multianewarray 10 32, 3), (.ifCond .eq 3, 3), (.aload 0, 1), (.getfield 192, 3), (.iload 4, 2), (.multianewarray 14 32, 3), (.istore 5, 2), (.iload 2, 1), (.sipush (-1), 1), (.if_icmp .eq 2, 3), (.iload 5, 2), (.iload 3, 1), (.if_icmp .ge 3, 3), (.goto 2, 0)]),
  (59, [(.iload 4, 2), (.istore 2, 1), (.iload 5, 2), (.istore 3, 1), (.goto 3, 0)]),
  (65, [(.iinc 4 (1), 3), (.goto 1, 3)]),
  (71, [(.iload 1, 1), (.ifCond .ne 5, 3), (.iload 3, 1), (.goto 6, 3)]),
  (79, [(.iload 2, 1), (.goto 6, 0)]),
  (80, [(.ireturn, 1)])]
def mX6_contract : ac_M := (yX6_contract, cX6_contract, 6, (some .int), 6, 0, 1, (1, 6), [], bX6_contract, [974, 76, 972, 973], [])
def bX6_odds : List (Nat × ac_I) := [(0, [(.iload 1, 1), (.iload 2, 1), (.ret 2002, 3), (.aload 0, 1), (.getfield 192, 3), (.getfield 4, 3), (.iload 3, 1), (.iload 1, 1), (.iload 2, 1), (.invokeinterface 134 4, 3), (.lreturn, 1)])]
def mX6_odds : ac_M := (yX6_odds, cX6_odds, 4, (some .long), 6, 0, 3, (2, 12), [], bX6_odds, [982, 76, 980, 981], [])
def bX6_bestOdds : List (Nat × ac_I) := [(0, [(.iload 1, 1), (.sipush (1), 1), (.sipush (20), 2), (.ret 1987, 3), (.sipush (0), 1), (.istore 2, 1), (.ldc2_w 0, 1), (.lstore 3, 1), (.sipush (0), 1), (.istore 5, 2), (.goto 1, 0)]),
  (14, [(.iload 5, 2), (.iload 1, 1), (.if_icmp .gt 3, 3), (.aload 0, 1), (.getfield 192, 3), (.getfield 4, 3), (.aload 0, 1), (.getfield 192, 3), (.getfield 1, 3), (.iload 5, 2), (.iload 1, 1), (.invokeinterface 134 4, 3), (.lstore 6, 2), (.lload 6, 2), (.lload 3, 1), (.lcmp, 1), (.ifCond .le 2, 3), (.iload 5, 2), (.istore 2, 1), (.lload 6, 2), (.lstore 3, 1), (.goto 2, 0)]),
  (55, [(.iinc 5 (1), 3), (.goto 1, 3)]),
  (61, [(.iload 2, 1), (.ireturn, 1)])]
def mX6_bestOdds : ac_M := (yX6_bestOdds, cX6_bestOdds, 8, (some .int), 6, 0, 1, (1, 6), [], bX6_bestOdds, [999, 76, 997, 998], [])
def bX6_chances : List (Nat × ac_I) := [(0, [(.aload 0, 1), (.iload 1, 1), (.putstatic 34086, 3), (.astore 4, 2), (.iload 2, 1), (.sipush (1), 1), (.sipush (20), 2), (.ret 1987, 3), (.aload 0, 1), (.aload 4, 2), (.iload 2, 1), (.putstatic 32310, 3), (.iload 3, 1), (.ifCond .lt 1, 3), (.iload 3, 1), (.aload 0, 1), (.getfield 192, 3), (.getfield 4, 3), (.if_icmp .le 2, 3), (.goto 1, 0)]),
  (36, [(.ldc2_w 0, 1), (.lreturn, 1)]),
  (38, [(.aload 0, 1), (.getfield 203, 3), (.sipush (0), 1), (.ldc2_w 1, 1), (.lastore, 1), (.sipush (0), 1), (.istore 5, 2), (.goto 3, 0)]),
  (48, [(.iload 5, 2), (.aload 0, 1), (.getfield 192, 3), (.getfield 4, 3), (.if_icmp .ge 6, 3), (.aload 4, 2), (.getfield 99, 3), (.iload 5, 2), (.laload, 1), (.lstore 6, 2), (.aload 0, 1), (.getfield 203, 3), (.iload 5, 2), (.sipush (1), 1), (.iadd, 1), (.aload 0, 1), (.getfield 203, 3), (.iload 5, 2), (.laload, 1), (.lload 6, 2), (.lmul, 1), (.lastore, 1), (.iload 5, 2), (.istore 8, 2), (.goto 4, 0)]),
  (93, [(.iload 8, 2), (.ifCond .le 5, 3), (.aload 0, 1), (.getfield 203, 3), (.iload 8, 2), (.aload 0, 1), (.getfield 203, 3), (.iload 8, 2), (.laload, 1), (.iload 2, 1), (.i2l, 1), (.lload 6, 2), (.lsub, 1), (.lmul, 1), (.aload 0, 1), (.getfield 203, 3), (.iload 8, 2), (.sipush (1), 1), (.isub, 1), (.laload, 1), (.lload 6, 2), (.lmul, 1), (.ladd, 1), (.lastore, 1), (.iinc 8 (-1), 3), (.goto 4, 3)]),
  (137, [(.aload 0, 1), (.getfield 203, 3), (.sipush (0), 1), (.dup2, 1), (.laload, 1), (.iload 2, 1), (.i2l, 1), (.lload 6, 2), (.lsub, 1), (.lmul, 1), (.lastore, 1), (.iinc 5 (1), 3), (.goto 3, 3)]),
  (157, [(.aload 0, 1), (.getfield 203, 3), (.iload 3, 1), (.laload, 1), (.lreturn, 1)])]
def mX6_chances : ac_M := (yX6_chances, cX6_chances, 9, (some .long), 6, 0, 3, (5, 30), [], bX6_chances, [1006, 76, 1004, 1005], [])
def bX6_hope : List (Nat × ac_I) := [(0, [(.aload 0, 1), (.iload 1, 1), (.putstatic 32550, 3), (.iload 2, 1), (.iload 3, 1), (.ret 2002, 3), (.iload 4, 2), (.sipush (0), 1), (.sipush (1), 1), (.ret 1987, 3), (.aload 0, 1), (.getfield 192, 3), (.getfield 4, 3), (.sipush (1), 1), (.isub, 1), (.istore 5, 2), (.ldc2_w 1, 1), (.iload 3, 1), (.iload 5, 2), (.invokeinterface 136 2, 3), (.invokeinterface 254 2, 3), (.lstore 6, 2), (.aload 0, 1), (.getfield 192, 3), (.getfield 2, 3), (.i2l, 1), (.iload 5, 2), (.aload 0, 1), (.getfield 192, 3), (.getfield 1, 3), (.sipush (1), 1), (.isub, 1), (.iload 2, 1), (.iload 3, 1), (.invokeinterface 134 4, 3), (.lmul, 1), (.aload 0, 1), (.getfield 192, 3), (.getfield 12, 3), (.iload 1, 1), (.iaload, 1), (.i2l, 1), (.lload 6, 2), (.lmul, 1), (.lsub, 1), (.lstore 8, 2), (.iload 4, 2), (.ifCond .ne 1, 3), (.lload 8, 2), (.lload 6, 2), (.invokeinterface 250 2, 3), (.goto 2, 3)]),
  (96, [(.lload 8, 2), (.lload 6, 2), (.invokeinterface 251 2, 3), (.goto 2, 0)]),
  (103, [(.lreturn, 1)])]
def mX6_hope : ac_M := (yX6_hope, cX6_hope, 10, (some .long), 6, 0, 4, (4, 24), [], bX6_hope, [1017, 76, 1015, 1016], [])
def bX6_ahead : List (Nat × ac_I) := [(0, [(.iload 1, 1), (.sipush (1), 1), (.sipush (60), 2), (.ret 1987, 3), (.iload 2, 1), (.sipush (100), 2), (.if_icmp .lt 1, 3), (.iload 2, 1), (.sipush (100), 2), (.iload 1, 1), (.iadd, 1), (.if_icmp .ge 1, 3), (.sipush (1), 1), (.goto 2, 3)]),
  (25, [(.sipush (0), 1), (.goto 2, 0)]),
  (26, [(.istore 3, 1), (.iload 3, 1), (.ifCond .ne 3, 3), (.iload 2, 1), (.sipush (0), 1), (.sipush (2), 1), (.ret 1987, 3), (.goto 3, 0)]),
  (37, [(.iload 2, 1), (.ifCond .ne 4, 3), (.aload 0, 1), (.getfield 196, 3), (.aload 0, 1), (.getfield 192, 3), (.iload 1, 1), (.multianewarray 39 49, 3), (.ireturn, 1)]),
  (54, [(.aload 0, 1), (.getfield 196, 3), (.aload 0, 1), (.getfield 192, 3), (.multianewarray 32 33, 3), (.sipush (0), 1), (.istore 4, 2), (.aload 0, 1), (.getfield 192, 3), (.multianewarray 7 16, 3), (.istore 5, 2), (.sipush (0), 1), (.istore 6, 2), (.goto 5, 0)]),
  (80, [(.iload 6, 2), (.iload 1, 1), (.if_icmp .ge 7, 3), (.aload 0, 1), (.getfield 196, 3), (.multianewarray 34 17, 3), (.istore 7, 2), (.iload 2, 1), (.sipush (100), 2), (.iload 6, 2), (.iadd, 1), (.if_icmp .ne 6, 3), (.iload 7, 2), (.ireturn, 1)]),
  (107, [(.iload 4, 2), (.iload 7, 2), (.ior, 1), (.istore 4, 2), (.iload 5, 2), (.iload 7, 2), (.iand, 1), (.istore 5, 2), (.iinc 6 (1), 3), (.goto 5, 3)]),
  (127, [(.iload 2, 1), (.sipush (1), 1), (.if_icmp .ne 8, 3), (.aload 0, 1), (.getfield 192, 3), (.multianewarray 7 16, 3), (.iload 4, 2), (.sipush (-1), 1), (.ixor, 1), (.iand, 1), (.goto 9, 3)]),
  (147, [(.iload 5, 2), (.goto 9, 0)]),
  (149, [(.ireturn, 1)])]
def mX6_ahead : ac_M := (yX6_ahead, cX6_ahead, 8, (some .int), 6, 0, 2, (2, 12), [], bX6_ahead, [1033, 76, 1031, 1032], [])
def bX6_ring : List (Nat × ac_I) := [(0, [(.iload 1, 1), (.sipush (0), 1), (.sipush (1), 1), (.ret 1987, 3), (.aload 0, 1), (.getfield 192, 3), (.multianewarray 21 16, 3), (.ifCond .eq 1, 3), (.sipush (-1), 1), (.ireturn, 1)]),
  (18, [(.aload 0, 1), (.getfield 192, 3), (.multianewarray 22 16, 3), (.istore 2, 1), (.aload 0, 1), (.getfield 196, 3), (.aload 0, 1), (.getfield 192, 3), (.multianewarray 32 33, 3), (.aload 0, 1), (.getfield 202, 3), (.sipush (0), 1), (.aload 0, 1), (.getfield 196, 3), (.getfield 34, 3), (.iastore, 1), (.sipush (1), 1), (.istore 3, 1), (.goto 2, 0)]),
  (52, [(.iload 3, 1), (.sipush (400), 3), (.if_icmp .gt 8, 3), (.aload 0, 1), (.getfield 202, 3), (.iload 3, 1), (.aload 0, 1), (.getfield 196, 3), (.multianewarray 34 17, 3), (.iastore, 1), (.iload 3, 1), (.iload 2, 1), (.isub, 1), (.istore 4, 2), (.goto 3, 0)]),
  (77, [(.iload 4, 2), (.ifCond .lt 7, 3), (.aload 0, 1), (.getfield 202, 3), (.iload 4, 2), (.iaload, 1), (.aload 0, 1), (.getfield 202, 3), (.iload 3, 1), (.iaload, 1), (.if_icmp .ne 6, 3), (.iload 1, 1), (.ifCond .ne 4, 3), (.iload 3, 1), (.iload 4, 2), (.isub, 1), (.goto 5, 3)]),
  (109, [(.iload 4, 2), (.goto 5, 0)]),
  (111, [(.ireturn, 1)]),
  (112, [(.iload 4, 2), (.iload 2, 1), (.isub, 1), (.istore 4, 2), (.goto 3, 3)]),
  (121, [(.iinc 3 (1), 3), (.goto 2, 3)]),
  (127, [(.sipush (-1), 1), (.ireturn, 1)])]
def mX6_ring : ac_M := (yX6_ring, cX6_ring, 5, (some .int), 6, 0, 1, (1, 6), [], bX6_ring, [1047, 76, 1045, 1046], [])
def bX6_worth : List (Nat × ac_I) := [(0, [(.aload 0, 1), (.iload 1, 1), (.putstatic 32550, 3), (.iload 2, 1), (.sipush (1), 1), (.sipush (60), 2), (.ret 1987, 3), (.aload 0, 1), (.getfield 194, 3), (.aload 0, 1), (.getfield 192, 3), (.multianewarray 4 32, 3), (.aload 0, 1), (.getfield 194, 3), (.iload 1, 1), (.sipush (1), 1), (.sipush (0), 1), (.multianewarray 5 64, 3), (.aload 0, 1), (.getfield 194, 3), (.dup, 1), (.getfield 5, 3), (.sipush (1), 1), (.iload 1, 1), (.ishl, 1), (.sipush (-1), 1), (.ixor, 1), (.iand, 1), (.putfield 5, 3), (.aload 0, 1), (.getfield 196, 3), (.aload 0, 1), (.getfield 192, 3), (.iload 2, 1), (.multianewarray 39 49, 3), (.aload 0, 1), (.getfield 196, 3), (.aload 0, 1), (.getfield 194, 3), (.iload 2, 1), (.multianewarray 39 49, 3), (.isub, 1), (.ireturn, 1)])]
def mX6_worth : ac_M := (yX6_worth, cX6_worth, 3, (some .int), 6, 0, 2, (2, 12), [], bX6_worth, [1065, 76, 1063, 1064], [])
def bX6_bestQuota : List (Nat × ac_I) := [(0, [(.iload 1, 1), (.sipush (1), 1), (.sipush (60), 2), (.ret 1987, 3), (.aload 0, 1), (.getfield 194, 3), (.aload 0, 1), (.getfield 192, 3), (.multianewarray 4 32, 3), (.sipush (1), 1), (.istore 2, 1), (.sipush (0), 1), (.istore 3, 1), (.sipush (1), 1), (.istore 4, 2), (.goto 1, 0)]),
  (25, [(.iload 4, 2), (.sipush (12), 2), (.if_icmp .gt 3, 3), (.aload 0, 1), (.getfield 194, 3), (.iload 4, 2), (.putfield 1, 3), (.aload 0, 1), (.getfield 196, 3), (.aload 0, 1), (.getfield 194, 3), (.iload 1, 1), (.multianewarray 39 49, 3), (.istore 5, 2), (.iload 5, 2), (.iload 3, 1), (.if_icmp .le 2, 3), (.iload 4, 2), (.istore 2, 1), (.iload 5, 2), (.istore 3, 1), (.goto 2, 0)]),
  (67, [(.iinc 4 (1), 3), (.goto 1, 3)]),
  (73, [(.iload 2, 1), (.ireturn, 1)])]
def mX6_bestQuota : ac_M := (yX6_bestQuota, cX6_bestQuota, 6, (some .int), 6, 0, 1, (1, 6), [], bX6_bestQuota, [1083, 76, 1081, 1082], [])
def ms3 : List ac_M := [mX6_rests, mX6_rest, mX6_strong, mX6_strongs, mX6_inTurn, mX6_turnsBy, mX6_takeOrder, mX6_two, mX6_bestRest, mX6_pay, mX6_pivots, mX6_replies, mX6_bribe, mX6_leastBribe, mX6_contract, mX6_odds, mX6_bestOdds, mX6_chances, mX6_hope, mX6_ahead, mX6_ring, mX6_worth, mX6_bestQuota]
def bX6_bestRule : List (Nat × ac_I) := [(0, [(.aload 0, 1), (.iload 1, 1), (.putstatic 32550, 3), (.iload 2, 1), (.sipush (1), 1), (.sipush (30), 2), (.ret 1987, 3), (.iload 3, 1), (.sipush (0), 1), (.sipush (2), 1), (.ret 1987, 3), (.aload 0, 1), (.getfield 194, 3), (.aload 0, 1), (.getfield 192, 3), (.multianewarray 4 32, 3), (.sipush (-1), 1), (.istore 4, 2), (.sipush (0), 1), (.istore 5, 2), (.sipush (0), 1), (.istore 6, 2), (.sipush (0), 1), (.istore 7, 2), (.goto 1, 0)]),
  (41, [(.iload 7, 2), (.sipush (11), 2), (.if_icmp .ge 6, 3), (.getstatic 0, 3), (.iload 7, 2), (.daload, 1), (.istore 8, 2), (.goto 2, 0)]),
  (56, [(.iload 8, 2), (.getstatic 1, 3), (.iload 7, 2), (.saload, 1), (.if_icmp .gt 5, 3), (.aload 0, 1), (.getfield 194, 3), (.iload 1, 1), (.iload 7, 2), (.iload 8, 2), (.multianewarray 5 64, 3), (.aload 0, 1), (.getfield 196, 3), (.aload 0, 1), (.getfield 194, 3), (.iload 1, 1), (.iload 2, 1), (.multianewarray 40 65, 3), (.istore 9, 2), (.iload 4, 2), (.sipush (-1), 1), (.if_icmp .eq 3, 3), (.iload 9, 2), (.iload 6, 2), (.if_icmp .le 4, 3), (.goto 3, 0)]),
  (107, [(.iload 7, 2), (.istore 4, 2), (.iload 8, 2), (.istore 5, 2), (.iload 9, 2), (.istore 6, 2), (.goto 4, 0)]),
  (119, [(.iinc 8 (1), 3), (.goto 2, 3)]),
  (125, [(.iinc 7 (1), 3), (.goto 1, 3)]),
  (131, [(.iload 3, 1), (.sipush (2), 1), (.if_icmp .ne 7, 3), (.iload 6, 2), (.ireturn, 1)]),
  (139, [(.iload 3, 1), (.ifCond .ne 8, 3), (.iload 4, 2), (.goto 9, 3)]),
  (148, [(.iload 5, 2), (.goto 9, 0)]),
  (150, [(.ireturn, 1)])]
def mX6_bestRule : ac_M := (yX6_bestRule, cX6_bestRule, 10, (some .int), 6, 0, 3, (3, 18), [], bX6_bestRule, [1090, 76, 1088, 1089], [])
def bX6_streak : List (Nat × ac_I) := [(0, [(.iload 1, 1), (.sipush (0), 1), (.sipush (1), 1), (.ret 1987, 3), (.sipush (0), 1), (.istore 2, 1), (.sipush (-1), 1), (.istore 3, 1), (.sipush (0), 1), (.istore 4, 2), (.sipush (0), 1), (.istore 5, 2), (.goto 1, 0)]),
  (16, [(.iload 5, 2), (.aload 0, 1), (.getfield 192, 3), (.getfield 6, 3), (.if_icmp .ge 5, 3), (.aload 0, 1), (.getfield 192, 3), (.aload 0, 1), (.getfield 192, 3), (.getfield 13, 3), (.iload 5, 2), (.iaload, 1), (.multianewarray 10 32, 3), (.ifCond .eq 2, 3), (.iload 4, 2), (.sipush (1), 1), (.iadd, 1), (.goto 3, 3)]),
  (55, [(.sipush (0), 1), (.goto 3, 0)]),
  (56, [(.istore 4, 2), (.iload 4, 2), (.iload 2, 1), (.if_icmp .le 4, 3), (.iload 4, 2), (.istore 2, 1), (.iload 5, 2), (.iload 4, 2), (.isub, 1), (.sipush (1), 1), (.iadd, 1), (.istore 3, 1), (.goto 4, 0)]),
  (75, [(.iinc 5 (1), 3), (.goto 1, 3)]),
  (81, [(.iload 1, 1), (.ifCond .ne 6, 3), (.iload 2, 1), (.goto 7, 3)]),
  (89, [(.iload 3, 1), (.goto 7, 0)]),
  (90, [(.ireturn, 1)])]
def mX6_streak : ac_M := (yX6_streak, cX6_streak, 6, (some .int), 6, 0, 1, (1, 6), [], bX6_streak, [1103, 76, 1101, 1102], [])
def bX6_tally : List (Nat × ac_I) := [(0, [(.aload 0, 1), (.getfield 192, 3), (.iload 1, 1), (.aload 0, 1), (.getfield 192, 3), (.getfield 6, 3), (.multianewarray 27 48, 3), (.ireturn, 1)])]
def mX6_tally : ac_M := (yX6_tally, cX6_tally, 2, (some .int), 6, 0, 1, (0, 0), [], bX6_tally, [481, 76, 479, 480], [])
def bX6_together : List (Nat × ac_I) := [(0, [(.aload 0, 1), (.iload 1, 1), (.putstatic 32550, 3), (.aload 0, 1), (.iload 2, 1), (.putstatic 32550, 3), (.aload 0, 1), (.getfield 192, 3), (.sipush (1), 1), (.iload 1, 1), (.ishl, 1), (.sipush (1), 1), (.iload 2, 1), (.ishl, 1), (.ior, 1), (.multianewarray 24 32, 3), (.ireturn, 1)])]
def mX6_together : ac_M := (yX6_together, cX6_together, 3, (some .int), 6, 0, 2, (2, 12), [], bX6_together, [1110, 76, 1108, 1109], [])
def bX6_friends : List (Nat × ac_I) := [(0, [(.sipush (-1), 1), (.istore 1, 1), (.sipush (0), 1), (.istore 2, 1), (.sipush (0), 1), (.istore 3, 1), (.goto 1, 0)]),
  (6, [(.iload 3, 1), (.aload 0, 1), (.getfield 192, 3), (.getfield 4, 3), (.if_icmp .ge 5, 3), (.iload 3, 1), (.sipush (1), 1), (.iadd, 1), (.istore 4, 2), (.goto 2, 0)]),
  (22, [(.iload 4, 2), (.aload 0, 1), (.getfield 192, 3), (.getfield 4, 3), (.if_icmp .ge 4, 3), (.aload 0, 1), (.getfield 192, 3), (.sipush (1), 1), (.iload 3, 1), (.ishl, 1), (.sipush (1), 1), (.iload 4, 2), (.ishl, 1), (.ior, 1), (.multianewarray 24 32, 3), (.istore 5, 2), (.iload 5, 2), (.iload 2, 1), (.if_icmp .le 3, 3), (.sipush (100), 2), (.iload 3, 1), (.imul, 1), (.iload 4, 2), (.iadd, 1), (.istore 1, 1), (.iload 5, 2), (.istore 2, 1), (.goto 3, 0)]),
  (68, [(.iinc 4 (1), 3), (.goto 2, 3)]),
  (74, [(.iinc 3 (1), 3), (.goto 1, 3)]),
  (80, [(.iload 1, 1), (.ireturn, 1)])]
def mX6_friends : ac_M := (yX6_friends, cX6_friends, 6, (some .int), 6, 0, 0, (0, 0), [], bX6_friends, [489, 76, 487, 488], [])
def bX6_doubts : List (Nat × ac_I) := [(0, [(.aload 0, 1), (.iload 1, 1), (.putstatic 32550, 3), (.aload 0, 1), (.iload 2, 1), (.putstatic 32806, 3), (.aload 0, 1), (.getfield 192, 3), (.getfield 10, 3), (.iload 1, 1), (.iaload, 1), (.istore 3, 1), (.iload 3, 1), (.sipush (7), 2), (.if_icmp .eq 1, 3), (.iload 3, 1), (.sipush (8), 2), (.if_icmp .eq 1, 3), (.sipush (-1), 1), (.ireturn, 1)]),
  (34, [(.aload 0, 1), (.getfield 192, 3), (.getfield 13, 3), (.iload 2, 1), (.iaload, 1), (.istore 4, 2), (.aload 0, 1), (.getfield 192, 3), (.iload 1, 1), (.iload 4, 2), (.multianewarray 19 48, 3), (.invokeinterface 249 1, 3), (.istore 5, 2), (.ldc2_w 0, 1), (.lstore 6, 2), (.sipush (0), 1), (.istore 8, 2), (.goto 2, 0)]),
  (66, [(.iload 8, 2), (.iload 5, 2), (.if_icmp .gt 4, 3), (.aload 0, 1), (.getfield 192, 3), (.iload 1, 1), (.iload 8, 2), (.multianewarray 20 48, 3), (.aload 0, 1), (.getfield 192, 3), (.iload 4, 2), (.iload 1, 1), (.multianewarray 8 48, 3), (.if_icmp .ne 3, 3), (.lload 6, 2), (.iload 5, 2), (.iload 8, 2), (.invokeinterface 135 2, 3), (.ladd, 1), (.lstore 6, 2), (.goto 3, 0)]),
  (108, [(.iinc 8 (1), 3), (.goto 2, 3)]),
  (114, [(.lload 6, 2), (.l2i, 1), (.ireturn, 1)])]
def mX6_doubts : ac_M := (yX6_doubts, cX6_doubts, 9, (some .int), 6, 0, 2, (2, 12), [], bX6_doubts, [1117, 76, 1115, 1116], [])
def bX6_cook : List (Nat × ac_I) := [(0, [(.iload 1, 1), (.sipush (0), 1), (.sipush (3), 1), (.ret 1987, 3), (.sipush (0), 1), (.istore 2, 1), (.sipush (1), 1), (.istore 3, 1), (.goto 1, 0)]),
  (10, [(.iload 3, 1), (.aload 0, 1), (.getfield 192, 3), (.getfield 6, 3), (.if_icmp .ge 2, 3), (.iload 2, 1), (.aload 0, 1), (.getfield 192, 3), (.iload 1, 1), (.iload 3, 1), (.multianewarray 28 48, 3), (.aload 0, 1), (.getfield 192, 3), (.getfield 13, 3), (.iload 3, 1), (.iaload, 1), (.invokeinterface 249 1, 3), (.isub, 1), (.invokeinterface 252 1, 3), (.iadd, 1), (.istore 2, 1), (.iinc 3 (1), 3), (.goto 1, 3)]),
  (55, [(.iload 2, 1), (.ireturn, 1)])]
def mX6_cook : ac_M := (yX6_cook, cX6_cook, 4, (some .int), 6, 0, 1, (1, 6), [], bX6_cook, [1125, 76, 1123, 1124], [])
def bX6_guess : List (Nat × ac_I) := [(0, [(.iload 1, 1), (.sipush (0), 1), (.sipush (3), 1), (.ret 1987, 3), (.aload 0, 1), (.getfield 192, 3), (.iload 1, 1), (.aload 0, 1), (.getfield 192, 3), (.getfield 6, 3), (.multianewarray 28 48, 3), (.ireturn, 1)])]
def mX6_guess : ac_M := (yX6_guess, cX6_guess, 2, (some .int), 6, 0, 1, (1, 6), [], bX6_guess, [1147, 76, 1145, 1146], [])
def bX6_tray : List (Nat × ac_I) := [(0, [(.iload 1, 1), (.ret 2113, 3), (.iload 2, 1), (.sipush (0), 1), (.sipush (3), 1), (.ret 1987, 3), (.iload 3, 1), (.sipush (0), 1), (.sipush (60), 2), (.ret 1987, 3), (.aload 0, 1), (.getfield 199, 3), (.iload 1, 1), (.aaload, 1), (.iload 2, 1), (.iload 3, 1), (.multianewarray 57 51, 3), (.return_, 1)])]
def mX6_tray : ac_M := (yX6_tray, cX6_tray, 4, none, 6, 0, 3, (3, 18), [], bX6_tray, [1154, 76, 1152, 1153], [])
def bX6_write : List (Nat × ac_I) := [(0, [(.aload 0, 1), (.iload 1, 1), (.putstatic 34086, 3), (.astore 5, 2), (.iload 2, 1), (.ifCond .lt 1, 3), (.iload 2, 1), (.aload 5, 2), (.getfield 98, 3), (.if_icmp .lt 2, 3), (.goto 1, 0)]),
  (20, [(.instanceof 3, 8)]),
  (28, [(.aload 5, 2), (.iload 2, 1), (.lload 3, 1), (.multianewarray 58 51, 3), (.lreturn, 1)])]
def mX6_write : ac_M := (yX6_write, cX6_write, 6, (some .long), 6, 0, 3, (3, 18), [], bX6_write, [1166, 76, 1164, 1165], [])
def bX6_pour : List (Nat × ac_I) := [(0, [(.aload 0, 1), (.iload 1, 1), (.putstatic 34086, 3), (.astore 2, 1), (.aload 2, 1), (.getfield 98, 3), (.aload 0, 1), (.getfield 192, 3), (.getfield 6, 3), (.invokeinterface 255 2, 3), (.istore 3, 1), (.sipush (0), 1), (.istore 4, 2), (.goto 1, 0)]),
  (24, [(.iload 4, 2), (.iload 3, 1), (.if_icmp .ge 2, 3), (.aload 2, 1), (.iload 4, 2), (.aload 0, 1), (.getfield 192, 3), (.getfield 13, 3), (.iload 4, 2), (.iaload, 1), (.i2l, 1), (.multianewarray 58 51, 3), (.pop2, 1), (.iinc 4 (1), 3), (.goto 1, 3)]),
  (54, [(.iload 3, 1), (.ireturn, 1)])]
def mX6_pour : ac_M := (yX6_pour, cX6_pour, 5, (some .int), 6, 0, 1, (2, 12), [], bX6_pour, [1196, 76, 1194, 1195], [])
def bX6_image : List (Nat × ac_I) := [(0, [(.iload 1, 1), (.ret 2097, 3), (.aload 0, 1), (.getfield 200, 3), (.iload 1, 1), (.aaload, 1), (.aload 0, 1), (.getfield 192, 3), (.multianewarray 4 32, 3), (.aload 0, 1), (.getfield 201, 3), (.iload 1, 1), (.sipush (1), 1), (.bastore, 1), (.return_, 1)])]
def mX6_image : ac_M := (yX6_image, cX6_image, 2, none, 6, 0, 1, (1, 6), [], bX6_image, [1206, 76, 1204, 1205], [])
def bX6_restore : List (Nat × ac_I) := [(0, [(.iload 1, 1), (.ret 2097, 3), (.aload 0, 1), (.getfield 201, 3), (.iload 1, 1), (.baload, 1), (.ifCond .ne 1, 3), (.instanceof 2, 8)]),
  (21, [(.aload 0, 1), (.getfield 192, 3), (.aload 0, 1), (.getfield 200, 3), (.iload 1, 1), (.aaload, 1), (.multianewarray 4 32, 3), (.return_, 1)])]
def mX6_restore : ac_M := (yX6_restore, cX6_restore, 2, none, 6, 0, 1, (2, 12), [], bX6_restore, [1216, 76, 1214, 1215], [])
def bX6_count : List (Nat × ac_I) := [(0, [(.iload 1, 1), (.tableswitch 9 0 7 #[1, 2, 3, 4, 5, 6, 7, 8], 47)]),
  (48, [(.aload 0, 1), (.getfield 192, 3), (.getfield 0, 3), (.ireturn, 1)]),
  (56, [(.aload 0, 1), (.getfield 192, 3), (.getfield 1, 3), (.ireturn, 1)]),
  (64, [(.aload 0, 1), (.getfield 192, 3), (.getfield 2, 3), (.ireturn, 1)]),
  (72, [(.aload 0, 1), (.getfield 192, 3), (.getfield 3, 3), (.ireturn, 1)]),
  (80, [(.aload 0, 1), (.getfield 192, 3), (.getfield 4, 3), (.ireturn, 1)]),
  (88, [(.aload 0, 1), (.getfield 192, 3), (.getfield 6, 3), (.ireturn, 1)]),
  (96, [(.aload 0, 1), (.getfield 192, 3), (.multianewarray 26 16, 3), (.ireturn, 1)]),
  (104, [(.aload 0, 1), (.getfield 195, 3), (.getfield 65, 3), (.ireturn, 1)]),
  (112, [(.sipush (-1), 1), (.ireturn, 1)])]
def mX6_count : ac_M := (yX6_count, cX6_count, 2, (some .int), 6, 0, 1, (0, 0), [], bX6_count, [497, 76, 495, 496], [])
def bX6_requireWithin : List (Nat × ac_I) := [(0, [(.iload 0, 1), (.iload 1, 1), (.if_icmp .lt 1, 3), (.iload 0, 1), (.iload 2, 1), (.if_icmp .le 2, 3), (.goto 1, 0)]),
  (10, [(.instanceof 0, 8)]),
  (18, [(.return_, 1)])]
def mX6_requireWithin : ac_M := (yX6_requireWithin, cX6_requireWithin, 3, none, 6, 1, 3, (1, 6), [], bX6_requireWithin, [513, 76, 512], [])
def bX6_requireChance : List (Nat × ac_I) := [(0, [(.iload 1, 1), (.sipush (1), 1), (.sipush (20), 2), (.ret 1987, 3), (.iload 0, 1), (.sipush (0), 1), (.iload 1, 1), (.ret 1987, 3), (.return_, 1)])]
def mX6_requireChance : ac_M := (yX6_requireChance, cX6_requireChance, 2, none, 6, 1, 2, (2, 12), [], bX6_requireChance, [985, 76, 984], [])
def bX6_requireChances : List (Nat × ac_I) := [(0, [(.aload 1, 1), (.getfield 98, 3), (.aload 0, 1), (.getfield 192, 3), (.getfield 4, 3), (.if_icmp .eq 1, 3), (.instanceof 0, 8)]),
  (22, [(.sipush (0), 1), (.istore 3, 1), (.goto 2, 0)]),
  (24, [(.iload 3, 1), (.aload 1, 1), (.getfield 98, 3), (.if_icmp .ge 5, 3), (.aload 1, 1), (.getfield 99, 3), (.iload 3, 1), (.laload, 1), (.ldc2_w 0, 1), (.lcmp, 1), (.ifCond .lt 3, 3), (.aload 1, 1), (.getfield 99, 3), (.iload 3, 1), (.laload, 1), (.iload 2, 1), (.i2l, 1), (.lcmp, 1), (.ifCond .le 4, 3), (.goto 3, 0)]),
  (55, [(.instanceof 0, 8)]),
  (63, [(.iinc 3 (1), 3), (.goto 2, 3)]),
  (69, [(.return_, 1)])]
def mX6_requireChances : ac_M := (yX6_requireChances, cX6_requireChances, 4, none, 6, 0, 2, (2, 12), [], bX6_requireChances, [1010, 76, 1009, 23], [])
def bX6_requireMember : List (Nat × ac_I) := [(0, [(.iload 1, 1), (.ifCond .lt 1, 3), (.iload 1, 1), (.aload 0, 1), (.getfield 192, 3), (.getfield 4, 3), (.if_icmp .lt 2, 3), (.goto 1, 0)]),
  (15, [(.instanceof 1, 8)]),
  (23, [(.return_, 1)])]
def mX6_requireMember : ac_M := (yX6_requireMember, cX6_requireMember, 2, none, 6, 0, 1, (1, 6), [], bX6_requireMember, [719, 76, 718, 14], [])
def bX6_requireWeek : List (Nat × ac_I) := [(0, [(.iload 1, 1), (.ifCond .lt 1, 3), (.iload 1, 1), (.aload 0, 1), (.getfield 192, 3), (.getfield 6, 3), (.if_icmp .lt 2, 3), (.goto 1, 0)]),
  (15, [(.instanceof 1, 8)]),
  (23, [(.return_, 1)])]
def mX6_requireWeek : ac_M := (yX6_requireWeek, cX6_requireWeek, 2, none, 6, 0, 1, (1, 6), [], bX6_requireWeek, [811, 76, 810, 17], [])
def bX6_requireRoomForWeek : List (Nat × ac_I) := [(0, [(.aload 0, 1), (.getfield 192, 3), (.getfield 6, 3), (.sipush (60), 2), (.if_icmp .lt 1, 3), (.instanceof 2, 8)]),
  (20, [(.return_, 1)])]
def mX6_requireRoomForWeek : ac_M := (yX6_requireRoomForWeek, cX6_requireRoomForWeek, 1, none, 6, 0, 0, (1, 6), [], bX6_requireRoomForWeek, [757, 76, 756, 15], [])
def bX6_requireSet : List (Nat × ac_I) := [(0, [(.iload 1, 1), (.aload 0, 1), (.getfield 192, 3), (.multianewarray 7 16, 3), (.sipush (-1), 1), (.ixor, 1), (.iand, 1), (.ifCond .eq 1, 3), (.instanceof 0, 8)]),
  (22, [(.return_, 1)])]
def mX6_requireSet : ac_M := (yX6_requireSet, cX6_requireSet, 2, none, 6, 0, 1, (1, 6), [], bX6_requireSet, [792, 76, 791, 16], [])
def bX6_requireImage : List (Nat × ac_I) := [(0, [(.iload 0, 1), (.ifCond .lt 1, 3), (.iload 0, 1), (.sipush (3), 1), (.if_icmp .lt 2, 3), (.goto 1, 0)]),
  (9, [(.instanceof 1, 8)]),
  (17, [(.return_, 1)])]
def mX6_requireImage : ac_M := (yX6_requireImage, cX6_requireImage, 1, none, 6, 1, 1, (1, 6), [], bX6_requireImage, [1209, 76, 1208], [])
def bX6_requireTray : List (Nat × ac_I) := [(0, [(.iload 0, 1), (.ifCond .lt 1, 3), (.iload 0, 1), (.sipush (4), 1), (.if_icmp .lt 2, 3), (.goto 1, 0)]),
  (9, [(.instanceof 1, 8)]),
  (17, [(.return_, 1)])]
def mX6_requireTray : ac_M := (yX6_requireTray, cX6_requireTray, 1, none, 6, 1, 1, (1, 6), [], bX6_requireTray, [849, 76, 848], [])
def bX6_laidTray : List (Nat × ac_I) := [(0, [(.iload 1, 1), (.ret 2113, 3), (.aload 0, 1), (.getfield 199, 3), (.iload 1, 1), (.aaload, 1), (.astore 2, 1), (.aload 2, 1), (.getfield 96, 3), (.ifCond .ne 1, 3), (.instanceof 2, 8)]),
  (26, [(.aload 2, 1), (.areturn, 1)])]
def mX6_laidTray : ac_M := (yX6_laidTray, cX6_laidTray, 3, (some (.object "NobodysTuesday$Tray")), 6, 0, 1, (2, 12), [], bX6_laidTray, [846, 76, 845, 18], [])
def bX6_waysThat : List (Nat × ac_I) := [(0, [(.iload 1, 1), (.ifCond .lt 1, 3), (.iload 1, 1), (.iload 0, 1), (.if_icmp .le 2, 3), (.goto 1, 0)]),
  (9, [(.ldc2_w 0, 1), (.lreturn, 1)]),
  (11, [(.iload 0, 1), (.iload 1, 1), (.invokeinterface 135 2, 3), (.iload 2, 1), (.iload 1, 1), (.invokeinterface 136 2, 3), (.lmul, 1), (.iload 3, 1), (.iload 2, 1), (.isub, 1), (.iload 0, 1), (.iload 1, 1), (.isub, 1), (.invokeinterface 136 2, 3), (.lmul, 1), (.lreturn, 1)])]
def mX6_waysThat : ac_M := (yX6_waysThat, cX6_waysThat, 4, (some .long), 6, 1, 4, (0, 0), [], bX6_waysThat, [988, 76, 987], [])
def bX6_choose : List (Nat × ac_I) := [(0, [(.ldc2_w 1, 1), (.lstore 2, 1), (.sipush (1), 1), (.istore 4, 2), (.goto 1, 0)]),
  (5, [(.iload 4, 2), (.iload 1, 1), (.if_icmp .gt 2, 3), (.lload 2, 1), (.iload 0, 1), (.iload 1, 1), (.isub, 1), (.iload 4, 2), (.iadd, 1), (.i2l, 1), (.lmul, 1), (.iload 4, 2), (.i2l, 1), (.ldiv, 1), (.lstore 2, 1), (.iinc 4 (1), 3), (.goto 1, 3)]),
  (31, [(.lload 2, 1), (.lreturn, 1)])]
def mX6_choose : ac_M := (yX6_choose, cX6_choose, 5, (some .long), 6, 1, 2, (0, 0), [], bX6_choose, [991, 76, 990], [])
def bX6_power : List (Nat × ac_I) := [(0, [(.ldc2_w 1, 1), (.lstore 2, 1), (.sipush (0), 1), (.istore 4, 2), (.goto 1, 0)]),
  (5, [(.iload 4, 2), (.iload 1, 1), (.if_icmp .ge 2, 3), (.lload 2, 1), (.iload 0, 1), (.i2l, 1), (.lmul, 1), (.lstore 2, 1), (.iinc 4 (1), 3), (.goto 1, 3)]),
  (22, [(.lload 2, 1), (.lreturn, 1)])]
def mX6_power : ac_M := (yX6_power, cX6_power, 5, (some .long), 6, 1, 2, (0, 0), [], bX6_power, [912, 76, 911], [])
def bX7_init : List (Nat × ac_I) := [(0, [(.aload 0, 1), (.monitorexit, 3), (.aload 0, 1), (.sipush (114), 2), (.newarray .int, 2), (.putfield 224, 3), (.aload 0, 1), (.sipush (114), 2), (.newarray .int, 2), (.putfield 225, 3), (.aload 0, 1), (.sipush (342), 3), (.newarray .int, 2), (.putfield 226, 3), (.aload 0, 1), (.sipush (3), 1), (.newarray .boolean, 2), (.putfield 227, 3), (.aload 0, 1), (.sipush (700), 3), (.newarray .int, 2), (.putfield 229, 3), (.aload 0, 1), (.sipush (-1), 1), (.putfield 239, 3), (.aload 0, 1), (.sipush (480), 3), (.newarray .int, 2), (.putfield 240, 3), (.aload 0, 1), (.sipush (12), 2), (.newarray .int, 2), (.putfield 243, 3), (.aload 0, 1), (.sipush (182), 3), (.newarray .int, 2), (.putfield 244, 3), (.aload 0, 1), (.sipush (8), 2), (.newarray .int, 2), (.putfield 245, 3), (.aload 0, 1), (.sipush (3), 1), (.newarray .int, 2), (.putfield 246, 3), (.aload 0, 1), (.sipush (14), 2), (.newarray .long, 2), (.putfield 247, 3), (.aload 0, 1), (.sipush (401), 3), (.newarray .int, 2), (.putfield 248, 3), (.aload 0, 1), (.sipush (4), 1), (.newarray .int, 2), (.dup, 1), (.sipush (0), 1), (.sipush (-1), 1), (.iastore, 1), (.dup, 1), (.sipush (1), 1), (.sipush (-1), 1), (.iastore, 1), (.dup, 1), (.sipush (2), 1), (.sipush (-1), 1), (.iastore, 1), (.dup, 1), (.sipush (3), 1), (.sipush (-1), 1), (.iastore, 1), (.putfield 249, 3), (.aload 0, 1), (.sipush (4), 1), (.newarray .int, 2), (.putfield 250, 3), (.aload 0, 1), (.sipush (240), 3), (.newarray .long, 2), (.putfield 251, 3), (.aload 0, 1), (.getfield 224, 3), (.invokeinterface 144 1, 3), (.return_, 1)])]
def mX7_init : ac_M := (yX7_init, cX7_init, 1, none, 7, 2, 0, (15, 2621), [], bX7_init, [1221, 83, 1220], [])
def bX7_thrown : List (Nat × ac_I) := [(0, [(.aload 0, 1), (.getfield 228, 3), (.ireturn, 1)])]
def mX7_thrown : ac_M := (yX7_thrown, cX7_thrown, 1, (some .int), 7, 0, 0, (0, 0), [], bX7_thrown, [1314, 83, 1312, 1313], [])
def bX7_fails : List (Nat × ac_I) := [(0, [(.aload 0, 1), (.iload 1, 1), (.putfield 228, 3), (.sipush (0), 1), (.ireturn, 1)])]
def mX7_fails : ac_M := (yX7_fails, cX7_fails, 2, (some .int), 7, 0, 1, (0, 0), [], bX7_fails, [1329, 83, 1328, 27], [])
def bX7_within : List (Nat × ac_I) := [(0, [(.lload 0, 1), (.lload 2, 1), (.lcmp, 1), (.ifCond .lt 1, 3), (.lload 0, 1), (.lload 4, 2), (.lcmp, 1), (.ifCond .gt 1, 3), (.sipush (1), 1), (.goto 2, 3)]),
  (17, [(.sipush (0), 1), (.goto 2, 0)]),
  (18, [(.ireturn, 1)])]
def mX7_within : ac_M := (yX7_within, cX7_within, 6, (some .boolean), 7, 1, 3, (0, 0), [], bX7_within, [1325, 83, 1324], [])
def bX7_has : List (Nat × ac_I) := [(0, [(.iload 0, 1), (.iload 1, 1), (.ishr, 1), (.sipush (1), 1), (.iand, 1), (.sipush (1), 1), (.if_icmp .ne 1, 3), (.sipush (1), 1), (.goto 2, 3)]),
  (13, [(.sipush (0), 1), (.goto 2, 0)]),
  (14, [(.ireturn, 1)])]
def mX7_has : ac_M := (yX7_has, cX7_has, 2, (some .boolean), 7, 1, 2, (0, 0), [], bX7_has, [1421, 83, 1420], [])
def bX7_size : List (Nat × ac_I) := [(0, [(.sipush (0), 1), (.istore 1, 1), (.iload 0, 1), (.istore 2, 1), (.goto 1, 0)]),
  (4, [(.iload 2, 1), (.ifCond .eq 2, 3), (.iinc 1 (1), 3), (.iload 2, 1), (.iload 2, 1), (.sipush (1), 1), (.isub, 1), (.iand, 1), (.istore 2, 1), (.goto 1, 3)]),
  (20, [(.iload 1, 1), (.ireturn, 1)])]
def mX7_size : ac_M := (yX7_size, cX7_size, 3, (some .int), 7, 1, 1, (0, 0), [], bX7_size, [1428, 83, 1427], [])
def bX7_copies : List (Nat × ac_I) := [(0, [(.sipush (0), 1), (.istore 2, 1), (.goto 1, 0)]),
  (2, [(.iload 2, 1), (.sipush (114), 2), (.if_icmp .ge 2, 3), (.aload 1, 1), (.iload 2, 1), (.aload 0, 1), (.iload 2, 1), (.iaload, 1), (.iastore, 1), (.iinc 2 (1), 3), (.goto 1, 3)]),
  (20, [(.return_, 1)])]
def mX7_copies : ac_M := (yX7_copies, cX7_copies, 3, none, 7, 1, 2, (0, 0), [], bX7_copies, [1393, 83, 1392], [])
def bX7_begins : List (Nat × ac_I) := [(0, [(.sipush (0), 1), (.istore 1, 1), (.goto 1, 0)]),
  (2, [(.iload 1, 1), (.sipush (114), 2), (.if_icmp .ge 2, 3), (.aload 0, 1), (.iload 1, 1), (.sipush (0), 1), (.iastore, 1), (.iinc 1 (1), 3), (.goto 1, 3)]),
  (18, [(.aload 0, 1), (.sipush (1), 1), (.sipush (1), 1), (.iastore, 1), (.aload 0, 1), (.sipush (2), 1), (.sipush (10), 2), (.iastore, 1), (.return_, 1)])]
def mX7_begins : ac_M := (yX7_begins, cX7_begins, 2, none, 7, 1, 1, (0, 0), [], bX7_begins, [1225, 83, 1224], [])
def bX7_feed : List (Nat × ac_I) := [(0, [(.aload 0, 1), (.sipush (0), 1), (.putfield 228, 3), (.aload 0, 1), (.getfield 230, 3), (.sipush (20), 2), (.iadd, 1), (.sipush (700), 3), (.if_icmp .le 1, 3), (.sipush (-1), 1), (.ireturn, 1)]),
  (20, [(.sipush (0), 1), (.istore 6, 2), (.goto 2, 0)]),
  (23, [(.iload 6, 2), (.sipush (20), 2), (.if_icmp .ge 8, 3), (.iload 6, 2), (.sipush (4), 1), (.if_icmp .ge 3, 3), (.iload 1, 1), (.goto 7, 3)]),
  (40, [(.iload 6, 2), (.sipush (8), 2), (.if_icmp .ge 4, 3), (.iload 2, 1), (.goto 7, 3)]),
  (51, [(.iload 6, 2), (.sipush (12), 2), (.if_icmp .ge 5, 3), (.iload 3, 1), (.goto 7, 3)]),
  (62, [(.iload 6, 2), (.sipush (16), 2), (.if_icmp .ge 6, 3), (.iload 4, 2), (.goto 7, 3)]),
  (74, [(.iload 5, 2), (.goto 7, 0)]),
  (76, [(.istore 7, 2), (.aload 0, 1), (.getfield 229, 3), (.aload 0, 1), (.getfield 230, 3), (.iload 7, 2), (.sipush (24), 2), (.sipush (8), 2), (.iload 6, 2), (.sipush (3), 1), (.iand, 1), (.imul, 1), (.isub, 1), (.iushr, 1), (.sipush (255), 3), (.iand, 1), (.iastore, 1), (.aload 0, 1), (.dup, 1), (.getfield 230, 3), (.sipush (1), 1), (.iadd, 1), (.putfield 230, 3), (.iinc 6 (1), 3), (.goto 2, 3)]),
  (120, [(.aload 0, 1), (.getfield 230, 3), (.ireturn, 1)])]
def mX7_feed : ac_M := (yX7_feed, cX7_feed, 8, (some .int), 7, 0, 5, (0, 0), [], bX7_feed, [1318, 83, 1316, 1317], [])
def bX7_see : List (Nat × ac_I) := [(0, [(.iload 1, 1), (.aload 0, 1), (.getfield 231, 3), (.if_icmp .ge 1, 3), (.aload 0, 1), (.getfield 229, 3), (.iload 1, 1), (.iaload, 1), (.goto 2, 3)]),
  (17, [(.sipush (0), 1), (.goto 2, 0)]),
  (18, [(.ireturn, 1)])]
def mX7_see : ac_M := (yX7_see, cX7_see, 2, (some .int), 7, 0, 1, (0, 0), [], bX7_see, [1340, 83, 1339, 29], [])
def bX7_isLetter : List (Nat × ac_I) := [(0, [(.iload 0, 1), (.sipush (97), 2), (.if_icmp .lt 1, 3), (.iload 0, 1), (.sipush (122), 2), (.if_icmp .gt 1, 3), (.sipush (1), 1), (.goto 2, 3)]),
  (16, [(.sipush (0), 1), (.goto 2, 0)]),
  (17, [(.ireturn, 1)])]
def mX7_isLetter : ac_M := (yX7_isLetter, cX7_isLetter, 1, (some .boolean), 7, 1, 1, (0, 0), [], bX7_isLetter, [1336, 83, 1335], [])
def ms4 : List ac_M := [mX6_bestRule, mX6_streak, mX6_tally, mX6_together, mX6_friends, mX6_doubts, mX6_cook, mX6_guess, mX6_tray, mX6_write, mX6_pour, mX6_image, mX6_restore, mX6_count, mX6_requireWithin, mX6_requireChance, mX6_requireChances, mX6_requireMember, mX6_requireWeek, mX6_requireRoomForWeek, mX6_requireSet, mX6_requireImage, mX6_requireTray, mX6_laidTray, mX6_waysThat, mX6_choose, mX6_power, mX7_init, mX7_thrown, mX7_fails, mX7_within, mX7_has, mX7_size, mX7_copies, mX7_begins, mX7_feed, mX7_see, mX7_isLetter]
def bX7_isDigit : List (Nat × ac_I) := [(0, [(.iload 0, 1), (.sipush (48), 2), (.if_icmp .lt 1, 3), (.iload 0, 1), (.sipush (57), 2), (.if_icmp .gt 1, 3), (.sipush (1), 1), (.goto 2, 3)]),
  (16, [(.sipush (0), 1), (.goto 2, 0)]),
  (17, [(.ireturn, 1)])]
def mX7_isDigit : ac_M := (yX7_isDigit, cX7_isDigit, 1, (some .boolean), 7, 1, 1, (0, 0), [], bX7_isDigit, [1343, 83, 1342], [])
def bX7_reads : List (Nat × ac_I) := [(0, [(.aload 0, 1), (.getfield 232, 3), (.aload 0, 1), (.getfield 231, 3), (.if_icmp .ge 2, 3), (.aload 0, 1), (.getfield 229, 3), (.aload 0, 1), (.getfield 232, 3), (.iaload, 1), (.sipush (32), 2), (.if_icmp .eq 1, 3), (.aload 0, 1), (.getfield 229, 3), (.aload 0, 1), (.getfield 232, 3), (.iaload, 1), (.sipush (10), 2), (.if_icmp .ne 2, 3), (.goto 1, 0)]),
  (39, [(.aload 0, 1), (.dup, 1), (.getfield 232, 3), (.sipush (1), 1), (.iadd, 1), (.putfield 232, 3), (.goto 0, 3)]),
  (52, [(.aload 0, 1), (.aload 0, 1), (.getfield 232, 3), (.putfield 233, 3), (.aload 0, 1), (.getfield 232, 3), (.aload 0, 1), (.getfield 231, 3), (.if_icmp .lt 3, 3), (.aload 0, 1), (.sipush (0), 1), (.putfield 234, 3), (.return_, 1)]),
  (77, [(.aload 0, 1), (.getfield 229, 3), (.aload 0, 1), (.getfield 232, 3), (.iaload, 1), (.istore 1, 1), (.iload 1, 1), (.invokeinterface 147 1, 3), (.ifCond .eq 6, 3), (.goto 4, 0)]),
  (94, [(.aload 0, 1), (.aload 0, 1), (.getfield 232, 3), (.multianewarray 146 39, 3), (.invokeinterface 147 1, 3), (.ifCond .eq 5, 3), (.aload 0, 1), (.dup, 1), (.getfield 232, 3), (.sipush (1), 1), (.iadd, 1), (.putfield 232, 3), (.goto 4, 3)]),
  (121, [(.aload 0, 1), (.sipush (1), 1), (.putfield 234, 3), (.goto 16, 3)]),
  (129, [(.iload 1, 1), (.invokeinterface 148 1, 3), (.ifCond .eq 13, 3), (.aload 0, 1), (.sipush (0), 1), (.putfield 235, 3), (.goto 7, 0)]),
  (141, [(.aload 0, 1), (.aload 0, 1), (.getfield 232, 3), (.multianewarray 146 39, 3), (.invokeinterface 148 1, 3), (.ifCond .eq 10, 3), (.aload 0, 1), (.aload 0, 1), (.getfield 232, 3), (.aload 0, 1), (.getfield 233, 3), (.isub, 1), (.sipush (3), 1), (.if_icmp .ge 8, 3), (.sipush (10), 2), (.aload 0, 1), (.getfield 235, 3), (.imul, 1), (.aload 0, 1), (.getfield 229, 3), (.aload 0, 1), (.getfield 232, 3), (.iaload, 1), (.iadd, 1), (.sipush (48), 2), (.isub, 1), (.goto 9, 3)]),
  (192, [(.aload 0, 1), (.getfield 235, 3), (.goto 9, 0)]),
  (196, [(.putfield 235, 3), (.aload 0, 1), (.dup, 1), (.getfield 232, 3), (.sipush (1), 1), (.iadd, 1), (.putfield 232, 3), (.goto 7, 3)]),
  (212, [(.aload 0, 1), (.aload 0, 1), (.getfield 232, 3), (.aload 0, 1), (.getfield 233, 3), (.isub, 1), (.sipush (3), 1), (.if_icmp .le 11, 3), (.sipush (4), 1), (.goto 12, 3)]),
  (230, [(.sipush (2), 1), (.goto 12, 0)]),
  (231, [(.putfield 234, 3), (.goto 16, 3)]),
  (237, [(.aload 0, 1), (.iload 1, 1), (.sipush (59), 2), (.if_icmp .ne 14, 3), (.sipush (3), 1), (.goto 15, 3)]),
  (248, [(.sipush (4), 1), (.goto 15, 0)]),
  (249, [(.putfield 234, 3), (.aload 0, 1), (.dup, 1), (.getfield 232, 3), (.sipush (1), 1), (.iadd, 1), (.putfield 232, 3), (.goto 16, 0)]),
  (262, [(.return_, 1)])]
def mX7_reads : ac_M := (yX7_reads, cX7_reads, 2, none, 7, 0, 0, (0, 0), [], bX7_reads, [1333, 83, 1332, 28], [])
def bX7_blames : List (Nat × ac_I) := [(0, [(.aload 0, 1), (.getfield 236, 3), (.ifCond .eq 1, 3), (.return_, 1)]),
  (8, [(.aload 0, 1), (.aload 0, 1), (.getfield 234, 3), (.sipush (4), 1), (.if_icmp .ne 2, 3), (.sipush (1), 1), (.goto 3, 3)]),
  (21, [(.iload 1, 1), (.goto 3, 0)]),
  (22, [(.putfield 236, 3), (.aload 0, 1), (.aload 0, 1), (.getfield 233, 3), (.putfield 237, 3), (.return_, 1)])]
def mX7_blames : ac_M := (yX7_blames, cX7_blames, 2, none, 7, 0, 1, (0, 0), [], bX7_blames, [1366, 83, 1365, 34], [])
def bX7_isWord : List (Nat × ac_I) := [(0, [(.aload 0, 1), (.getfield 236, 3), (.ifCond .ne 1, 3), (.aload 0, 1), (.getfield 234, 3), (.sipush (1), 1), (.if_icmp .ne 1, 3), (.aload 0, 1), (.getfield 232, 3), (.aload 0, 1), (.getfield 233, 3), (.isub, 1), (.aload 1, 1), (.invokedynamic 0, 3), (.if_icmp .ne 1, 3), (.sipush (1), 1), (.goto 2, 3)]),
  (35, [(.sipush (0), 1), (.goto 2, 0)]),
  (36, [(.istore 2, 1), (.sipush (0), 1), (.istore 3, 1), (.goto 3, 0)]),
  (39, [(.iload 2, 1), (.ifCond .eq 6, 3), (.iload 3, 1), (.aload 1, 1), (.invokedynamic 0, 3), (.if_icmp .ge 6, 3), (.aload 0, 1), (.getfield 229, 3), (.aload 0, 1), (.getfield 233, 3), (.iload 3, 1), (.iadd, 1), (.iaload, 1), (.aload 1, 1), (.iload 3, 1), (.invokedynamic 1, 3), (.if_icmp .ne 4, 3), (.sipush (1), 1), (.goto 5, 3)]),
  (74, [(.sipush (0), 1), (.goto 5, 0)]),
  (75, [(.istore 2, 1), (.iinc 3 (1), 3), (.goto 3, 3)]),
  (82, [(.iload 2, 1), (.ireturn, 1)])]
def mX7_isWord : ac_M := (yX7_isWord, cX7_isWord, 4, (some .boolean), 7, 0, 1, (0, 0), [], bX7_isWord, [1356, 83, 1355, 32], [])
def bX7_took : List (Nat × ac_I) := [(0, [(.aload 0, 1), (.aload 1, 1), (.multianewarray 151 39, 3), (.istore 2, 1), (.iload 2, 1), (.ifCond .eq 1, 3), (.aload 0, 1), (.multianewarray 149 23, 3), (.goto 1, 0)]),
  (14, [(.iload 2, 1), (.ireturn, 1)])]
def mX7_took : ac_M := (yX7_took, cX7_took, 3, (some .boolean), 7, 0, 1, (0, 0), [], bX7_took, [1352, 83, 1351, 31], [])
def bX7_number : List (Nat × ac_I) := [(0, [(.aload 0, 1), (.getfield 234, 3), (.sipush (2), 1), (.if_icmp .eq 1, 3), (.aload 0, 1), (.sipush (2), 1), (.multianewarray 150 39, 3), (.goto 2, 3)]),
  (16, [(.aload 0, 1), (.getfield 235, 3), (.i2l, 1), (.iload 1, 1), (.i2l, 1), (.iload 2, 1), (.i2l, 1), (.invokeinterface 140 3, 3), (.ifCond .ne 2, 3), (.aload 0, 1), (.sipush (3), 1), (.multianewarray 150 39, 3), (.goto 2, 0)]),
  (36, [(.aload 0, 1), (.getfield 235, 3), (.istore 3, 1), (.aload 0, 1), (.getfield 236, 3), (.ifCond .ne 3, 3), (.aload 0, 1), (.multianewarray 149 23, 3), (.goto 3, 0)]),
  (52, [(.aload 0, 1), (.getfield 236, 3), (.ifCond .ne 4, 3), (.iload 3, 1), (.goto 5, 3)]),
  (63, [(.iload 1, 1), (.goto 5, 0)]),
  (64, [(.ireturn, 1)])]
def mX7_number : ac_M := (yX7_number, cX7_number, 4, (some .int), 7, 0, 2, (0, 0), [], bX7_number, [1362, 83, 1361, 33], [])
def bX7_ruleTold : List (Nat × ac_I) := [(0, [(.aload 0, 1), (.ldc 1, 2), (.multianewarray 151 39, 3), (.ifCond .eq 1, 3), (.sipush (0), 1), (.ireturn, 1)]),
  (11, [(.aload 0, 1), (.ldc 2, 2), (.multianewarray 151 39, 3), (.ifCond .eq 2, 3), (.sipush (1), 1), (.ireturn, 1)]),
  (22, [(.aload 0, 1), (.ldc 3, 2), (.multianewarray 151 39, 3), (.ifCond .eq 3, 3), (.sipush (2), 1), (.ireturn, 1)]),
  (33, [(.aload 0, 1), (.ldc 4, 2), (.multianewarray 151 39, 3), (.ifCond .eq 4, 3), (.sipush (3), 1), (.ireturn, 1)]),
  (44, [(.aload 0, 1), (.ldc 5, 2), (.multianewarray 151 39, 3), (.ifCond .eq 5, 3), (.sipush (4), 1), (.ireturn, 1)]),
  (55, [(.aload 0, 1), (.ldc 6, 2), (.multianewarray 151 39, 3), (.ifCond .eq 6, 3), (.sipush (5), 1), (.ireturn, 1)]),
  (66, [(.aload 0, 1), (.ldc 7, 2), (.multianewarray 151 39, 3), (.ifCond .eq 7, 3), (.sipush (6), 2), (.ireturn, 1)]),
  (78, [(.aload 0, 1), (.ldc 8, 2), (.multianewarray 151 39, 3), (.ifCond .eq 8, 3), (.sipush (7), 2), (.ireturn, 1)]),
  (90, [(.aload 0, 1), (.ldc 9, 2), (.multianewarray 151 39, 3), (.ifCond .eq 9, 3), (.sipush (8), 2), (.ireturn, 1)]),
  (102, [(.aload 0, 1), (.ldc 10, 2), (.multianewarray 151 39, 3), (.ifCond .eq 10, 3), (.sipush (9), 2), (.ireturn, 1)]),
  (114, [(.aload 0, 1), (.ldc 11, 2), (.multianewarray 151 39, 3), (.ifCond .eq 11, 3), (.sipush (10), 2), (.goto 12, 3)]),
  (128, [(.sipush (-1), 1), (.goto 12, 0)]),
  (129, [(.ireturn, 1)])]
def mX7_ruleTold : ac_M := (yX7_ruleTold, cX7_ruleTold, 1, (some .int), 7, 0, 0, (0, 0), [], bX7_ruleTold, [1377, 83, 1376, 36], [])
def bX7_readMember : List (Nat × ac_I) := [(0, [(.aload 0, 1), (.getfield 225, 3), (.sipush (4), 1), (.iaload, 1), (.sipush (12), 2), (.if_icmp .ne 1, 3), (.aload 0, 1), (.sipush (4), 1), (.multianewarray 150 39, 3), (.goto 1, 0)]),
  (16, [(.aload 0, 1), (.getfield 236, 3), (.ifCond .eq 2, 3), (.return_, 1)]),
  (24, [(.aload 0, 1), (.multianewarray 149 23, 3), (.aload 0, 1), (.multianewarray 154 23, 3), (.istore 1, 1), (.iload 1, 1), (.sipush (-1), 1), (.if_icmp .ne 3, 3), (.aload 0, 1), (.sipush (2), 1), (.multianewarray 150 39, 3), (.goto 3, 0)]),
  (43, [(.aload 0, 1), (.getfield 236, 3), (.ifCond .eq 4, 3), (.return_, 1)]),
  (51, [(.aload 0, 1), (.multianewarray 149 23, 3), (.iload 1, 1), (.sipush (4), 1), (.if_icmp .lt 5, 3), (.iload 1, 1), (.sipush (10), 2), (.if_icmp .ne 6, 3), (.goto 5, 0)]),
  (66, [(.sipush (0), 1), (.goto 9, 3)]),
  (70, [(.iload 1, 1), (.sipush (6), 2), (.if_icmp .ne 7, 3), (.aload 0, 1), (.sipush (1), 1), (.sipush (12), 2), (.multianewarray 153 55, 3), (.goto 9, 3)]),
  (86, [(.iload 1, 1), (.sipush (9), 2), (.if_icmp .ne 8, 3), (.aload 0, 1), (.sipush (0), 1), (.sipush (6), 2), (.multianewarray 153 55, 3), (.goto 9, 3)]),
  (102, [(.aload 0, 1), (.sipush (0), 1), (.sipush (12), 2), (.multianewarray 153 55, 3), (.goto 9, 0)]),
  (109, [(.istore 2, 1), (.aload 0, 1), (.ldc 12, 2), (.multianewarray 152 39, 3), (.ifCond .eq 10, 3), (.aload 0, 1), (.sipush (0), 1), (.sipush (999), 3), (.multianewarray 153 55, 3), (.goto 11, 3)]),
  (130, [(.sipush (0), 1), (.goto 11, 0)]),
  (131, [(.istore 3, 1), (.aload 0, 1), (.ldc 13, 2), (.multianewarray 152 39, 3), (.ifCond .eq 12, 3), (.sipush (1), 1), (.goto 13, 3)]),
  (145, [(.sipush (0), 1), (.goto 13, 0)]),
  (146, [(.istore 4, 2), (.aload 0, 1), (.getfield 236, 3), (.ifCond .eq 14, 3), (.return_, 1)]),
  (156, [(.sipush (6), 2), (.sipush (4), 1), (.aload 0, 1), (.getfield 225, 3), (.sipush (4), 1), (.iaload, 1), (.imul, 1), (.iadd, 1), (.istore 5, 2), (.aload 0, 1), (.getfield 225, 3), (.iload 5, 2), (.sipush (0), 1), (.iadd, 1), (.iload 1, 1), (.iastore, 1), (.aload 0, 1), (.getfield 225, 3), (.iload 5, 2), (.sipush (1), 1), (.iadd, 1), (.iload 2, 1), (.iastore, 1), (.aload 0, 1), (.getfield 225, 3), (.iload 5, 2), (.sipush (2), 1), (.iadd, 1), (.iload 3, 1), (.iastore, 1), (.aload 0, 1), (.getfield 225, 3), (.iload 5, 2), (.sipush (3), 1), (.iadd, 1), (.iload 4, 2), (.iastore, 1), (.aload 0, 1), (.getfield 225, 3), (.sipush (4), 1), (.dup2, 1), (.iaload, 1), (.sipush (1), 1), (.iadd, 1), (.iastore, 1), (.return_, 1)])]
def mX7_readMember : ac_M := (yX7_readMember, cX7_readMember, 6, none, 7, 0, 0, (0, 0), [], bX7_readMember, [1373, 83, 1372, 35], [])
def bX7_readLine : List (Nat × ac_I) := [(0, [(.aload 0, 1), (.ldc 14, 2), (.multianewarray 152 39, 3), (.ifCond .eq 1, 3), (.aload 0, 1), (.getfield 225, 3), (.sipush (1), 1), (.aload 0, 1), (.sipush (1), 1), (.sipush (12), 2), (.multianewarray 153 55, 3), (.iastore, 1), (.goto 5, 3)]),
  (25, [(.aload 0, 1), (.ldc 15, 2), (.multianewarray 152 39, 3), (.ifCond .eq 2, 3), (.aload 0, 1), (.getfield 225, 3), (.sipush (2), 1), (.aload 0, 1), (.sipush (0), 1), (.sipush (999), 3), (.multianewarray 153 55, 3), (.iastore, 1), (.goto 5, 3)]),
  (51, [(.aload 0, 1), (.ldc 16, 2), (.multianewarray 152 39, 3), (.ifCond .eq 3, 3), (.aload 0, 1), (.getfield 225, 3), (.sipush (3), 1), (.aload 0, 1), (.sipush (0), 1), (.sipush (100), 2), (.multianewarray 153 55, 3), (.iastore, 1), (.goto 5, 3)]),
  (76, [(.aload 0, 1), (.ldc 0, 2), (.multianewarray 151 39, 3), (.ifCond .eq 4, 3), (.aload 0, 1), (.multianewarray 155 23, 3), (.goto 5, 3)]),
  (92, [(.aload 0, 1), (.sipush (2), 1), (.multianewarray 150 39, 3), (.goto 5, 0)]),
  (97, [(.aload 0, 1), (.getfield 234, 3), (.sipush (3), 1), (.if_icmp .eq 6, 3), (.aload 0, 1), (.sipush (2), 1), (.multianewarray 150 39, 3), (.goto 6, 0)]),
  (110, [(.aload 0, 1), (.getfield 236, 3), (.ifCond .ne 7, 3), (.aload 0, 1), (.multianewarray 149 23, 3), (.goto 7, 0)]),
  (121, [(.aload 0, 1), (.getfield 236, 3), (.ifCond .ne 8, 3), (.aload 0, 1), (.getfield 225, 3), (.sipush (0), 1), (.dup2, 1), (.iaload, 1), (.sipush (1), 1), (.iadd, 1), (.iastore, 1), (.goto 8, 0)]),
  (138, [(.return_, 1)])]
def mX7_readLine : ac_M := (yX7_readLine, cX7_readLine, 1, none, 7, 0, 0, (0, 0), [], bX7_readLine, [1347, 83, 1346, 30], [])
def bX7_club : List (Nat × ac_I) := [(0, [(.aload 0, 1), (.sipush (0), 1), (.putfield 228, 3), (.iload 1, 1), (.i2l, 1), (.ldc2_w 0, 1), (.aload 0, 1), (.getfield 230, 3), (.i2l, 1), (.invokeinterface 140 3, 3), (.ifCond .ne 1, 3), (.aload 0, 1), (.sipush (1), 1), (.multianewarray 139 39, 3), (.ireturn, 1)]),
  (25, [(.aload 0, 1), (.iload 1, 1), (.putfield 231, 3), (.aload 0, 1), (.sipush (0), 1), (.putfield 230, 3), (.aload 0, 1), (.sipush (0), 1), (.putfield 232, 3), (.aload 0, 1), (.sipush (0), 1), (.putfield 236, 3), (.aload 0, 1), (.getfield 225, 3), (.invokeinterface 144 1, 3), (.aload 0, 1), (.multianewarray 149 23, 3), (.goto 2, 0)]),
  (56, [(.aload 0, 1), (.getfield 236, 3), (.ifCond .ne 3, 3), (.aload 0, 1), (.getfield 234, 3), (.ifCond .eq 3, 3), (.aload 0, 1), (.multianewarray 156 23, 3), (.goto 2, 3)]),
  (77, [(.aload 0, 1), (.aload 0, 1), (.getfield 236, 3), (.putfield 238, 3), (.aload 0, 1), (.aload 0, 1), (.getfield 236, 3), (.ifCond .ne 4, 3), (.sipush (-1), 1), (.goto 5, 3)]),
  (97, [(.aload 0, 1), (.getfield 237, 3), (.goto 5, 0)]),
  (101, [(.putfield 239, 3), (.aload 0, 1), (.getfield 236, 3), (.ifCond .eq 6, 3), (.sipush (-10), 2), (.aload 0, 1), (.getfield 236, 3), (.isub, 1), (.ireturn, 1)]),
  (119, [(.aload 0, 1), (.getfield 225, 3), (.aload 0, 1), (.getfield 224, 3), (.invokeinterface 143 2, 3), (.aload 0, 1), (.getfield 224, 3), (.sipush (0), 1), (.iaload, 1), (.ireturn, 1)])]
def mX7_club : ac_M := (yX7_club, cX7_club, 2, (some .int), 7, 0, 1, (0, 0), [], bX7_club, [1322, 83, 1320, 1321], [])
def bX7_fault : List (Nat × ac_I) := [(0, [(.aload 0, 1), (.sipush (0), 1), (.putfield 228, 3), (.iload 1, 1), (.ifCond .ne 1, 3), (.aload 0, 1), (.getfield 238, 3), (.goto 3, 3)]),
  (16, [(.iload 1, 1), (.sipush (1), 1), (.if_icmp .ne 2, 3), (.aload 0, 1), (.getfield 239, 3), (.goto 3, 3)]),
  (28, [(.sipush (-1), 1), (.goto 3, 0)]),
  (29, [(.ireturn, 1)])]
def mX7_fault : ac_M := (yX7_fault, cX7_fault, 2, (some .int), 7, 0, 1, (0, 0), [], bX7_fault, [1397, 83, 1395, 1396], [])
def bX7_many : List (Nat × ac_I) := [(0, [(.aload 0, 1), (.getfield 224, 3), (.sipush (4), 1), (.iaload, 1), (.ireturn, 1)])]
def mX7_many : ac_M := (yX7_many, cX7_many, 1, (some .int), 7, 0, 0, (0, 0), [], bX7_many, [1409, 83, 1408, 38], [])
def bX7_all : List (Nat × ac_I) := [(0, [(.sipush (1), 1), (.aload 0, 1), (.multianewarray 159 23, 3), (.ishl, 1), (.sipush (1), 1), (.isub, 1), (.ireturn, 1)])]
def mX7_all : ac_M := (yX7_all, cX7_all, 1, (some .int), 7, 0, 0, (0, 0), [], bX7_all, [1486, 83, 1485, 52], [])
def bX7_isMember : List (Nat × ac_I) := [(0, [(.iload 1, 1), (.i2l, 1), (.ldc2_w 0, 1), (.aload 0, 1), (.multianewarray 159 23, 3), (.sipush (1), 1), (.isub, 1), (.i2l, 1), (.invokeinterface 140 3, 3), (.ireturn, 1)])]
def mX7_isMember : ac_M := (yX7_isMember, cX7_isMember, 2, (some .boolean), 7, 0, 1, (0, 0), [], bX7_isMember, [1405, 83, 1404, 37], [])
def bX7_isSet : List (Nat × ac_I) := [(0, [(.iload 1, 1), (.i2l, 1), (.ldc2_w 0, 1), (.aload 0, 1), (.multianewarray 160 23, 3), (.i2l, 1), (.invokeinterface 140 3, 3), (.ireturn, 1)])]
def mX7_isSet : ac_M := (yX7_isSet, cX7_isSet, 2, (some .boolean), 7, 0, 1, (0, 0), [], bX7_isSet, [1482, 83, 1481, 51], [])
def bX7_of : List (Nat × ac_I) := [(0, [(.aload 0, 1), (.getfield 224, 3), (.sipush (6), 2), (.sipush (4), 1), (.iload 1, 1), (.imul, 1), (.iadd, 1), (.iload 2, 1), (.iadd, 1), (.iaload, 1), (.ireturn, 1)])]
def mX7_of : ac_M := (yX7_of, cX7_of, 3, (some .int), 7, 0, 2, (0, 0), [], bX7_of, [1414, 83, 1413, 39], [])
def bX7_meets : List (Nat × ac_I) := [(0, [(.iload 1, 1), (.invokeinterface 142 1, 3), (.aload 0, 1), (.getfield 224, 3), (.sipush (1), 1), (.iaload, 1), (.if_icmp .ne 1, 3), (.sipush (1), 1), (.goto 2, 3)]),
  (17, [(.sipush (0), 1), (.goto 2, 0)]),
  (18, [(.ireturn, 1)])]
def mX7_meets : ac_M := (yX7_meets, cX7_meets, 2, (some .boolean), 7, 0, 1, (0, 0), [], bX7_meets, [1425, 83, 1424, 41], [])
def bX7_payOf : List (Nat × ac_I) := [(0, [(.iload 1, 1), (.iload 2, 1), (.invokeinterface 141 2, 3), (.ifCond .eq 3, 3), (.aload 0, 1), (.iload 1, 1), (.multianewarray 164 39, 3), (.ifCond .eq 1, 3), (.aload 0, 1), (.getfield 224, 3), (.sipush (2), 1), (.iaload, 1), (.goto 2, 3)]),
  (25, [(.sipush (0), 1), (.goto 2, 0)]),
  (26, [(.aload 0, 1), (.iload 2, 1), (.sipush (2), 1), (.multianewarray 163 55, 3), (.isub, 1), (.goto 4, 3)]),
  (36, [(.sipush (0), 1), (.goto 4, 0)]),
  (37, [(.ireturn, 1)])]
def mX7_payOf : ac_M := (yX7_payOf, cX7_payOf, 3, (some .int), 7, 0, 2, (0, 0), [], bX7_payOf, [1418, 83, 1417, 40], [])
def bX7_member : List (Nat × ac_I) := [(0, [(.aload 0, 1), (.sipush (0), 1), (.putfield 228, 3), (.aload 0, 1), (.iload 1, 1), (.multianewarray 161 39, 3), (.ifCond .ne 1, 3), (.aload 0, 1), (.sipush (1), 1), (.multianewarray 139 39, 3), (.ireturn, 1)]),
  (19, [(.iload 2, 1), (.i2l, 1), (.ldc2_w 0, 1), (.ldc2_w 6, 3), (.invokeinterface 140 3, 3), (.ifCond .ne 2, 3), (.aload 0, 1), (.sipush (2), 1), (.multianewarray 139 39, 3), (.ireturn, 1)]),
  (37, [(.iload 2, 1), (.sipush (4), 1), (.if_icmp .ge 3, 3), (.aload 0, 1), (.iload 1, 1), (.iload 2, 1), (.multianewarray 163 55, 3), (.ireturn, 1)]),
  (49, [(.sipush (0), 1), (.istore 3, 1), (.sipush (0), 1), (.istore 4, 2), (.goto 4, 0)]),
  (54, [(.iload 4, 2), (.aload 0, 1), (.getfield 224, 3), (.sipush (5), 1), (.iaload, 1), (.if_icmp .ge 9, 3), (.aload 0, 1), (.getfield 224, 3), (.sipush (54), 2), (.iload 4, 2), (.iadd, 1), (.iaload, 1), (.istore 5, 2), (.iload 3, 1), (.iload 2, 1), (.sipush (6), 2), (.if_icmp .ne 5, 3), (.aload 0, 1), (.iload 5, 2), (.iload 1, 1), (.multianewarray 165 55, 3), (.goto 8, 3)]),
  (94, [(.iload 5, 2), (.iload 1, 1), (.invokeinterface 141 2, 3), (.ifCond .eq 7, 3), (.iload 2, 1), (.sipush (4), 1), (.if_icmp .eq 6, 3), (.aload 0, 1), (.iload 5, 2), (.multianewarray 164 39, 3), (.ifCond .eq 7, 3), (.goto 6, 0)]),
  (117, [(.sipush (1), 1), (.goto 8, 3)]),
  (121, [(.sipush (0), 1), (.goto 8, 0)]),
  (122, [(.iadd, 1), (.istore 3, 1), (.iinc 4 (1), 3), (.goto 4, 3)]),
  (130, [(.iload 3, 1), (.ireturn, 1)])]
def mX7_member : ac_M := (yX7_member, cX7_member, 6, (some .int), 7, 0, 2, (0, 0), [], bX7_member, [1401, 83, 1399, 1400], [])
def bX7_quota : List (Nat × ac_I) := [(0, [(.aload 0, 1), (.sipush (0), 1), (.putfield 228, 3), (.iload 1, 1), (.i2l, 1), (.ldc2_w 1, 1), (.ldc2_w 12, 3), (.invokeinterface 140 3, 3), (.ifCond .ne 1, 3), (.aload 0, 1), (.sipush (1), 1), (.multianewarray 139 39, 3), (.ireturn, 1)]),
  (23, [(.aload 0, 1), (.getfield 224, 3), (.sipush (1), 1), (.iaload, 1), (.istore 2, 1), (.aload 0, 1), (.getfield 224, 3), (.sipush (1), 1), (.iload 1, 1), (.iastore, 1), (.iload 2, 1), (.ireturn, 1)])]
def mX7_quota : ac_M := (yX7_quota, cX7_quota, 3, (some .int), 7, 0, 1, (0, 0), [], bX7_quota, [1432, 83, 1430, 1431], [])
def bX7_lays : List (Nat × ac_I) := [(0, [(.aload 0, 1), (.aload 0, 1), (.getfield 224, 3), (.sipush (5), 1), (.iaload, 1), (.putfield 241, 3), (.sipush (0), 1), (.istore 1, 1), (.goto 1, 0)]),
  (12, [(.iload 1, 1), (.aload 0, 1), (.getfield 241, 3), (.if_icmp .ge 2, 3), (.aload 0, 1), (.getfield 240, 3), (.iload 1, 1), (.aload 0, 1), (.getfield 224, 3), (.sipush (54), 2), (.iload 1, 1), (.iadd, 1), (.iaload, 1), (.iastore, 1), (.iinc 1 (1), 3), (.goto 1, 3)]),
  (41, [(.return_, 1)])]
def mX7_lays : ac_M := (yX7_lays, cX7_lays, 2, none, 7, 0, 0, (0, 0), [], bX7_lays, [1441, 83, 1440, 42], [])
def bX7_goesOn : List (Nat × ac_I) := [(0, [(.aload 0, 1), (.aload 0, 1), (.getfield 241, 3), (.ifCond .ne 1, 3), (.sipush (0), 1), (.goto 2, 3)]),
  (12, [(.aload 0, 1), (.getfield 240, 3), (.aload 0, 1), (.getfield 241, 3), (.sipush (1), 1), (.isub, 1), (.iaload, 1), (.goto 2, 0)]),
  (23, [(.aload 0, 1), (.getfield 241, 3), (.sipush (0), 1), (.multianewarray 176 71, 3), (.istore 1, 1), (.aload 0, 1), (.getfield 240, 3), (.aload 0, 1), (.getfield 241, 3), (.iload 1, 1), (.iastore, 1), (.aload 0, 1), (.dup, 1), (.getfield 241, 3), (.sipush (1), 1), (.iadd, 1), (.putfield 241, 3), (.iload 1, 1), (.ireturn, 1)])]
def mX7_goesOn : ac_M := (yX7_goesOn, cX7_goesOn, 2, (some .int), 7, 0, 0, (0, 0), [], bX7_goesOn, [1510, 83, 1509, 54], [])
def ms5 : List ac_M := [mX7_isDigit, mX7_reads, mX7_blames, mX7_isWord, mX7_took, mX7_number, mX7_ruleTold, mX7_readMember, mX7_readLine, mX7_club, mX7_fault, mX7_many, mX7_all, mX7_isMember, mX7_isSet, mX7_of, mX7_meets, mX7_payOf, mX7_member, mX7_quota, mX7_lays, mX7_goesOn]
def bX7_learns : List (Nat × ac_I) := [(0, [(.sipush (0), 1), (.istore 2, 1), (.sipush (0), 1), (.istore 3, 1), (.goto 1, 0)]),
  (4, [(.iload 3, 1), (.aload 0, 1), (.getfield 241, 3), (.if_icmp .ge 2, 3), (.iload 2, 1), (.aload 0, 1), (.aload 0, 1), (.getfield 240, 3), (.iload 3, 1), (.iaload, 1), (.sipush (1), 1), (.iload 1, 1), (.ishl, 1), (.ior, 1), (.iload 1, 1), (.multianewarray 165 55, 3), (.iadd, 1), (.istore 2, 1), (.iinc 3 (1), 3), (.goto 1, 3)]),
  (36, [(.iload 2, 1), (.ifCond .le 3, 3), (.sipush (1), 1), (.goto 4, 3)]),
  (44, [(.sipush (0), 1), (.goto 4, 0)]),
  (45, [(.ireturn, 1)])]
def mX7_learns : ac_M := (yX7_learns, cX7_learns, 4, (some .boolean), 7, 0, 1, (0, 0), [], bX7_learns, [1470, 83, 1469, 49], [])
def bX7_last : List (Nat × ac_I) := [(0, [(.aload 0, 1), (.getfield 224, 3), (.sipush (5), 1), (.iaload, 1), (.ifCond .ne 1, 3), (.sipush (0), 1), (.goto 2, 3)]),
  (13, [(.aload 0, 1), (.getfield 224, 3), (.sipush (54), 2), (.aload 0, 1), (.getfield 224, 3), (.sipush (5), 1), (.iaload, 1), (.iadd, 1), (.sipush (1), 1), (.isub, 1), (.iaload, 1), (.goto 2, 0)]),
  (29, [(.ireturn, 1)])]
def mX7_last : ac_M := (yX7_last, cX7_last, 1, (some .int), 7, 0, 0, (0, 0), [], bX7_last, [1445, 83, 1444, 43], [])
def bX7_thoughts : List (Nat × ac_I) := [(0, [(.iload 1, 1), (.istore 3, 1), (.sipush (0), 1), (.istore 4, 2), (.goto 1, 0)]),
  (5, [(.iload 4, 2), (.iload 2, 1), (.if_icmp .ge 6, 3), (.sipush (0), 1), (.istore 5, 2), (.sipush (0), 1), (.istore 6, 2), (.goto 2, 0)]),
  (17, [(.iload 6, 2), (.aload 0, 1), (.multianewarray 159 23, 3), (.if_icmp .ge 5, 3), (.iload 5, 2), (.iload 3, 1), (.sipush (1), 1), (.iload 6, 2), (.ishl, 1), (.sipush (-1), 1), (.ixor, 1), (.iand, 1), (.invokeinterface 142 1, 3), (.sipush (1), 1), (.iadd, 1), (.aload 0, 1), (.getfield 224, 3), (.sipush (1), 1), (.iaload, 1), (.if_icmp .ne 3, 3), (.aload 0, 1), (.getfield 224, 3), (.sipush (2), 1), (.iaload, 1), (.aload 0, 1), (.iload 6, 2), (.sipush (2), 1), (.multianewarray 163 55, 3), (.if_icmp .le 3, 3), (.sipush (1), 1), (.iload 6, 2), (.ishl, 1), (.goto 4, 3)]),
  (73, [(.sipush (0), 1), (.goto 4, 0)]),
  (74, [(.ior, 1), (.istore 5, 2), (.iinc 6 (1), 3), (.goto 2, 3)]),
  (83, [(.iload 5, 2), (.istore 3, 1), (.iinc 4 (1), 3), (.goto 1, 3)]),
  (92, [(.iload 3, 1), (.ireturn, 1)])]
def mX7_thoughts : ac_M := (yX7_thoughts, cX7_thoughts, 7, (some .int), 7, 0, 2, (0, 0), [], bX7_thoughts, [1466, 83, 1465, 48], [])
def bX7_draw : List (Nat × ac_I) := [(0, [(.aload 0, 1), (.sipush (1103515245), 2), (.aload 0, 1), (.getfield 242, 3), (.imul, 1), (.sipush (12345), 3), (.iadd, 1), (.putfield 242, 3), (.aload 0, 1), (.getfield 242, 3), (.sipush (16), 2), (.iushr, 1), (.iload 1, 1), (.irem, 1), (.ireturn, 1)])]
def mX7_draw : ac_M := (yX7_draw, cX7_draw, 2, (some .int), 7, 0, 1, (0, 0), [], bX7_draw, [1461, 83, 1460, 47], [])
def bX7_seen : List (Nat × ac_I) := [(0, [(.sipush (0), 1), (.istore 4, 2), (.sipush (0), 1), (.istore 5, 2), (.goto 1, 0)]),
  (6, [(.iload 5, 2), (.iload 1, 1), (.if_icmp .ge 7, 3), (.iload 2, 1), (.iload 5, 2), (.invokeinterface 141 2, 3), (.ifCond .ne 2, 3), (.aload 0, 1), (.iload 5, 2), (.sipush (3), 1), (.multianewarray 163 55, 3), (.sipush (1), 1), (.if_icmp .ne 3, 3), (.goto 2, 0)]),
  (32, [(.sipush (1), 1), (.goto 4, 3)]),
  (36, [(.sipush (0), 1), (.goto 4, 0)]),
  (37, [(.istore 6, 2), (.iload 6, 2), (.ifCond .eq 6, 3), (.iload 3, 1), (.ifCond .eq 5, 3), (.aload 0, 1), (.sipush (100), 2), (.multianewarray 173 39, 3), (.aload 0, 1), (.getfield 224, 3), (.sipush (3), 1), (.iaload, 1), (.if_icmp .lt 6, 3), (.goto 5, 0)]),
  (63, [(.iinc 4 (1), 3), (.goto 6, 0)]),
  (66, [(.iinc 5 (1), 3), (.goto 1, 3)]),
  (72, [(.iload 4, 2), (.ireturn, 1)])]
def mX7_seen : ac_M := (yX7_seen, cX7_seen, 7, (some .int), 7, 0, 3, (0, 0), [], bX7_seen, [1457, 83, 1456, 46], [])
def bX7_comes : List (Nat × ac_I) := [(0, [(.aload 0, 1), (.iload 1, 1), (.sipush (1), 1), (.multianewarray 163 55, 3), (.istore 6, 2), (.aload 0, 1), (.iload 1, 1), (.sipush (0), 1), (.multianewarray 163 55, 3), (.tableswitch 23 0 9 #[1, 2, 3, 4, 7, 10, 13, 16, 19, 22], 54)]),
  (68, [(.sipush (1), 1), (.ireturn, 1)]),
  (70, [(.sipush (0), 1), (.ireturn, 1)]),
  (72, [(.iload 3, 1), (.iload 1, 1), (.invokeinterface 141 2, 3), (.ireturn, 1)]),
  (78, [(.iload 3, 1), (.iload 1, 1), (.invokeinterface 141 2, 3), (.ifCond .ne 5, 3), (.sipush (1), 1), (.goto 6, 3)]),
  (90, [(.sipush (0), 1), (.goto 6, 0)]),
  (91, [(.ireturn, 1)]),
  (92, [(.iload 3, 1), (.invokeinterface 142 1, 3), (.iload 6, 2), (.if_icmp .ge 8, 3), (.sipush (1), 1), (.goto 9, 3)]),
  (105, [(.sipush (0), 1), (.goto 9, 0)]),
  (106, [(.ireturn, 1)]),
  (107, [(.iload 3, 1), (.invokeinterface 142 1, 3), (.iload 6, 2), (.if_icmp .le 11, 3), (.sipush (1), 1), (.goto 12, 3)]),
  (120, [(.sipush (0), 1), (.goto 12, 0)]),
  (121, [(.ireturn, 1)]),
  (122, [(.iload 4, 2), (.iload 6, 2), (.irem, 1), (.ifCond .ne 14, 3), (.sipush (1), 1), (.goto 15, 3)]),
  (134, [(.sipush (0), 1), (.goto 15, 0)]),
  (135, [(.ireturn, 1)]),
  (136, [(.aload 0, 1), (.iload 1, 1), (.iload 2, 1), (.iload 5, 2), (.multianewarray 174 71, 3), (.iload 6, 2), (.if_icmp .ge 17, 3), (.sipush (1), 1), (.goto 18, 3)]),
  (153, [(.sipush (0), 1), (.goto 18, 0)]),
  (154, [(.ireturn, 1)]),
  (155, [(.aload 0, 1), (.iload 1, 1), (.iload 2, 1), (.iload 5, 2), (.multianewarray 174 71, 3), (.iload 6, 2), (.if_icmp .ne 20, 3), (.sipush (1), 1), (.goto 21, 3)]),
  (172, [(.sipush (0), 1), (.goto 21, 0)]),
  (173, [(.ireturn, 1)]),
  (174, [(.aload 0, 1), (.iload 3, 1), (.iload 6, 2), (.multianewarray 172 55, 3), (.iload 1, 1), (.invokeinterface 141 2, 3), (.ireturn, 1)]),
  (186, [(.aload 0, 1), (.iload 1, 1), (.multianewarray 170 39, 3), (.ireturn, 1)])]
def mX7_comes : ac_M := (yX7_comes, cX7_comes, 7, (some .boolean), 7, 0, 5, (0, 0), [], bX7_comes, [1453, 83, 1452, 45], [])
def bX7_goes : List (Nat × ac_I) := [(0, [(.sipush (0), 1), (.istore 4, 2), (.sipush (0), 1), (.istore 5, 2), (.goto 1, 0)]),
  (6, [(.iload 5, 2), (.aload 0, 1), (.multianewarray 159 23, 3), (.if_icmp .ge 4, 3), (.iload 4, 2), (.aload 0, 1), (.iload 5, 2), (.iload 4, 2), (.iload 1, 1), (.iload 2, 1), (.iload 3, 1), (.multianewarray 175 103, 3), (.ifCond .eq 2, 3), (.sipush (1), 1), (.iload 5, 2), (.ishl, 1), (.goto 3, 3)]),
  (38, [(.sipush (0), 1), (.goto 3, 0)]),
  (39, [(.ior, 1), (.istore 4, 2), (.iinc 5 (1), 3), (.goto 1, 3)]),
  (48, [(.iload 4, 2), (.ireturn, 1)])]
def mX7_goes : ac_M := (yX7_goes, cX7_goes, 6, (some .int), 7, 0, 3, (0, 0), [], bX7_goes, [1449, 83, 1448, 44], [])
def bX7_goesBy : List (Nat × ac_I) := [(0, [(.aload 0, 1), (.getfield 224, 3), (.sipush (54), 2), (.aload 0, 1), (.getfield 224, 3), (.sipush (5), 1), (.iaload, 1), (.iadd, 1), (.iload 1, 1), (.iastore, 1), (.aload 0, 1), (.getfield 224, 3), (.sipush (5), 1), (.dup2, 1), (.iaload, 1), (.sipush (1), 1), (.iadd, 1), (.iastore, 1), (.return_, 1)])]
def mX7_goesBy : ac_M := (yX7_goesBy, cX7_goesBy, 2, none, 7, 0, 1, (0, 0), [], bX7_goesBy, [1474, 83, 1473, 50], [])
def bX7_week : List (Nat × ac_I) := [(0, [(.aload 0, 1), (.aload 0, 1), (.getfield 224, 3), (.sipush (5), 1), (.iaload, 1), (.sipush (60), 2), (.if_icmp .ge 1, 3), (.sipush (0), 1), (.goto 2, 3)]),
  (16, [(.sipush (1), 1), (.goto 2, 0)]),
  (17, [(.putfield 228, 3), (.aload 0, 1), (.getfield 228, 3), (.ifCond .le 3, 3), (.sipush (0), 1), (.ireturn, 1)]),
  (29, [(.aload 0, 1), (.iload 1, 1), (.putfield 242, 3), (.aload 0, 1), (.multianewarray 168 23, 3), (.aload 0, 1), (.aload 0, 1), (.multianewarray 171 23, 3), (.aload 0, 1), (.getfield 224, 3), (.sipush (5), 1), (.iaload, 1), (.sipush (1), 1), (.multianewarray 176 71, 3), (.istore 2, 1), (.aload 0, 1), (.iload 2, 1), (.multianewarray 177 39, 3), (.iload 2, 1), (.ireturn, 1)])]
def mX7_week : ac_M := (yX7_week, cX7_week, 3, (some .int), 7, 0, 1, (0, 0), [], bX7_week, [1437, 83, 1435, 1436], [])
def bX7_told : List (Nat × ac_I) := [(0, [(.aload 0, 1), (.aload 0, 1), (.getfield 224, 3), (.sipush (5), 1), (.iaload, 1), (.sipush (60), 2), (.if_icmp .ne 1, 3), (.sipush (1), 1), (.goto 3, 3)]),
  (16, [(.aload 0, 1), (.iload 1, 1), (.multianewarray 162 39, 3), (.ifCond .eq 2, 3), (.sipush (0), 1), (.goto 3, 3)]),
  (28, [(.sipush (2), 1), (.goto 3, 0)]),
  (29, [(.putfield 228, 3), (.aload 0, 1), (.getfield 228, 3), (.ifCond .le 4, 3), (.sipush (0), 1), (.ireturn, 1)]),
  (41, [(.aload 0, 1), (.iload 1, 1), (.multianewarray 177 39, 3), (.aload 0, 1), (.iload 1, 1), (.multianewarray 164 39, 3), (.ireturn, 1)])]
def mX7_told : ac_M := (yX7_told, cX7_told, 2, (some .boolean), 7, 0, 1, (0, 0), [], bX7_told, [1478, 83, 1476, 1477], [])
def bX7_back : List (Nat × ac_I) := [(0, [(.aload 0, 1), (.sipush (0), 1), (.putfield 228, 3), (.iload 1, 1), (.i2l, 1), (.ldc2_w 0, 1), (.aload 0, 1), (.getfield 224, 3), (.sipush (5), 1), (.iaload, 1), (.i2l, 1), (.invokeinterface 140 3, 3), (.ifCond .ne 1, 3), (.aload 0, 1), (.sipush (1), 1), (.multianewarray 139 39, 3), (.ireturn, 1)]),
  (27, [(.sipush (0), 1), (.istore 2, 1), (.goto 2, 0)]),
  (29, [(.iload 2, 1), (.iload 1, 1), (.if_icmp .ge 3, 3), (.aload 0, 1), (.getfield 224, 3), (.sipush (5), 1), (.dup2, 1), (.iaload, 1), (.sipush (1), 1), (.isub, 1), (.iastore, 1), (.aload 0, 1), (.getfield 224, 3), (.sipush (54), 2), (.aload 0, 1), (.getfield 224, 3), (.sipush (5), 1), (.iaload, 1), (.iadd, 1), (.sipush (0), 1), (.iastore, 1), (.iinc 2 (1), 3), (.goto 2, 3)]),
  (65, [(.aload 0, 1), (.getfield 224, 3), (.sipush (5), 1), (.iaload, 1), (.ireturn, 1)])]
def mX7_back : ac_M := (yX7_back, cX7_back, 3, (some .int), 7, 0, 1, (0, 0), [], bX7_back, [1490, 83, 1488, 1489], [])
def bX7_isWeek : List (Nat × ac_I) := [(0, [(.iload 1, 1), (.i2l, 1), (.ldc2_w 0, 1), (.aload 0, 1), (.getfield 224, 3), (.sipush (5), 1), (.iaload, 1), (.sipush (1), 1), (.isub, 1), (.i2l, 1), (.invokeinterface 140 3, 3), (.ireturn, 1)])]
def mX7_isWeek : ac_M := (yX7_isWeek, cX7_isWeek, 2, (some .boolean), 7, 0, 1, (0, 0), [], bX7_isWeek, [1498, 83, 1497, 53], [])
def bX7_came : List (Nat × ac_I) := [(0, [(.aload 0, 1), (.sipush (0), 1), (.putfield 228, 3), (.aload 0, 1), (.iload 1, 1), (.multianewarray 181 39, 3), (.ifCond .eq 1, 3), (.aload 0, 1), (.getfield 224, 3), (.sipush (54), 2), (.iload 1, 1), (.iadd, 1), (.iaload, 1), (.goto 2, 3)]),
  (25, [(.aload 0, 1), (.sipush (1), 1), (.multianewarray 139 39, 3), (.goto 2, 0)]),
  (30, [(.ireturn, 1)])]
def mX7_came : ac_M := (yX7_came, cX7_came, 2, (some .int), 7, 0, 1, (0, 0), [], bX7_came, [1494, 83, 1492, 1493], [])
def bX7_met : List (Nat × ac_I) := [(0, [(.aload 0, 1), (.aload 0, 1), (.iload 1, 1), (.multianewarray 181 39, 3), (.ifCond .eq 1, 3), (.sipush (0), 1), (.goto 2, 3)]),
  (13, [(.sipush (1), 1), (.goto 2, 0)]),
  (14, [(.putfield 228, 3), (.aload 0, 1), (.getfield 228, 3), (.ifCond .ne 3, 3), (.aload 0, 1), (.aload 0, 1), (.getfield 224, 3), (.sipush (54), 2), (.iload 1, 1), (.iadd, 1), (.iaload, 1), (.multianewarray 164 39, 3), (.ifCond .eq 3, 3), (.sipush (1), 1), (.goto 4, 3)]),
  (44, [(.sipush (0), 1), (.goto 4, 0)]),
  (45, [(.ireturn, 1)])]
def mX7_met : ac_M := (yX7_met, cX7_met, 2, (some .boolean), 7, 0, 1, (0, 0), [], bX7_met, [1502, 83, 1500, 1501], [])
def bX7_next : List (Nat × ac_I) := [(0, [(.aload 0, 1), (.sipush (0), 1), (.putfield 228, 3), (.aload 0, 1), (.multianewarray 168 23, 3), (.aload 0, 1), (.multianewarray 169 23, 3), (.ireturn, 1)])]
def mX7_next : ac_M := (yX7_next, cX7_next, 1, (some .int), 7, 0, 0, (0, 0), [], bX7_next, [1506, 83, 1504, 1505], [])
def bX7_hats : List (Nat × ac_I) := [(0, [(.aload 0, 1), (.sipush (0), 1), (.putfield 228, 3), (.aload 0, 1), (.multianewarray 168 23, 3), (.aload 0, 1), (.iload 1, 1), (.multianewarray 161 39, 3), (.ifCond .eq 1, 3), (.aload 0, 1), (.iload 1, 1), (.aload 0, 1), (.multianewarray 169 23, 3), (.sipush (0), 1), (.multianewarray 174 71, 3), (.goto 2, 3)]),
  (30, [(.aload 0, 1), (.sipush (1), 1), (.multianewarray 139 39, 3), (.goto 2, 0)]),
  (35, [(.ireturn, 1)])]
def mX7_hats : ac_M := (yX7_hats, cX7_hats, 2, (some .int), 7, 0, 1, (0, 0), [], bX7_hats, [1514, 83, 1512, 1513], [])
def bX7_thought : List (Nat × ac_I) := [(0, [(.aload 0, 1), (.aload 0, 1), (.iload 1, 1), (.multianewarray 161 39, 3), (.ifCond .ne 1, 3), (.sipush (1), 1), (.goto 3, 3)]),
  (13, [(.iload 2, 1), (.i2l, 1), (.ldc2_w 0, 1), (.ldc2_w 6, 3), (.invokeinterface 140 3, 3), (.ifCond .eq 2, 3), (.sipush (0), 1), (.goto 3, 3)]),
  (29, [(.sipush (2), 1), (.goto 3, 0)]),
  (30, [(.putfield 228, 3), (.aload 0, 1), (.getfield 228, 3), (.ifCond .ne 4, 3), (.aload 0, 1), (.aload 0, 1), (.multianewarray 171 23, 3), (.iload 2, 1), (.multianewarray 172 55, 3), (.iload 1, 1), (.invokeinterface 141 2, 3), (.ifCond .eq 4, 3), (.sipush (1), 1), (.goto 5, 3)]),
  (60, [(.sipush (0), 1), (.goto 5, 0)]),
  (61, [(.ireturn, 1)])]
def mX7_thought : ac_M := (yX7_thought, cX7_thought, 3, (some .boolean), 7, 0, 2, (0, 0), [], bX7_thought, [1518, 83, 1516, 1517], [])
def bX7_settled : List (Nat × ac_I) := [(0, [(.aload 0, 1), (.sipush (0), 1), (.putfield 228, 3), (.sipush (6), 2), (.istore 1, 1), (.goto 1, 0)]),
  (8, [(.iload 1, 1), (.ifCond .le 2, 3), (.aload 0, 1), (.aload 0, 1), (.multianewarray 171 23, 3), (.iload 1, 1), (.sipush (1), 1), (.isub, 1), (.multianewarray 172 55, 3), (.aload 0, 1), (.aload 0, 1), (.multianewarray 171 23, 3), (.sipush (6), 2), (.multianewarray 172 55, 3), (.if_icmp .ne 2, 3), (.iinc 1 (-1), 3), (.goto 1, 3)]),
  (42, [(.iload 1, 1), (.sipush (6), 2), (.if_icmp .ne 3, 3), (.sipush (-1), 1), (.goto 4, 3)]),
  (52, [(.iload 1, 1), (.goto 4, 0)]),
  (53, [(.ireturn, 1)])]
def mX7_settled : ac_M := (yX7_settled, cX7_settled, 2, (some .int), 7, 0, 0, (0, 0), [], bX7_settled, [1522, 83, 1520, 1521], [])
def bX7_trayFault : List (Nat × ac_I) := [(0, [(.iload 1, 1), (.invokeinterface 241 1, 3), (.ifCond .ne 1, 3), (.sipush (1), 1), (.goto 3, 3)]),
  (11, [(.aload 0, 1), (.getfield 249, 3), (.iload 1, 1), (.iaload, 1), (.sipush (-1), 1), (.if_icmp .ne 2, 3), (.sipush (2), 1), (.goto 3, 3)]),
  (25, [(.sipush (0), 1), (.goto 3, 0)]),
  (26, [(.ireturn, 1)])]
def mX7_trayFault : ac_M := (yX7_trayFault, cX7_trayFault, 2, (some .int), 7, 0, 1, (0, 0), [], bX7_trayFault, [1530, 83, 1529, 55], [])
def bX7_judge : List (Nat × ac_I) := [(0, [(.aload 0, 1), (.aload 0, 1), (.iload 1, 1), (.multianewarray 188 39, 3), (.putfield 228, 3), (.aload 0, 1), (.getfield 228, 3), (.ifCond .ne 1, 3), (.iload 2, 1), (.i2l, 1), (.ldc2_w 0, 1), (.ldc2_w 1, 1), (.invokeinterface 140 3, 3), (.ifCond .ne 1, 3), (.aload 0, 1), (.sipush (3), 1), (.putfield 228, 3), (.goto 1, 0)]),
  (31, [(.aload 0, 1), (.getfield 228, 3), (.ifCond .le 2, 3), (.sipush (0), 1), (.ireturn, 1)]),
  (40, [(.aload 0, 1), (.multianewarray 168 23, 3), (.sipush (0), 1), (.istore 3, 1), (.goto 3, 0)]),
  (46, [(.iload 3, 1), (.aload 0, 1), (.getfield 250, 3), (.iload 1, 1), (.iaload, 1), (.if_icmp .ge 7, 3), (.aload 0, 1), (.multianewarray 169 23, 3), (.istore 4, 2), (.aload 0, 1), (.getfield 251, 3), (.sipush (60), 2), (.iload 1, 1), (.imul, 1), (.iload 3, 1), (.iadd, 1), (.laload, 1), (.iload 4, 2), (.i2l, 1), (.lcmp, 1), (.ifCond .eq 6, 3), (.iload 2, 1), (.ifCond .ne 4, 3), (.iload 3, 1), (.goto 5, 3)]),
  (88, [(.iload 4, 2), (.goto 5, 0)]),
  (90, [(.ireturn, 1)]),
  (91, [(.iinc 3 (1), 3), (.goto 3, 3)]),
  (97, [(.sipush (-1), 1), (.ireturn, 1)])]
def mX7_judge : ac_M := (yX7_judge, cX7_judge, 5, (some .int), 7, 0, 2, (0, 0), [], bX7_judge, [1526, 83, 1524, 1525], [])
def bX7_gainOf : List (Nat × ac_I) := [(0, [(.aload 0, 1), (.iload 1, 1), (.sipush (1), 1), (.iload 2, 1), (.ishl, 1), (.ixor, 1), (.iload 2, 1), (.multianewarray 165 55, 3), (.aload 0, 1), (.iload 1, 1), (.iload 2, 1), (.multianewarray 165 55, 3), (.isub, 1), (.ireturn, 1)])]
def mX7_gainOf : ac_M := (yX7_gainOf, cX7_gainOf, 3, (some .int), 7, 0, 2, (0, 0), [], bX7_gainOf, [1542, 83, 1541, 56], [])
def bX7_firstToGain : List (Nat × ac_I) := [(0, [(.sipush (0), 1), (.istore 2, 1), (.goto 1, 0)]),
  (2, [(.iload 2, 1), (.aload 0, 1), (.multianewarray 159 23, 3), (.if_icmp .ge 3, 3), (.aload 0, 1), (.iload 1, 1), (.iload 2, 1), (.multianewarray 190 55, 3), (.ifCond .le 2, 3), (.iload 2, 1), (.ireturn, 1)]),
  (21, [(.iinc 2 (1), 3), (.goto 1, 3)]),
  (27, [(.sipush (-1), 1), (.ireturn, 1)])]
def mX7_firstToGain : ac_M := (yX7_firstToGain, cX7_firstToGain, 3, (some .int), 7, 0, 1, (0, 0), [], bX7_firstToGain, [1550, 83, 1549, 57], [])
def bX7_payAll : List (Nat × ac_I) := [(0, [(.sipush (0), 1), (.istore 2, 1), (.sipush (0), 1), (.istore 3, 1), (.goto 1, 0)]),
  (4, [(.iload 3, 1), (.aload 0, 1), (.multianewarray 159 23, 3), (.if_icmp .ge 2, 3), (.iload 2, 1), (.aload 0, 1), (.iload 1, 1), (.iload 3, 1), (.multianewarray 165 55, 3), (.iadd, 1), (.istore 2, 1), (.iinc 3 (1), 3), (.goto 1, 3)]),
  (27, [(.iload 2, 1), (.ireturn, 1)])]
def mX7_payAll : ac_M := (yX7_payAll, cX7_payAll, 4, (some .int), 7, 0, 1, (0, 0), [], bX7_payAll, [1603, 83, 1602, 63], [])
def bX7_gain : List (Nat × ac_I) := [(0, [(.aload 0, 1), (.aload 0, 1), (.iload 2, 1), (.multianewarray 161 39, 3), (.ifCond .ne 1, 3), (.sipush (1), 1), (.goto 3, 3)]),
  (13, [(.aload 0, 1), (.iload 1, 1), (.multianewarray 162 39, 3), (.ifCond .eq 2, 3), (.sipush (0), 1), (.goto 3, 3)]),
  (25, [(.sipush (2), 1), (.goto 3, 0)]),
  (26, [(.putfield 228, 3), (.aload 0, 1), (.getfield 228, 3), (.ifCond .le 4, 3), (.sipush (0), 1), (.goto 5, 3)]),
  (40, [(.aload 0, 1), (.iload 1, 1), (.iload 2, 1), (.multianewarray 190 55, 3), (.goto 5, 0)]),
  (46, [(.ireturn, 1)])]
def mX7_gain : ac_M := (yX7_gain, cX7_gain, 3, (some .int), 7, 0, 2, (0, 0), [], bX7_gain, [1538, 83, 1536, 1537], [])
def bX7_rests : List (Nat × ac_I) := [(0, [(.aload 0, 1), (.aload 0, 1), (.iload 1, 1), (.multianewarray 162 39, 3), (.ifCond .eq 1, 3), (.sipush (0), 1), (.goto 2, 3)]),
  (13, [(.sipush (1), 1), (.goto 2, 0)]),
  (14, [(.putfield 228, 3), (.aload 0, 1), (.getfield 228, 3), (.ifCond .ne 3, 3), (.aload 0, 1), (.iload 1, 1), (.multianewarray 191 39, 3), (.sipush (-1), 1), (.if_icmp .ne 3, 3), (.sipush (1), 1), (.goto 4, 3)]),
  (37, [(.sipush (0), 1), (.goto 4, 0)]),
  (38, [(.ireturn, 1)])]
def mX7_rests : ac_M := (yX7_rests, cX7_rests, 2, (some .boolean), 7, 0, 1, (0, 0), [], bX7_rests, [1546, 83, 1544, 1545], [])
def bX7_rest : List (Nat × ac_I) := [(0, [(.aload 0, 1), (.sipush (0), 1), (.putfield 228, 3), (.sipush (0), 1), (.istore 2, 1), (.sipush (0), 1), (.istore 3, 1), (.goto 1, 0)]),
  (9, [(.iload 3, 1), (.aload 0, 1), (.multianewarray 160 23, 3), (.if_icmp .gt 5, 3), (.aload 0, 1), (.iload 3, 1), (.multianewarray 191 39, 3), (.sipush (-1), 1), (.if_icmp .eq 2, 3), (.goto 4, 3)]),
  (29, [(.iload 2, 1), (.iload 1, 1), (.if_icmp .ne 3, 3), (.iload 3, 1), (.ireturn, 1)]),
  (36, [(.iinc 2 (1), 3), (.goto 4, 0)]),
  (39, [(.iinc 3 (1), 3), (.goto 1, 3)]),
  (45, [(.iload 1, 1), (.sipush (-1), 1), (.if_icmp .ne 6, 3), (.iload 2, 1), (.goto 7, 3)]),
  (54, [(.sipush (-1), 1), (.goto 7, 0)]),
  (55, [(.ireturn, 1)])]
def mX7_rest : ac_M := (yX7_rest, cX7_rest, 4, (some .int), 7, 0, 1, (0, 0), [], bX7_rest, [1554, 83, 1552, 1553], [])
def bX7_isStrong : List (Nat × ac_I) := [(0, [(.aload 0, 1), (.iload 1, 1), (.multianewarray 191 39, 3), (.sipush (-1), 1), (.if_icmp .eq 1, 3), (.sipush (0), 1), (.ireturn, 1)]),
  (11, [(.sipush (0), 1), (.istore 2, 1), (.goto 2, 0)]),
  (13, [(.iload 2, 1), (.aload 0, 1), (.multianewarray 159 23, 3), (.if_icmp .ge 6, 3), (.iload 2, 1), (.sipush (1), 1), (.iadd, 1), (.istore 3, 1), (.goto 3, 0)]),
  (25, [(.iload 3, 1), (.aload 0, 1), (.multianewarray 159 23, 3), (.if_icmp .ge 5, 3), (.iload 1, 1), (.sipush (1), 1), (.iload 2, 1), (.ishl, 1), (.ixor, 1), (.sipush (1), 1), (.iload 3, 1), (.ishl, 1), (.ixor, 1), (.istore 4, 2), (.aload 0, 1), (.iload 4, 2), (.iload 2, 1), (.multianewarray 165 55, 3), (.aload 0, 1), (.iload 1, 1), (.iload 2, 1), (.multianewarray 165 55, 3), (.if_icmp .le 4, 3), (.aload 0, 1), (.iload 4, 2), (.iload 3, 1), (.multianewarray 165 55, 3), (.aload 0, 1), (.iload 1, 1), (.iload 3, 1), (.multianewarray 165 55, 3), (.if_icmp .le 4, 3), (.sipush (0), 1), (.ireturn, 1)]),
  (78, [(.iinc 3 (1), 3), (.goto 3, 3)]),
  (84, [(.iinc 2 (1), 3), (.goto 2, 3)]),
  (90, [(.sipush (1), 1), (.ireturn, 1)])]
def mX7_isStrong : ac_M := (yX7_isStrong, cX7_isStrong, 5, (some .boolean), 7, 0, 1, (0, 0), [], bX7_isStrong, [1562, 83, 1561, 58], [])
def bX7_strong : List (Nat × ac_I) := [(0, [(.aload 0, 1), (.aload 0, 1), (.iload 1, 1), (.multianewarray 162 39, 3), (.ifCond .eq 1, 3), (.sipush (0), 1), (.goto 2, 3)]),
  (13, [(.sipush (1), 1), (.goto 2, 0)]),
  (14, [(.putfield 228, 3), (.aload 0, 1), (.getfield 228, 3), (.ifCond .ne 3, 3), (.aload 0, 1), (.iload 1, 1), (.multianewarray 196 39, 3), (.ifCond .eq 3, 3), (.sipush (1), 1), (.goto 4, 3)]),
  (36, [(.sipush (0), 1), (.goto 4, 0)]),
  (37, [(.ireturn, 1)])]
def mX7_strong : ac_M := (yX7_strong, cX7_strong, 2, (some .boolean), 7, 0, 1, (0, 0), [], bX7_strong, [1558, 83, 1556, 1557], [])
def ms6 : List ac_M := [mX7_learns, mX7_last, mX7_thoughts, mX7_draw, mX7_seen, mX7_comes, mX7_goes, mX7_goesBy, mX7_week, mX7_told, mX7_back, mX7_isWeek, mX7_came, mX7_met, mX7_next, mX7_hats, mX7_thought, mX7_settled, mX7_trayFault, mX7_judge, mX7_gainOf, mX7_firstToGain, mX7_payAll, mX7_gain, mX7_rests, mX7_rest, mX7_isStrong, mX7_strong]
def bX7_strongs : List (Nat × ac_I) := [(0, [(.aload 0, 1), (.sipush (0), 1), (.putfield 228, 3), (.sipush (0), 1), (.istore 2, 1), (.sipush (0), 1), (.istore 3, 1), (.goto 1, 0)]),
  (9, [(.iload 3, 1), (.aload 0, 1), (.multianewarray 160 23, 3), (.if_icmp .gt 5, 3), (.aload 0, 1), (.iload 3, 1), (.multianewarray 196 39, 3), (.ifCond .ne 2, 3), (.goto 4, 3)]),
  (28, [(.iload 2, 1), (.iload 1, 1), (.if_icmp .ne 3, 3), (.iload 3, 1), (.ireturn, 1)]),
  (35, [(.iinc 2 (1), 3), (.goto 4, 0)]),
  (38, [(.iinc 3 (1), 3), (.goto 1, 3)]),
  (44, [(.iload 1, 1), (.sipush (-1), 1), (.if_icmp .ne 6, 3), (.iload 2, 1), (.goto 7, 3)]),
  (53, [(.sipush (-1), 1), (.goto 7, 0)]),
  (54, [(.ireturn, 1)])]
def mX7_strongs : ac_M := (yX7_strongs, cX7_strongs, 4, (some .int), 7, 0, 1, (0, 0), [], bX7_strongs, [1566, 83, 1564, 1565], [])
def bX7_wants : List (Nat × ac_I) := [(0, [(.aload 0, 1), (.getfield 244, 3), (.sipush (14), 2), (.iload 1, 1), (.sipush (1), 1), (.iadd, 1), (.imul, 1), (.iload 2, 1), (.iadd, 1), (.sipush (1), 1), (.iadd, 1), (.iaload, 1), (.aload 0, 1), (.getfield 224, 3), (.sipush (1), 1), (.iaload, 1), (.if_icmp .ne 1, 3), (.aload 0, 1), (.getfield 224, 3), (.sipush (2), 1), (.iaload, 1), (.aload 0, 1), (.aload 0, 1), (.getfield 243, 3), (.iload 1, 1), (.iaload, 1), (.sipush (2), 1), (.multianewarray 163 55, 3), (.if_icmp .le 1, 3), (.sipush (1), 1), (.goto 2, 3)]),
  (48, [(.sipush (0), 1), (.goto 2, 0)]),
  (49, [(.ireturn, 1)])]
def mX7_wants : ac_M := (yX7_wants, cX7_wants, 3, (some .boolean), 7, 0, 2, (0, 0), [], bX7_wants, [1578, 83, 1577, 60], [])
def bX7_byTurns : List (Nat × ac_I) := [(0, [(.aload 0, 1), (.multianewarray 159 23, 3), (.istore 1, 1), (.sipush (0), 1), (.istore 2, 1), (.goto 1, 0)]),
  (7, [(.iload 2, 1), (.iload 1, 1), (.if_icmp .gt 2, 3), (.aload 0, 1), (.getfield 244, 3), (.sipush (14), 2), (.iload 1, 1), (.imul, 1), (.iload 2, 1), (.iadd, 1), (.iload 2, 1), (.iastore, 1), (.iinc 2 (1), 3), (.goto 1, 3)]),
  (30, [(.iload 1, 1), (.sipush (1), 1), (.isub, 1), (.istore 2, 1), (.goto 3, 0)]),
  (34, [(.iload 2, 1), (.ifCond .lt 8, 3), (.sipush (0), 1), (.istore 3, 1), (.goto 4, 0)]),
  (40, [(.iload 3, 1), (.iload 2, 1), (.if_icmp .gt 7, 3), (.aload 0, 1), (.getfield 244, 3), (.sipush (14), 2), (.iload 2, 1), (.imul, 1), (.iload 3, 1), (.iadd, 1), (.aload 0, 1), (.getfield 244, 3), (.sipush (14), 2), (.iload 2, 1), (.sipush (1), 1), (.iadd, 1), (.imul, 1), (.aload 0, 1), (.iload 2, 1), (.iload 3, 1), (.multianewarray 199 55, 3), (.ifCond .eq 5, 3), (.iload 3, 1), (.sipush (1), 1), (.iadd, 1), (.goto 6, 3)]),
  (80, [(.iload 3, 1), (.goto 6, 0)]),
  (81, [(.iadd, 1), (.iaload, 1), (.iastore, 1), (.iinc 3 (1), 3), (.goto 4, 3)]),
  (90, [(.iinc 2 (-1), 3), (.goto 3, 3)]),
  (96, [(.sipush (0), 1), (.istore 2, 1), (.sipush (0), 1), (.istore 3, 1), (.goto 9, 0)]),
  (100, [(.iload 3, 1), (.iload 1, 1), (.if_icmp .ge 12, 3), (.iload 2, 1), (.aload 0, 1), (.iload 3, 1), (.iload 2, 1), (.invokeinterface 142 1, 3), (.multianewarray 199 55, 3), (.ifCond .eq 10, 3), (.sipush (1), 1), (.aload 0, 1), (.getfield 243, 3), (.iload 3, 1), (.iaload, 1), (.ishl, 1), (.goto 11, 3)]),
  (129, [(.sipush (0), 1), (.goto 11, 0)]),
  (130, [(.ior, 1), (.istore 2, 1), (.iinc 3 (1), 3), (.goto 9, 3)]),
  (138, [(.iload 2, 1), (.ireturn, 1)])]
def mX7_byTurns : ac_M := (yX7_byTurns, cX7_byTurns, 4, (some .int), 7, 0, 0, (0, 0), [], bX7_byTurns, [1574, 83, 1573, 59], [])
def bX7_inTurn : List (Nat × ac_I) := [(0, [(.aload 0, 1), (.sipush (0), 1), (.putfield 228, 3), (.sipush (0), 1), (.istore 1, 1), (.goto 1, 0)]),
  (7, [(.iload 1, 1), (.aload 0, 1), (.multianewarray 159 23, 3), (.if_icmp .ge 2, 3), (.aload 0, 1), (.getfield 243, 3), (.iload 1, 1), (.iload 1, 1), (.iastore, 1), (.iinc 1 (1), 3), (.goto 1, 3)]),
  (28, [(.aload 0, 1), (.multianewarray 200 23, 3), (.ireturn, 1)])]
def mX7_inTurn : ac_M := (yX7_inTurn, cX7_inTurn, 2, (some .int), 7, 0, 0, (0, 0), [], bX7_inTurn, [1570, 83, 1568, 1569], [])
def bX7_turnsBy : List (Nat × ac_I) := [(0, [(.aload 0, 1), (.aload 0, 1), (.iload 1, 1), (.multianewarray 188 39, 3), (.putfield 228, 3), (.aload 0, 1), (.getfield 228, 3), (.ifCond .le 1, 3), (.sipush (0), 1), (.ireturn, 1)]),
  (18, [(.aload 0, 1), (.getfield 250, 3), (.iload 1, 1), (.iaload, 1), (.aload 0, 1), (.multianewarray 159 23, 3), (.if_icmp .ne 2, 3), (.iload 2, 1), (.i2l, 1), (.ldc2_w 0, 1), (.ldc2_w 1, 1), (.invokeinterface 140 3, 3), (.ifCond .eq 2, 3), (.sipush (1), 1), (.goto 3, 3)]),
  (45, [(.sipush (0), 1), (.goto 3, 0)]),
  (46, [(.istore 3, 1), (.sipush (0), 1), (.istore 4, 2), (.sipush (0), 1), (.istore 5, 2), (.goto 4, 0)]),
  (53, [(.iload 5, 2), (.aload 0, 1), (.multianewarray 159 23, 3), (.if_icmp .ge 7, 3), (.iload 3, 1), (.ifCond .eq 7, 3), (.aload 0, 1), (.getfield 251, 3), (.sipush (60), 2), (.iload 1, 1), (.imul, 1), (.iload 5, 2), (.iadd, 1), (.laload, 1), (.ldc2_w 0, 1), (.aload 0, 1), (.multianewarray 159 23, 3), (.sipush (1), 1), (.isub, 1), (.i2l, 1), (.invokeinterface 140 3, 3), (.ifCond .eq 5, 3), (.iload 4, 2), (.aload 0, 1), (.getfield 251, 3), (.sipush (60), 2), (.iload 1, 1), (.imul, 1), (.iload 5, 2), (.iadd, 1), (.laload, 1), (.l2i, 1), (.invokeinterface 141 2, 3), (.ifCond .ne 5, 3), (.sipush (1), 1), (.goto 6, 3)]),
  (117, [(.sipush (0), 1), (.goto 6, 0)]),
  (118, [(.istore 3, 1), (.aload 0, 1), (.getfield 243, 3), (.iload 5, 2), (.aload 0, 1), (.getfield 251, 3), (.sipush (60), 2), (.iload 1, 1), (.imul, 1), (.iload 5, 2), (.iadd, 1), (.laload, 1), (.l2i, 1), (.iastore, 1), (.iload 4, 2), (.sipush (1), 1), (.aload 0, 1), (.getfield 243, 3), (.iload 5, 2), (.iaload, 1), (.ishl, 1), (.ior, 1), (.istore 4, 2), (.iinc 5 (1), 3), (.goto 4, 3)]),
  (159, [(.iload 3, 1), (.ifCond .ne 8, 3), (.aload 0, 1), (.sipush (3), 1), (.multianewarray 139 39, 3), (.ireturn, 1)]),
  (169, [(.aload 0, 1), (.multianewarray 200 23, 3), (.istore 5, 2), (.iload 2, 1), (.ifCond .ne 9, 3), (.iload 5, 2), (.ireturn, 1)]),
  (182, [(.sipush (0), 1), (.istore 6, 2), (.goto 10, 0)]),
  (185, [(.iload 6, 2), (.aload 0, 1), (.multianewarray 159 23, 3), (.if_icmp .ge 12, 3), (.iload 5, 2), (.aload 0, 1), (.getfield 243, 3), (.iload 6, 2), (.iaload, 1), (.invokeinterface 141 2, 3), (.ifCond .eq 11, 3), (.aload 0, 1), (.getfield 243, 3), (.iload 6, 2), (.iaload, 1), (.ireturn, 1)]),
  (217, [(.iinc 6 (1), 3), (.goto 10, 3)]),
  (223, [(.sipush (-1), 1), (.ireturn, 1)])]
def mX7_turnsBy : ac_M := (yX7_turnsBy, cX7_turnsBy, 7, (some .int), 7, 0, 2, (0, 0), [], bX7_turnsBy, [1582, 83, 1580, 1581], [])
def bX7_payOfTwo : List (Nat × ac_I) := [(0, [(.iload 2, 1), (.ifCond .ne 1, 3), (.sipush (0), 1), (.ireturn, 1)]),
  (6, [(.aload 0, 1), (.getfield 246, 3), (.iload 2, 1), (.iaload, 1), (.aload 0, 1), (.getfield 245, 3), (.iload 1, 1), (.iaload, 1), (.iload 2, 1), (.if_icmp .ne 2, 3), (.sipush (0), 1), (.goto 3, 3)]),
  (26, [(.sipush (1), 1), (.goto 3, 0)]),
  (27, [(.iadd, 1), (.istore 5, 2), (.iload 2, 1), (.sipush (1), 1), (.if_icmp .ne 5, 3), (.iload 5, 2), (.aload 0, 1), (.getfield 224, 3), (.sipush (1), 1), (.iaload, 1), (.if_icmp .ne 4, 3), (.aload 0, 1), (.getfield 224, 3), (.sipush (2), 1), (.iaload, 1), (.goto 7, 3)]),
  (55, [(.sipush (0), 1), (.goto 7, 3)]),
  (59, [(.iload 5, 2), (.iload 3, 1), (.if_icmp .ne 6, 3), (.iload 4, 2), (.goto 7, 3)]),
  (70, [(.sipush (0), 1), (.goto 7, 0)]),
  (71, [(.aload 0, 1), (.iload 1, 1), (.sipush (2), 1), (.multianewarray 163 55, 3), (.isub, 1), (.ireturn, 1)])]
def mX7_payOfTwo : ac_M := (yX7_payOfTwo, cX7_payOfTwo, 6, (some .int), 7, 0, 4, (0, 0), [], bX7_payOfTwo, [1595, 83, 1594, 62], [])
def bX7_restsInTwo : List (Nat × ac_I) := [(0, [(.sipush (0), 1), (.istore 4, 2), (.goto 1, 0)]),
  (3, [(.iload 4, 2), (.sipush (3), 1), (.if_icmp .ge 2, 3), (.aload 0, 1), (.getfield 246, 3), (.iload 4, 2), (.sipush (0), 1), (.iastore, 1), (.iinc 4 (1), 3), (.goto 1, 3)]),
  (23, [(.iload 1, 1), (.istore 4, 2), (.sipush (0), 1), (.istore 5, 2), (.goto 3, 0)]),
  (29, [(.iload 5, 2), (.aload 0, 1), (.multianewarray 159 23, 3), (.if_icmp .ge 4, 3), (.aload 0, 1), (.getfield 245, 3), (.iload 5, 2), (.iload 4, 2), (.sipush (3), 1), (.irem, 1), (.iastore, 1), (.aload 0, 1), (.getfield 246, 3), (.aload 0, 1), (.getfield 245, 3), (.iload 5, 2), (.iaload, 1), (.dup2, 1), (.iaload, 1), (.sipush (1), 1), (.iadd, 1), (.iastore, 1), (.iload 4, 2), (.sipush (3), 1), (.idiv, 1), (.istore 4, 2), (.iinc 5 (1), 3), (.goto 3, 3)]),
  (77, [(.sipush (0), 1), (.istore 5, 2), (.goto 5, 0)]),
  (80, [(.iload 5, 2), (.aload 0, 1), (.multianewarray 159 23, 3), (.if_icmp .ge 9, 3), (.sipush (0), 1), (.istore 6, 2), (.goto 6, 0)]),
  (92, [(.iload 6, 2), (.sipush (3), 1), (.if_icmp .ge 8, 3), (.aload 0, 1), (.iload 5, 2), (.iload 6, 2), (.iload 2, 1), (.iload 3, 1), (.multianewarray 203 87, 3), (.aload 0, 1), (.iload 5, 2), (.aload 0, 1), (.getfield 245, 3), (.iload 5, 2), (.iaload, 1), (.iload 2, 1), (.iload 3, 1), (.multianewarray 203 87, 3), (.if_icmp .le 7, 3), (.sipush (0), 1), (.ireturn, 1)]),
  (128, [(.iinc 6 (1), 3), (.goto 6, 3)]),
  (134, [(.iinc 5 (1), 3), (.goto 5, 3)]),
  (140, [(.sipush (1), 1), (.ireturn, 1)])]
def mX7_restsInTwo : ac_M := (yX7_restsInTwo, cX7_restsInTwo, 7, (some .boolean), 7, 0, 3, (0, 0), [], bX7_restsInTwo, [1591, 83, 1590, 61], [])
def bX7_two : List (Nat × ac_I) := [(0, [(.aload 0, 1), (.iload 1, 1), (.i2l, 1), (.ldc2_w 1, 1), (.ldc2_w 12, 3), (.invokeinterface 140 3, 3), (.ifCond .eq 1, 3), (.iload 2, 1), (.i2l, 1), (.ldc2_w 0, 1), (.ldc2_w 999, 3), (.invokeinterface 140 3, 3), (.ifCond .ne 2, 3), (.goto 1, 0)]),
  (25, [(.sipush (1), 1), (.goto 4, 3)]),
  (29, [(.aload 0, 1), (.multianewarray 159 23, 3), (.sipush (8), 2), (.if_icmp .le 3, 3), (.sipush (2), 1), (.goto 4, 3)]),
  (42, [(.sipush (0), 1), (.goto 4, 0)]),
  (43, [(.putfield 228, 3), (.aload 0, 1), (.getfield 228, 3), (.ifCond .le 5, 3), (.sipush (0), 1), (.ireturn, 1)]),
  (55, [(.sipush (1), 1), (.istore 4, 2), (.sipush (0), 1), (.istore 5, 2), (.goto 6, 0)]),
  (61, [(.iload 5, 2), (.aload 0, 1), (.multianewarray 159 23, 3), (.if_icmp .ge 7, 3), (.iload 4, 2), (.sipush (3), 1), (.imul, 1), (.istore 4, 2), (.iinc 5 (1), 3), (.goto 6, 3)]),
  (82, [(.sipush (0), 1), (.istore 5, 2), (.sipush (0), 1), (.istore 6, 2), (.goto 8, 0)]),
  (88, [(.iload 6, 2), (.iload 4, 2), (.if_icmp .ge 12, 3), (.aload 0, 1), (.iload 6, 2), (.iload 1, 1), (.iload 2, 1), (.multianewarray 204 71, 3), (.ifCond .ne 9, 3), (.goto 11, 3)]),
  (109, [(.iload 5, 2), (.iload 3, 1), (.if_icmp .ne 10, 3), (.iload 6, 2), (.ireturn, 1)]),
  (118, [(.iinc 5 (1), 3), (.goto 11, 0)]),
  (121, [(.iinc 6 (1), 3), (.goto 8, 3)]),
  (127, [(.iload 3, 1), (.sipush (-1), 1), (.if_icmp .ne 13, 3), (.iload 5, 2), (.goto 14, 3)]),
  (137, [(.sipush (-1), 1), (.goto 14, 0)]),
  (138, [(.ireturn, 1)])]
def mX7_two : ac_M := (yX7_two, cX7_two, 7, (some .int), 7, 0, 3, (0, 0), [], bX7_two, [1586, 83, 1584, 1585], [])
def bX7_bestRest : List (Nat × ac_I) := [(0, [(.aload 0, 1), (.sipush (0), 1), (.putfield 228, 3), (.sipush (-1), 1), (.istore 1, 1), (.sipush (0), 1), (.istore 2, 1), (.goto 1, 0)]),
  (9, [(.iload 2, 1), (.aload 0, 1), (.multianewarray 160 23, 3), (.if_icmp .gt 4, 3), (.aload 0, 1), (.iload 2, 1), (.multianewarray 191 39, 3), (.sipush (-1), 1), (.if_icmp .ne 3, 3), (.iload 1, 1), (.sipush (-1), 1), (.if_icmp .eq 2, 3), (.aload 0, 1), (.iload 2, 1), (.multianewarray 192 39, 3), (.aload 0, 1), (.iload 1, 1), (.multianewarray 192 39, 3), (.if_icmp .le 3, 3), (.goto 2, 0)]),
  (44, [(.iload 2, 1), (.istore 1, 1), (.goto 3, 0)]),
  (46, [(.iinc 2 (1), 3), (.goto 1, 3)]),
  (52, [(.iload 1, 1), (.ireturn, 1)])]
def mX7_bestRest : ac_M := (yX7_bestRest, cX7_bestRest, 3, (some .int), 7, 0, 0, (0, 0), [], bX7_bestRest, [1599, 83, 1597, 1598], [])
def bX7_pay : List (Nat × ac_I) := [(0, [(.aload 0, 1), (.sipush (0), 1), (.putfield 228, 3), (.aload 0, 1), (.iload 1, 1), (.multianewarray 162 39, 3), (.ifCond .eq 1, 3), (.aload 0, 1), (.iload 1, 1), (.multianewarray 192 39, 3), (.goto 2, 3)]),
  (21, [(.aload 0, 1), (.sipush (1), 1), (.multianewarray 139 39, 3), (.goto 2, 0)]),
  (26, [(.ireturn, 1)])]
def mX7_pay : ac_M := (yX7_pay, cX7_pay, 2, (some .int), 7, 0, 1, (0, 0), [], bX7_pay, [1607, 83, 1605, 1606], [])
def bX7_pivots : List (Nat × ac_I) := [(0, [(.aload 0, 1), (.sipush (0), 1), (.putfield 228, 3), (.aload 0, 1), (.iload 1, 1), (.multianewarray 162 39, 3), (.ifCond .ne 1, 3), (.aload 0, 1), (.sipush (1), 1), (.multianewarray 139 39, 3), (.ireturn, 1)]),
  (19, [(.sipush (0), 1), (.istore 2, 1), (.sipush (0), 1), (.istore 3, 1), (.goto 2, 0)]),
  (23, [(.iload 3, 1), (.aload 0, 1), (.multianewarray 159 23, 3), (.if_icmp .ge 5, 3), (.iload 2, 1), (.aload 0, 1), (.iload 1, 1), (.sipush (1), 1), (.iload 3, 1), (.ishl, 1), (.ixor, 1), (.multianewarray 164 39, 3), (.aload 0, 1), (.iload 1, 1), (.multianewarray 164 39, 3), (.if_icmp .eq 3, 3), (.sipush (1), 1), (.iload 3, 1), (.ishl, 1), (.goto 4, 3)]),
  (55, [(.sipush (0), 1), (.goto 4, 0)]),
  (56, [(.ior, 1), (.istore 2, 1), (.iinc 3 (1), 3), (.goto 2, 3)]),
  (64, [(.iload 2, 1), (.ireturn, 1)])]
def mX7_pivots : ac_M := (yX7_pivots, cX7_pivots, 4, (some .int), 7, 0, 1, (0, 0), [], bX7_pivots, [1611, 83, 1609, 1610], [])
def bX7_replies : List (Nat × ac_I) := [(0, [(.aload 0, 1), (.aload 0, 1), (.iload 1, 1), (.multianewarray 162 39, 3), (.ifCond .eq 1, 3), (.iload 2, 1), (.i2l, 1), (.ldc2_w 0, 1), (.ldc2_w 1, 1), (.invokeinterface 140 3, 3), (.ifCond .eq 1, 3), (.sipush (0), 1), (.goto 2, 3)]),
  (23, [(.sipush (1), 1), (.goto 2, 0)]),
  (24, [(.putfield 228, 3), (.aload 0, 1), (.getfield 228, 3), (.ifCond .le 3, 3), (.sipush (0), 1), (.ireturn, 1)]),
  (36, [(.iload 1, 1), (.istore 3, 1), (.sipush (0), 1), (.istore 4, 2), (.goto 4, 0)]),
  (41, [(.iload 4, 2), (.sipush (4096), 3), (.if_icmp .gt 8, 3), (.aload 0, 1), (.iload 3, 1), (.multianewarray 191 39, 3), (.istore 5, 2), (.iload 5, 2), (.sipush (-1), 1), (.if_icmp .ne 7, 3), (.iload 2, 1), (.ifCond .ne 5, 3), (.iload 3, 1), (.goto 6, 3)]),
  (70, [(.iload 4, 2), (.goto 6, 0)]),
  (72, [(.ireturn, 1)]),
  (73, [(.iload 3, 1), (.sipush (1), 1), (.iload 5, 2), (.ishl, 1), (.ixor, 1), (.istore 3, 1), (.iinc 4 (1), 3), (.goto 4, 3)]),
  (86, [(.sipush (-1), 1), (.ireturn, 1)])]
def mX7_replies : ac_M := (yX7_replies, cX7_replies, 6, (some .int), 7, 0, 2, (0, 0), [], bX7_replies, [1615, 83, 1613, 1614], [])
def bX7_bribeOf : List (Nat × ac_I) := [(0, [(.sipush (0), 1), (.istore 2, 1), (.sipush (0), 1), (.istore 3, 1), (.goto 1, 0)]),
  (4, [(.iload 3, 1), (.aload 0, 1), (.multianewarray 159 23, 3), (.if_icmp .ge 2, 3), (.iload 2, 1), (.sipush (0), 1), (.aload 0, 1), (.iload 1, 1), (.iload 3, 1), (.multianewarray 190 55, 3), (.invokeinterface 253 2, 3), (.iadd, 1), (.istore 2, 1), (.iinc 3 (1), 3), (.goto 1, 3)]),
  (31, [(.iload 2, 1), (.ireturn, 1)])]
def mX7_bribeOf : ac_M := (yX7_bribeOf, cX7_bribeOf, 4, (some .int), 7, 0, 1, (0, 0), [], bX7_bribeOf, [1623, 83, 1622, 64], [])
def bX7_bribe : List (Nat × ac_I) := [(0, [(.aload 0, 1), (.sipush (0), 1), (.putfield 228, 3), (.aload 0, 1), (.iload 1, 1), (.multianewarray 162 39, 3), (.ifCond .eq 1, 3), (.aload 0, 1), (.iload 1, 1), (.multianewarray 210 39, 3), (.goto 2, 3)]),
  (21, [(.aload 0, 1), (.sipush (1), 1), (.multianewarray 139 39, 3), (.goto 2, 0)]),
  (26, [(.ireturn, 1)])]
def mX7_bribe : ac_M := (yX7_bribe, cX7_bribe, 2, (some .int), 7, 0, 1, (0, 0), [], bX7_bribe, [1619, 83, 1617, 1618], [])
def bX7_costOf : List (Nat × ac_I) := [(0, [(.sipush (0), 1), (.istore 2, 1), (.sipush (0), 1), (.istore 3, 1), (.goto 1, 0)]),
  (4, [(.iload 3, 1), (.aload 0, 1), (.multianewarray 159 23, 3), (.if_icmp .ge 4, 3), (.iload 2, 1), (.iload 1, 1), (.iload 3, 1), (.invokeinterface 141 2, 3), (.ifCond .eq 2, 3), (.aload 0, 1), (.iload 3, 1), (.sipush (2), 1), (.multianewarray 163 55, 3), (.goto 3, 3)]),
  (30, [(.sipush (0), 1), (.goto 3, 0)]),
  (31, [(.iadd, 1), (.istore 2, 1), (.iinc 3 (1), 3), (.goto 1, 3)]),
  (39, [(.iload 2, 1), (.ireturn, 1)])]
def mX7_costOf : ac_M := (yX7_costOf, cX7_costOf, 4, (some .int), 7, 0, 1, (0, 0), [], bX7_costOf, [1636, 83, 1635, 66], [])
def bX7_leastSet : List (Nat × ac_I) := [(0, [(.sipush (-1), 1), (.istore 2, 1), (.sipush (0), 1), (.istore 3, 1), (.sipush (0), 1), (.istore 4, 2), (.goto 1, 0)]),
  (7, [(.iload 4, 2), (.aload 0, 1), (.multianewarray 160 23, 3), (.if_icmp .gt 7, 3), (.aload 0, 1), (.iload 4, 2), (.multianewarray 164 39, 3), (.ifCond .ne 2, 3), (.goto 6, 3)]),
  (28, [(.iload 1, 1), (.ifCond .eq 3, 3), (.aload 0, 1), (.iload 4, 2), (.multianewarray 210 39, 3), (.goto 4, 3)]),
  (41, [(.aload 0, 1), (.iload 4, 2), (.multianewarray 212 39, 3), (.goto 4, 0)]),
  (47, [(.istore 5, 2), (.iload 2, 1), (.sipush (-1), 1), (.if_icmp .eq 5, 3), (.iload 5, 2), (.iload 3, 1), (.if_icmp .lt 5, 3), (.goto 6, 3)]),
  (63, [(.iload 4, 2), (.istore 2, 1), (.iload 5, 2), (.istore 3, 1), (.goto 6, 0)]),
  (69, [(.iinc 4 (1), 3), (.goto 1, 3)]),
  (75, [(.iload 2, 1), (.ireturn, 1)])]
def mX7_leastSet : ac_M := (yX7_leastSet, cX7_leastSet, 6, (some .int), 7, 0, 1, (0, 0), [], bX7_leastSet, [1632, 83, 1631, 65], [])
def bX7_leastBribe : List (Nat × ac_I) := [(0, [(.aload 0, 1), (.iload 1, 1), (.i2l, 1), (.ldc2_w 0, 1), (.ldc2_w 1, 1), (.invokeinterface 140 3, 3), (.ifCond .eq 1, 3), (.sipush (0), 1), (.goto 2, 3)]),
  (15, [(.sipush (1), 1), (.goto 2, 0)]),
  (16, [(.putfield 228, 3), (.aload 0, 1), (.getfield 228, 3), (.ifCond .le 3, 3), (.sipush (0), 1), (.ireturn, 1)]),
  (28, [(.aload 0, 1), (.sipush (1), 1), (.multianewarray 213 39, 3), (.istore 2, 1), (.iload 2, 1), (.sipush (-1), 1), (.if_icmp .eq 4, 3), (.iload 1, 1), (.sipush (1), 1), (.if_icmp .ne 5, 3), (.goto 4, 0)]),
  (44, [(.iload 2, 1), (.goto 6, 3)]),
  (48, [(.aload 0, 1), (.iload 2, 1), (.multianewarray 210 39, 3), (.goto 6, 0)]),
  (53, [(.ireturn, 1)])]
def mX7_leastBribe : ac_M := (yX7_leastBribe, cX7_leastBribe, 3, (some .int), 7, 0, 1, (0, 0), [], bX7_leastBribe, [1628, 83, 1626, 1627], [])
def bX7_contract : List (Nat × ac_I) := [(0, [(.aload 0, 1), (.iload 1, 1), (.i2l, 1), (.ldc2_w 0, 1), (.ldc2_w 1, 1), (.invokeinterface 140 3, 3), (.ifCond .eq 1, 3), (.sipush (0), 1), (.goto 2, 3)]),
  (15, [(.sipush (1), 1), (.goto 2, 0)]),
  (16, [(.putfield 228, 3), (.aload 0, 1), (.getfield 228, 3), (.ifCond .le 3, 3), (.sipush (0), 1), (.ireturn, 1)]),
  (28, [(.aload 0, 1), (.sipush (0), 1), (.multianewarray 213 39, 3), (.istore 2, 1), (.iload 2, 1), (.sipush (-1), 1), (.if_icmp .eq 4, 3), (.iload 1, 1), (.sipush (1), 1), (.if_icmp .ne 5, 3), (.goto 4, 0)]),
  (44, [(.iload 2, 1), (.goto 6, 3)]),
  (48, [(.aload 0, 1), (.iload 2, 1), (.multianewarray 212 39, 3), (.goto 6, 0)]),
  (53, [(.ireturn, 1)])]
def mX7_contract : ac_M := (yX7_contract, cX7_contract, 3, (some .int), 7, 0, 1, (0, 0), [], bX7_contract, [1640, 83, 1638, 1639], [])
def bX7_waysBegin : List (Nat × ac_I) := [(0, [(.sipush (0), 1), (.istore 1, 1), (.goto 1, 0)]),
  (2, [(.iload 1, 1), (.aload 0, 1), (.getfield 247, 3), (.arraylength, 1), (.if_icmp .ge 4, 3), (.aload 0, 1), (.getfield 247, 3), (.iload 1, 1), (.iload 1, 1), (.ifCond .ne 2, 3), (.ldc2_w 1, 1), (.goto 3, 3)]),
  (24, [(.ldc2_w 0, 1), (.goto 3, 0)]),
  (25, [(.lastore, 1), (.iinc 1 (1), 3), (.goto 1, 3)]),
  (32, [(.return_, 1)])]
def mX7_waysBegin : ac_M := (yX7_waysBegin, cX7_waysBegin, 2, none, 7, 0, 0, (0, 0), [], bX7_waysBegin, [1653, 83, 1652, 68], [])
def ms7 : List ac_M := [mX7_strongs, mX7_wants, mX7_byTurns, mX7_inTurn, mX7_turnsBy, mX7_payOfTwo, mX7_restsInTwo, mX7_two, mX7_bestRest, mX7_pay, mX7_pivots, mX7_replies, mX7_bribeOf, mX7_bribe, mX7_costOf, mX7_leastSet, mX7_leastBribe, mX7_contract, mX7_waysBegin]
def bX7_waysGo : List (Nat × ac_I) := [(0, [(.aload 0, 1), (.getfield 247, 3), (.arraylength, 1), (.sipush (1), 1), (.isub, 1), (.istore 5, 2), (.goto 1, 0)]),
  (9, [(.iload 5, 2), (.ifCond .lt 4, 3), (.aload 0, 1), (.getfield 247, 3), (.iload 5, 2), (.aload 0, 1), (.getfield 247, 3), (.iload 5, 2), (.laload, 1), (.lload 3, 1), (.lload 1, 1), (.lsub, 1), (.lmul, 1), (.iload 5, 2), (.ifCond .le 2, 3), (.aload 0, 1), (.getfield 247, 3), (.iload 5, 2), (.sipush (1), 1), (.isub, 1), (.laload, 1), (.lload 1, 1), (.lmul, 1), (.goto 3, 3)]),
  (50, [(.ldc2_w 0, 1), (.goto 3, 0)]),
  (51, [(.ladd, 1), (.lastore, 1), (.iinc 5 (-1), 3), (.goto 1, 3)]),
  (59, [(.return_, 1)])]
def mX7_waysGo : ac_M := (yX7_waysGo, cX7_waysGo, 6, none, 7, 0, 2, (0, 0), [], bX7_waysGo, [1657, 83, 1656, 69], [])
def bX7_waysOf : List (Nat × ac_I) := [(0, [(.aload 0, 1), (.multianewarray 216 23, 3), (.sipush (0), 1), (.istore 5, 2), (.goto 1, 0)]),
  (7, [(.iload 5, 2), (.iload 1, 1), (.if_icmp .ge 2, 3), (.aload 0, 1), (.iload 2, 1), (.i2l, 1), (.iload 3, 1), (.i2l, 1), (.multianewarray 217 55, 3), (.iinc 5 (1), 3), (.goto 1, 3)]),
  (27, [(.iload 4, 2), (.i2l, 1), (.ldc2_w 0, 1), (.iload 1, 1), (.i2l, 1), (.invokeinterface 140 3, 3), (.ifCond .eq 3, 3), (.aload 0, 1), (.getfield 247, 3), (.iload 4, 2), (.laload, 1), (.goto 4, 3)]),
  (49, [(.ldc2_w 0, 1), (.goto 4, 0)]),
  (50, [(.lreturn, 1)])]
def mX7_waysOf : ac_M := (yX7_waysOf, cX7_waysOf, 6, (some .long), 7, 0, 4, (0, 0), [], bX7_waysOf, [1649, 83, 1648, 67], [])
def bX7_odds : List (Nat × ac_I) := [(0, [(.aload 0, 1), (.iload 2, 1), (.i2l, 1), (.ldc2_w 1, 1), (.ldc2_w 20, 3), (.invokeinterface 140 3, 3), (.ifCond .eq 1, 3), (.iload 1, 1), (.i2l, 1), (.ldc2_w 0, 1), (.iload 2, 1), (.i2l, 1), (.invokeinterface 140 3, 3), (.ifCond .eq 1, 3), (.sipush (0), 1), (.goto 2, 3)]),
  (28, [(.sipush (1), 1), (.goto 2, 0)]),
  (29, [(.putfield 228, 3), (.aload 0, 1), (.getfield 228, 3), (.ifCond .le 3, 3), (.ldc2_w 0, 1), (.goto 4, 3)]),
  (43, [(.aload 0, 1), (.aload 0, 1), (.multianewarray 159 23, 3), (.iload 1, 1), (.iload 2, 1), (.iload 3, 1), (.multianewarray 218 87, 3), (.goto 4, 0)]),
  (54, [(.lreturn, 1)])]
def mX7_odds : ac_M := (yX7_odds, cX7_odds, 4, (some .long), 7, 0, 3, (0, 0), [], bX7_odds, [1644, 83, 1642, 1643], [])
def bX7_bestOdds : List (Nat × ac_I) := [(0, [(.aload 0, 1), (.sipush (0), 1), (.putfield 228, 3), (.iload 1, 1), (.i2l, 1), (.ldc2_w 1, 1), (.ldc2_w 20, 3), (.invokeinterface 140 3, 3), (.ifCond .ne 1, 3), (.aload 0, 1), (.sipush (1), 1), (.multianewarray 139 39, 3), (.ireturn, 1)]),
  (23, [(.sipush (0), 1), (.istore 2, 1), (.sipush (1), 1), (.istore 3, 1), (.goto 2, 0)]),
  (27, [(.iload 3, 1), (.iload 1, 1), (.if_icmp .gt 4, 3), (.aload 0, 1), (.aload 0, 1), (.multianewarray 159 23, 3), (.iload 3, 1), (.iload 1, 1), (.aload 0, 1), (.getfield 224, 3), (.sipush (1), 1), (.iaload, 1), (.multianewarray 218 87, 3), (.aload 0, 1), (.aload 0, 1), (.multianewarray 159 23, 3), (.iload 2, 1), (.iload 1, 1), (.aload 0, 1), (.getfield 224, 3), (.sipush (1), 1), (.iaload, 1), (.multianewarray 218 87, 3), (.lcmp, 1), (.ifCond .le 3, 3), (.iload 3, 1), (.istore 2, 1), (.goto 3, 0)]),
  (70, [(.iinc 3 (1), 3), (.goto 2, 3)]),
  (76, [(.iload 2, 1), (.ireturn, 1)])]
def mX7_bestOdds : ac_M := (yX7_bestOdds, cX7_bestOdds, 4, (some .int), 7, 0, 1, (0, 0), [], bX7_bestOdds, [1661, 83, 1659, 1660], [])
def bX7_chances : List (Nat × ac_I) := [(0, [(.aload 0, 1), (.aload 0, 1), (.iload 1, 1), (.multianewarray 188 39, 3), (.putfield 228, 3), (.aload 0, 1), (.getfield 228, 3), (.ifCond .le 1, 3), (.ldc2_w 0, 1), (.lreturn, 1)]),
  (18, [(.iload 2, 1), (.i2l, 1), (.ldc2_w 1, 1), (.ldc2_w 20, 3), (.invokeinterface 140 3, 3), (.ifCond .eq 2, 3), (.aload 0, 1), (.getfield 250, 3), (.iload 1, 1), (.iaload, 1), (.aload 0, 1), (.multianewarray 159 23, 3), (.if_icmp .ne 2, 3), (.sipush (1), 1), (.goto 3, 3)]),
  (47, [(.sipush (0), 1), (.goto 3, 0)]),
  (48, [(.istore 4, 2), (.sipush (0), 1), (.istore 5, 2), (.goto 4, 0)]),
  (53, [(.iload 5, 2), (.aload 0, 1), (.multianewarray 159 23, 3), (.if_icmp .ge 5, 3), (.iload 4, 2), (.ifCond .eq 5, 3), (.aload 0, 1), (.getfield 251, 3), (.sipush (60), 2), (.iload 1, 1), (.imul, 1), (.iload 5, 2), (.iadd, 1), (.laload, 1), (.ldc2_w 0, 1), (.iload 2, 1), (.i2l, 1), (.invokeinterface 140 3, 3), (.istore 4, 2), (.iinc 5 (1), 3), (.goto 4, 3)]),
  (93, [(.iload 4, 2), (.ifCond .ne 6, 3), (.aload 0, 1), (.sipush (3), 1), (.multianewarray 139 39, 3), (.i2l, 1), (.lreturn, 1)]),
  (105, [(.aload 0, 1), (.multianewarray 216 23, 3), (.sipush (0), 1), (.istore 5, 2), (.goto 7, 0)]),
  (112, [(.iload 5, 2), (.aload 0, 1), (.multianewarray 159 23, 3), (.if_icmp .ge 8, 3), (.aload 0, 1), (.aload 0, 1), (.getfield 251, 3), (.sipush (60), 2), (.iload 1, 1), (.imul, 1), (.iload 5, 2), (.iadd, 1), (.laload, 1), (.iload 2, 1), (.i2l, 1), (.multianewarray 217 55, 3), (.iinc 5 (1), 3), (.goto 7, 3)]),
  (145, [(.iload 3, 1), (.i2l, 1), (.ldc2_w 0, 1), (.aload 0, 1), (.multianewarray 159 23, 3), (.i2l, 1), (.invokeinterface 140 3, 3), (.ifCond .eq 9, 3), (.aload 0, 1), (.getfield 247, 3), (.iload 3, 1), (.laload, 1), (.goto 10, 3)]),
  (168, [(.ldc2_w 0, 1), (.goto 10, 0)]),
  (169, [(.lreturn, 1)])]
def mX7_chances : ac_M := (yX7_chances, cX7_chances, 6, (some .long), 7, 0, 3, (0, 0), [], bX7_chances, [1665, 83, 1663, 1664], [])
def bX7_hope : List (Nat × ac_I) := [(0, [(.aload 0, 1), (.aload 0, 1), (.iload 1, 1), (.multianewarray 161 39, 3), (.ifCond .ne 1, 3), (.sipush (1), 1), (.goto 3, 3)]),
  (13, [(.iload 3, 1), (.i2l, 1), (.ldc2_w 1, 1), (.ldc2_w 20, 3), (.invokeinterface 140 3, 3), (.ifCond .eq 2, 3), (.iload 2, 1), (.i2l, 1), (.ldc2_w 0, 1), (.iload 3, 1), (.i2l, 1), (.invokeinterface 140 3, 3), (.ifCond .eq 2, 3), (.iload 4, 2), (.i2l, 1), (.ldc2_w 0, 1), (.ldc2_w 1, 1), (.invokeinterface 140 3, 3), (.ifCond .eq 2, 3), (.sipush (0), 1), (.goto 3, 3)]),
  (51, [(.sipush (2), 1), (.goto 3, 0)]),
  (52, [(.putfield 228, 3), (.aload 0, 1), (.getfield 228, 3), (.ifCond .le 4, 3), (.ldc2_w 0, 1), (.lreturn, 1)]),
  (64, [(.ldc2_w 1, 1), (.lstore 5, 2), (.sipush (1), 1), (.istore 7, 2), (.goto 5, 0)]),
  (70, [(.iload 7, 2), (.aload 0, 1), (.multianewarray 159 23, 3), (.if_icmp .ge 6, 3), (.lload 5, 2), (.iload 3, 1), (.i2l, 1), (.lmul, 1), (.lstore 5, 2), (.iinc 7 (1), 3), (.goto 5, 3)]),
  (92, [(.aload 0, 1), (.getfield 224, 3), (.sipush (2), 1), (.iaload, 1), (.i2l, 1), (.aload 0, 1), (.aload 0, 1), (.multianewarray 159 23, 3), (.sipush (1), 1), (.isub, 1), (.iload 2, 1), (.iload 3, 1), (.aload 0, 1), (.getfield 224, 3), (.sipush (1), 1), (.iaload, 1), (.sipush (1), 1), (.isub, 1), (.multianewarray 218 87, 3), (.lmul, 1), (.aload 0, 1), (.iload 1, 1), (.sipush (2), 1), (.multianewarray 163 55, 3), (.i2l, 1), (.lload 5, 2), (.lmul, 1), (.lsub, 1), (.lstore 7, 2), (.lload 7, 2), (.lload 5, 2), (.lrem, 1), (.lload 5, 2), (.ladd, 1), (.lload 5, 2), (.lrem, 1), (.lstore 9, 2), (.iload 4, 2), (.ifCond .ne 7, 3), (.lload 7, 2), (.lload 9, 2), (.lsub, 1), (.lload 5, 2), (.ldiv, 1), (.goto 8, 3)]),
  (162, [(.lload 9, 2), (.goto 8, 0)]),
  (164, [(.lreturn, 1)])]
def mX7_hope : ac_M := (yX7_hope, cX7_hope, 11, (some .long), 7, 0, 4, (0, 0), [], bX7_hope, [1669, 83, 1667, 1668], [])
def bX7_metAhead : List (Nat × ac_I) := [(0, [(.aload 0, 1), (.multianewarray 168 23, 3), (.sipush (0), 1), (.istore 2, 1), (.sipush (0), 1), (.istore 3, 1), (.goto 1, 0)]),
  (8, [(.iload 3, 1), (.iload 1, 1), (.if_icmp .ge 4, 3), (.iload 2, 1), (.aload 0, 1), (.aload 0, 1), (.multianewarray 169 23, 3), (.multianewarray 164 39, 3), (.ifCond .eq 2, 3), (.sipush (1), 1), (.goto 3, 3)]),
  (29, [(.sipush (0), 1), (.goto 3, 0)]),
  (30, [(.iadd, 1), (.istore 2, 1), (.iinc 3 (1), 3), (.goto 1, 3)]),
  (38, [(.iload 2, 1), (.ireturn, 1)])]
def mX7_metAhead : ac_M := (yX7_metAhead, cX7_metAhead, 4, (some .int), 7, 0, 1, (0, 0), [], bX7_metAhead, [1680, 83, 1679, 70], [])
def bX7_ahead : List (Nat × ac_I) := [(0, [(.aload 0, 1), (.iload 1, 1), (.i2l, 1), (.ldc2_w 1, 1), (.ldc2_w 60, 3), (.invokeinterface 140 3, 3), (.ifCond .eq 2, 3), (.iload 2, 1), (.i2l, 1), (.ldc2_w 0, 1), (.ldc2_w 2, 3), (.invokeinterface 140 3, 3), (.ifCond .ne 1, 3), (.iload 2, 1), (.i2l, 1), (.ldc2_w 100, 3), (.sipush (99), 2), (.iload 1, 1), (.iadd, 1), (.i2l, 1), (.invokeinterface 140 3, 3), (.ifCond .eq 2, 3), (.goto 1, 0)]),
  (41, [(.sipush (0), 1), (.goto 3, 3)]),
  (45, [(.sipush (1), 1), (.goto 3, 0)]),
  (46, [(.putfield 228, 3), (.aload 0, 1), (.getfield 228, 3), (.ifCond .le 4, 3), (.sipush (0), 1), (.ireturn, 1)]),
  (58, [(.iload 2, 1), (.ifCond .ne 5, 3), (.aload 0, 1), (.iload 1, 1), (.multianewarray 223 39, 3), (.ireturn, 1)]),
  (68, [(.aload 0, 1), (.multianewarray 168 23, 3), (.sipush (0), 1), (.istore 3, 1), (.aload 0, 1), (.multianewarray 160 23, 3), (.istore 4, 2), (.sipush (0), 1), (.istore 5, 2), (.goto 6, 0)]),
  (83, [(.iload 5, 2), (.iload 1, 1), (.if_icmp .ge 8, 3), (.aload 0, 1), (.multianewarray 169 23, 3), (.istore 6, 2), (.iload 2, 1), (.sipush (100), 2), (.iload 5, 2), (.iadd, 1), (.if_icmp .ne 7, 3), (.iload 6, 2), (.ireturn, 1)]),
  (107, [(.iload 3, 1), (.iload 6, 2), (.ior, 1), (.istore 3, 1), (.iload 4, 2), (.iload 6, 2), (.iand, 1), (.istore 4, 2), (.iinc 5 (1), 3), (.goto 6, 3)]),
  (125, [(.iload 2, 1), (.sipush (1), 1), (.if_icmp .ne 9, 3), (.aload 0, 1), (.multianewarray 160 23, 3), (.iload 3, 1), (.sipush (-1), 1), (.ixor, 1), (.iand, 1), (.goto 10, 3)]),
  (141, [(.iload 4, 2), (.goto 10, 0)]),
  (143, [(.ireturn, 1)])]
def mX7_ahead : ac_M := (yX7_ahead, cX7_ahead, 7, (some .int), 7, 0, 2, (0, 0), [], bX7_ahead, [1673, 83, 1671, 1672], [])
def bX7_common : List (Nat × ac_I) := [(0, [(.iload 1, 1), (.ifCond .ne 1, 3), (.iload 0, 1), (.goto 2, 3)]),
  (8, [(.iload 1, 1), (.iload 0, 1), (.iload 1, 1), (.irem, 1), (.invokeinterface 225 2, 3), (.goto 2, 0)]),
  (15, [(.ireturn, 1)])]
def mX7_common : ac_M := (yX7_common, cX7_common, 2, (some .int), 7, 1, 2, (0, 0), [], bX7_common, [1691, 83, 1690], [])
def bX7_rhythm : List (Nat × ac_I) := [(0, [(.sipush (1), 1), (.istore 1, 1), (.sipush (0), 1), (.istore 2, 1), (.goto 1, 0)]),
  (4, [(.iload 2, 1), (.aload 0, 1), (.multianewarray 159 23, 3), (.if_icmp .ge 3, 3), (.aload 0, 1), (.iload 2, 1), (.sipush (0), 1), (.multianewarray 163 55, 3), (.sipush (6), 2), (.if_icmp .ne 2, 3), (.iload 1, 1), (.iload 1, 1), (.aload 0, 1), (.iload 2, 1), (.sipush (1), 1), (.multianewarray 163 55, 3), (.invokeinterface 225 2, 3), (.idiv, 1), (.aload 0, 1), (.iload 2, 1), (.sipush (1), 1), (.multianewarray 163 55, 3), (.imul, 1), (.istore 1, 1), (.goto 2, 0)]),
  (43, [(.iinc 2 (1), 3), (.goto 1, 3)]),
  (49, [(.iload 1, 1), (.ireturn, 1)])]
def mX7_rhythm : ac_M := (yX7_rhythm, cX7_rhythm, 3, (some .int), 7, 0, 0, (0, 0), [], bX7_rhythm, [1688, 83, 1687, 71], [])
def bX7_ring : List (Nat × ac_I) := [(0, [(.aload 0, 1), (.iload 1, 1), (.i2l, 1), (.ldc2_w 0, 1), (.ldc2_w 1, 1), (.invokeinterface 140 3, 3), (.ifCond .eq 1, 3), (.sipush (0), 1), (.goto 2, 3)]),
  (15, [(.sipush (1), 1), (.goto 2, 0)]),
  (16, [(.putfield 228, 3), (.aload 0, 1), (.getfield 228, 3), (.ifCond .le 3, 3), (.sipush (0), 1), (.ireturn, 1)]),
  (28, [(.aload 0, 1), (.multianewarray 226 23, 3), (.istore 2, 1), (.sipush (0), 1), (.istore 3, 1), (.goto 4, 0)]),
  (35, [(.iload 3, 1), (.aload 0, 1), (.multianewarray 159 23, 3), (.if_icmp .ge 6, 3), (.aload 0, 1), (.iload 3, 1), (.sipush (0), 1), (.multianewarray 163 55, 3), (.sipush (10), 2), (.if_icmp .ne 5, 3), (.sipush (-1), 1), (.ireturn, 1)]),
  (56, [(.iinc 3 (1), 3), (.goto 4, 3)]),
  (62, [(.aload 0, 1), (.getfield 248, 3), (.sipush (0), 1), (.aload 0, 1), (.multianewarray 171 23, 3), (.iastore, 1), (.aload 0, 1), (.multianewarray 168 23, 3), (.sipush (1), 1), (.istore 3, 1), (.goto 7, 0)]),
  (78, [(.iload 3, 1), (.sipush (400), 3), (.if_icmp .gt 13, 3), (.aload 0, 1), (.getfield 248, 3), (.iload 3, 1), (.aload 0, 1), (.multianewarray 169 23, 3), (.iastore, 1), (.sipush (0), 1), (.istore 4, 2), (.goto 8, 0)]),
  (98, [(.iload 4, 2), (.iload 3, 1), (.if_icmp .ge 12, 3), (.aload 0, 1), (.getfield 248, 3), (.iload 4, 2), (.iaload, 1), (.aload 0, 1), (.getfield 248, 3), (.iload 3, 1), (.iaload, 1), (.if_icmp .ne 11, 3), (.iload 3, 1), (.iload 4, 2), (.isub, 1), (.iload 2, 1), (.irem, 1), (.ifCond .ne 11, 3), (.iload 1, 1), (.ifCond .ne 9, 3), (.iload 3, 1), (.iload 4, 2), (.isub, 1), (.goto 10, 3)]),
  (140, [(.iload 4, 2), (.goto 10, 0)]),
  (142, [(.ireturn, 1)]),
  (143, [(.iinc 4 (1), 3), (.goto 8, 3)]),
  (149, [(.iinc 3 (1), 3), (.goto 7, 3)]),
  (155, [(.sipush (-1), 1), (.ireturn, 1)])]
def mX7_ring : ac_M := (yX7_ring, cX7_ring, 5, (some .int), 7, 0, 1, (0, 0), [], bX7_ring, [1684, 83, 1682, 1683], [])
def bX7_worth : List (Nat × ac_I) := [(0, [(.aload 0, 1), (.aload 0, 1), (.iload 1, 1), (.multianewarray 161 39, 3), (.ifCond .ne 1, 3), (.sipush (1), 1), (.goto 3, 3)]),
  (13, [(.iload 2, 1), (.i2l, 1), (.ldc2_w 1, 1), (.ldc2_w 60, 3), (.invokeinterface 140 3, 3), (.ifCond .eq 2, 3), (.sipush (0), 1), (.goto 3, 3)]),
  (29, [(.sipush (2), 1), (.goto 3, 0)]),
  (30, [(.putfield 228, 3), (.aload 0, 1), (.getfield 228, 3), (.ifCond .le 4, 3), (.sipush (0), 1), (.ireturn, 1)]),
  (42, [(.aload 0, 1), (.iload 2, 1), (.multianewarray 223 39, 3), (.istore 3, 1), (.aload 0, 1), (.iload 1, 1), (.sipush (0), 1), (.multianewarray 163 55, 3), (.istore 4, 2), (.aload 0, 1), (.iload 1, 1), (.sipush (3), 1), (.multianewarray 163 55, 3), (.istore 5, 2), (.aload 0, 1), (.getfield 224, 3), (.sipush (6), 2), (.sipush (4), 1), (.iload 1, 1), (.imul, 1), (.iadd, 1), (.sipush (0), 1), (.iadd, 1), (.sipush (1), 1), (.iastore, 1), (.aload 0, 1), (.getfield 224, 3), (.sipush (6), 2), (.sipush (4), 1), (.iload 1, 1), (.imul, 1), (.iadd, 1), (.sipush (3), 1), (.iadd, 1), (.sipush (0), 1), (.iastore, 1), (.aload 0, 1), (.iload 2, 1), (.multianewarray 223 39, 3), (.istore 6, 2), (.aload 0, 1), (.getfield 224, 3), (.sipush (6), 2), (.sipush (4), 1), (.iload 1, 1), (.imul, 1), (.iadd, 1), (.sipush (0), 1), (.iadd, 1), (.iload 4, 2), (.iastore, 1), (.aload 0, 1), (.getfield 224, 3), (.sipush (6), 2), (.sipush (4), 1), (.iload 1, 1), (.imul, 1), (.iadd, 1), (.sipush (3), 1), (.iadd, 1), (.iload 5, 2), (.iastore, 1), (.iload 3, 1), (.iload 6, 2), (.isub, 1), (.ireturn, 1)])]
def mX7_worth : ac_M := (yX7_worth, cX7_worth, 7, (some .int), 7, 0, 2, (0, 0), [], bX7_worth, [1695, 83, 1693, 1694], [])
def bX7_bestQuota : List (Nat × ac_I) := [(0, [(.aload 0, 1), (.sipush (0), 1), (.putfield 228, 3), (.iload 1, 1), (.i2l, 1), (.ldc2_w 1, 1), (.ldc2_w 60, 3), (.invokeinterface 140 3, 3), (.ifCond .ne 1, 3), (.aload 0, 1), (.sipush (1), 1), (.multianewarray 139 39, 3), (.ireturn, 1)]),
  (23, [(.aload 0, 1), (.getfield 224, 3), (.sipush (1), 1), (.iaload, 1), (.istore 2, 1), (.sipush (-1), 1), (.istore 3, 1), (.sipush (-1), 1), (.istore 4, 2), (.sipush (1), 1), (.istore 5, 2), (.goto 2, 0)]),
  (38, [(.iload 5, 2), (.sipush (12), 2), (.if_icmp .gt 5, 3), (.aload 0, 1), (.getfield 224, 3), (.sipush (1), 1), (.iload 5, 2), (.iastore, 1), (.aload 0, 1), (.iload 1, 1), (.multianewarray 223 39, 3), (.istore 6, 2), (.iload 6, 2), (.iload 4, 2), (.if_icmp .gt 3, 3), (.goto 4, 3)]),
  (70, [(.iload 5, 2), (.istore 3, 1), (.iload 6, 2), (.istore 4, 2), (.goto 4, 0)]),
  (77, [(.iinc 5 (1), 3), (.goto 2, 3)]),
  (83, [(.aload 0, 1), (.getfield 224, 3), (.sipush (1), 1), (.iload 2, 1), (.iastore, 1), (.iload 3, 1), (.ireturn, 1)])]
def mX7_bestQuota : ac_M := (yX7_bestQuota, cX7_bestQuota, 7, (some .int), 7, 0, 1, (0, 0), [], bX7_bestQuota, [1699, 83, 1697, 1698], [])
def bX7_isRuled : List (Nat × ac_I) := [(0, [(.iload 0, 1), (.sipush (4), 1), (.if_icmp .lt 1, 3), (.iload 0, 1), (.sipush (10), 2), (.if_icmp .ne 3, 3), (.goto 1, 0)]),
  (11, [(.iload 1, 1), (.ifCond .ne 2, 3), (.sipush (1), 1), (.goto 8, 3)]),
  (19, [(.sipush (0), 1), (.goto 8, 3)]),
  (23, [(.iload 0, 1), (.sipush (6), 2), (.if_icmp .ne 5, 3), (.iload 1, 1), (.ifCond .le 4, 3), (.sipush (1), 1), (.goto 8, 3)]),
  (37, [(.sipush (0), 1), (.goto 8, 3)]),
  (41, [(.iload 0, 1), (.sipush (9), 2), (.if_icmp .ne 6, 3), (.iload 1, 1), (.sipush (6), 2), (.if_icmp .gt 7, 3), (.goto 6, 0)]),
  (53, [(.sipush (1), 1), (.goto 8, 3)]),
  (57, [(.sipush (0), 1), (.goto 8, 0)]),
  (58, [(.ireturn, 1)])]
def mX7_isRuled : ac_M := (yX7_isRuled, cX7_isRuled, 2, (some .boolean), 7, 1, 2, (0, 0), [], bX7_isRuled, [1707, 83, 1706], [])
def ms8 : List ac_M := [mX7_waysGo, mX7_waysOf, mX7_odds, mX7_bestOdds, mX7_chances, mX7_hope, mX7_metAhead, mX7_ahead, mX7_common, mX7_rhythm, mX7_ring, mX7_worth, mX7_bestQuota, mX7_isRuled]
def bX7_bestRule : List (Nat × ac_I) := [(0, [(.aload 0, 1), (.aload 0, 1), (.iload 1, 1), (.multianewarray 161 39, 3), (.ifCond .ne 1, 3), (.sipush (1), 1), (.goto 3, 3)]),
  (13, [(.iload 2, 1), (.i2l, 1), (.ldc2_w 1, 1), (.ldc2_w 30, 3), (.invokeinterface 140 3, 3), (.ifCond .eq 2, 3), (.iload 3, 1), (.i2l, 1), (.ldc2_w 0, 1), (.ldc2_w 2, 3), (.invokeinterface 140 3, 3), (.ifCond .eq 2, 3), (.sipush (0), 1), (.goto 3, 3)]),
  (41, [(.sipush (2), 1), (.goto 3, 0)]),
  (42, [(.putfield 228, 3), (.aload 0, 1), (.getfield 228, 3), (.ifCond .le 4, 3), (.sipush (0), 1), (.ireturn, 1)]),
  (54, [(.sipush (6), 2), (.sipush (4), 1), (.iload 1, 1), (.imul, 1), (.iadd, 1), (.istore 4, 2), (.aload 0, 1), (.getfield 224, 3), (.iload 4, 2), (.sipush (0), 1), (.iadd, 1), (.iaload, 1), (.istore 5, 2), (.aload 0, 1), (.getfield 224, 3), (.iload 4, 2), (.sipush (1), 1), (.iadd, 1), (.iaload, 1), (.istore 6, 2), (.sipush (-1), 1), (.istore 7, 2), (.sipush (0), 1), (.istore 8, 2), (.sipush (0), 1), (.istore 9, 2), (.sipush (0), 1), (.istore 10, 2), (.goto 5, 0)]),
  (96, [(.iload 10, 2), (.sipush (10), 2), (.if_icmp .gt 13, 3), (.sipush (0), 1), (.istore 11, 2), (.goto 6, 0)]),
  (106, [(.iload 11, 2), (.sipush (12), 2), (.if_icmp .gt 12, 3), (.iload 10, 2), (.iload 11, 2), (.invokeinterface 230 2, 3), (.ifCond .ne 7, 3), (.goto 11, 3)]),
  (126, [(.aload 0, 1), (.getfield 224, 3), (.iload 4, 2), (.sipush (0), 1), (.iadd, 1), (.iload 10, 2), (.iastore, 1), (.aload 0, 1), (.getfield 224, 3), (.iload 4, 2), (.sipush (1), 1), (.iadd, 1), (.iload 11, 2), (.iastore, 1), (.aload 0, 1), (.multianewarray 168 23, 3), (.sipush (0), 1), (.istore 12, 2), (.sipush (0), 1), (.istore 13, 2), (.goto 8, 0)]),
  (158, [(.iload 13, 2), (.iload 2, 1), (.if_icmp .ge 9, 3), (.iload 12, 2), (.aload 0, 1), (.aload 0, 1), (.multianewarray 169 23, 3), (.iload 1, 1), (.multianewarray 165 55, 3), (.iadd, 1), (.istore 12, 2), (.iinc 13 (1), 3), (.goto 8, 3)]),
  (184, [(.iload 7, 2), (.sipush (-1), 1), (.if_icmp .eq 10, 3), (.iload 12, 2), (.iload 9, 2), (.if_icmp .gt 10, 3), (.goto 11, 3)]),
  (200, [(.iload 10, 2), (.istore 7, 2), (.iload 11, 2), (.istore 8, 2), (.iload 12, 2), (.istore 9, 2), (.goto 11, 0)]),
  (212, [(.iinc 11 (1), 3), (.goto 6, 3)]),
  (218, [(.iinc 10 (1), 3), (.goto 5, 3)]),
  (224, [(.aload 0, 1), (.getfield 224, 3), (.iload 4, 2), (.sipush (0), 1), (.iadd, 1), (.iload 5, 2), (.iastore, 1), (.aload 0, 1), (.getfield 224, 3), (.iload 4, 2), (.sipush (1), 1), (.iadd, 1), (.iload 6, 2), (.iastore, 1), (.iload 3, 1), (.ifCond .ne 14, 3), (.iload 7, 2), (.goto 16, 3)]),
  (255, [(.iload 3, 1), (.sipush (1), 1), (.if_icmp .ne 15, 3), (.iload 8, 2), (.goto 16, 3)]),
  (265, [(.iload 9, 2), (.goto 16, 0)]),
  (267, [(.ireturn, 1)])]
def mX7_bestRule : ac_M := (yX7_bestRule, cX7_bestRule, 14, (some .int), 7, 0, 3, (0, 0), [], bX7_bestRule, [1703, 83, 1701, 1702], [])
def bX7_streak : List (Nat × ac_I) := [(0, [(.aload 0, 1), (.iload 1, 1), (.i2l, 1), (.ldc2_w 0, 1), (.ldc2_w 1, 1), (.invokeinterface 140 3, 3), (.ifCond .eq 1, 3), (.sipush (0), 1), (.goto 2, 3)]),
  (15, [(.sipush (1), 1), (.goto 2, 0)]),
  (16, [(.putfield 228, 3), (.aload 0, 1), (.getfield 228, 3), (.ifCond .le 3, 3), (.sipush (0), 1), (.ireturn, 1)]),
  (28, [(.sipush (0), 1), (.istore 2, 1), (.sipush (-1), 1), (.istore 3, 1), (.sipush (0), 1), (.istore 4, 2), (.sipush (0), 1), (.istore 5, 2), (.goto 4, 0)]),
  (38, [(.iload 5, 2), (.aload 0, 1), (.getfield 224, 3), (.sipush (5), 1), (.iaload, 1), (.if_icmp .ge 9, 3), (.aload 0, 1), (.aload 0, 1), (.getfield 224, 3), (.sipush (54), 2), (.iload 5, 2), (.iadd, 1), (.iaload, 1), (.multianewarray 164 39, 3), (.ifCond .eq 5, 3), (.iload 4, 2), (.sipush (1), 1), (.iadd, 1), (.goto 6, 3)]),
  (73, [(.sipush (0), 1), (.goto 6, 0)]),
  (74, [(.istore 4, 2), (.iload 4, 2), (.iload 2, 1), (.if_icmp .gt 7, 3), (.goto 8, 3)]),
  (85, [(.iload 4, 2), (.istore 2, 1), (.iload 5, 2), (.iload 4, 2), (.isub, 1), (.sipush (1), 1), (.iadd, 1), (.istore 3, 1), (.goto 8, 0)]),
  (96, [(.iinc 5 (1), 3), (.goto 4, 3)]),
  (102, [(.iload 1, 1), (.ifCond .ne 10, 3), (.iload 2, 1), (.goto 11, 3)]),
  (110, [(.iload 3, 1), (.goto 11, 0)]),
  (111, [(.ireturn, 1)])]
def mX7_streak : ac_M := (yX7_streak, cX7_streak, 6, (some .int), 7, 0, 1, (0, 0), [], bX7_streak, [1711, 83, 1709, 1710], [])
def bX7_tally : List (Nat × ac_I) := [(0, [(.aload 0, 1), (.sipush (0), 1), (.putfield 228, 3), (.sipush (0), 1), (.istore 2, 1), (.sipush (0), 1), (.istore 3, 1), (.goto 1, 0)]),
  (9, [(.iload 3, 1), (.aload 0, 1), (.getfield 224, 3), (.sipush (5), 1), (.iaload, 1), (.if_icmp .ge 4, 3), (.iload 2, 1), (.aload 0, 1), (.getfield 224, 3), (.sipush (54), 2), (.iload 3, 1), (.iadd, 1), (.iaload, 1), (.invokeinterface 142 1, 3), (.iload 1, 1), (.if_icmp .ne 2, 3), (.sipush (1), 1), (.goto 3, 3)]),
  (40, [(.sipush (0), 1), (.goto 3, 0)]),
  (41, [(.iadd, 1), (.istore 2, 1), (.iinc 3 (1), 3), (.goto 1, 3)]),
  (49, [(.iload 2, 1), (.ireturn, 1)])]
def mX7_tally : ac_M := (yX7_tally, cX7_tally, 4, (some .int), 7, 0, 1, (0, 0), [], bX7_tally, [1715, 83, 1713, 1714], [])
def bX7_bothCame : List (Nat × ac_I) := [(0, [(.sipush (0), 1), (.istore 3, 1), (.sipush (0), 1), (.istore 4, 2), (.goto 1, 0)]),
  (5, [(.iload 4, 2), (.aload 0, 1), (.getfield 224, 3), (.sipush (5), 1), (.iaload, 1), (.if_icmp .ge 4, 3), (.iload 3, 1), (.aload 0, 1), (.getfield 224, 3), (.sipush (54), 2), (.iload 4, 2), (.iadd, 1), (.iaload, 1), (.iload 1, 1), (.invokeinterface 141 2, 3), (.ifCond .eq 2, 3), (.aload 0, 1), (.getfield 224, 3), (.sipush (54), 2), (.iload 4, 2), (.iadd, 1), (.iaload, 1), (.iload 2, 1), (.invokeinterface 141 2, 3), (.ifCond .eq 2, 3), (.sipush (1), 1), (.goto 3, 3)]),
  (55, [(.sipush (0), 1), (.goto 3, 0)]),
  (56, [(.iadd, 1), (.istore 3, 1), (.iinc 4 (1), 3), (.goto 1, 3)]),
  (64, [(.iload 3, 1), (.ireturn, 1)])]
def mX7_bothCame : ac_M := (yX7_bothCame, cX7_bothCame, 5, (some .int), 7, 0, 2, (0, 0), [], bX7_bothCame, [1723, 83, 1722, 72], [])
def bX7_together : List (Nat × ac_I) := [(0, [(.aload 0, 1), (.sipush (0), 1), (.putfield 228, 3), (.aload 0, 1), (.iload 1, 1), (.multianewarray 161 39, 3), (.ifCond .eq 1, 3), (.aload 0, 1), (.iload 2, 1), (.multianewarray 161 39, 3), (.ifCond .eq 1, 3), (.aload 0, 1), (.iload 1, 1), (.iload 2, 1), (.multianewarray 234 55, 3), (.goto 2, 3)]),
  (30, [(.aload 0, 1), (.sipush (1), 1), (.multianewarray 139 39, 3), (.goto 2, 0)]),
  (35, [(.ireturn, 1)])]
def mX7_together : ac_M := (yX7_together, cX7_together, 3, (some .int), 7, 0, 2, (0, 0), [], bX7_together, [1719, 83, 1717, 1718], [])
def bX7_friends : List (Nat × ac_I) := [(0, [(.aload 0, 1), (.sipush (0), 1), (.putfield 228, 3), (.sipush (-1), 1), (.istore 1, 1), (.sipush (0), 1), (.istore 2, 1), (.sipush (0), 1), (.istore 3, 1), (.goto 1, 0)]),
  (11, [(.iload 3, 1), (.aload 0, 1), (.multianewarray 159 23, 3), (.if_icmp .ge 6, 3), (.iload 3, 1), (.sipush (1), 1), (.iadd, 1), (.istore 4, 2), (.goto 2, 0)]),
  (24, [(.iload 4, 2), (.aload 0, 1), (.multianewarray 159 23, 3), (.if_icmp .ge 5, 3), (.aload 0, 1), (.iload 3, 1), (.iload 4, 2), (.multianewarray 234 55, 3), (.iload 2, 1), (.if_icmp .gt 3, 3), (.goto 4, 3)]),
  (47, [(.sipush (100), 2), (.iload 3, 1), (.imul, 1), (.iload 4, 2), (.iadd, 1), (.istore 1, 1), (.aload 0, 1), (.iload 3, 1), (.iload 4, 2), (.multianewarray 234 55, 3), (.istore 2, 1), (.goto 4, 0)]),
  (63, [(.iinc 4 (1), 3), (.goto 2, 3)]),
  (69, [(.iinc 3 (1), 3), (.goto 1, 3)]),
  (75, [(.iload 1, 1), (.ireturn, 1)])]
def mX7_friends : ac_M := (yX7_friends, cX7_friends, 5, (some .int), 7, 0, 0, (0, 0), [], bX7_friends, [1727, 83, 1725, 1726], [])
def bX7_doubts : List (Nat × ac_I) := [(0, [(.aload 0, 1), (.aload 0, 1), (.iload 1, 1), (.multianewarray 161 39, 3), (.ifCond .eq 1, 3), (.aload 0, 1), (.iload 2, 1), (.multianewarray 181 39, 3), (.ifCond .eq 1, 3), (.sipush (0), 1), (.goto 2, 3)]),
  (21, [(.sipush (1), 1), (.goto 2, 0)]),
  (22, [(.putfield 228, 3), (.aload 0, 1), (.getfield 228, 3), (.ifCond .le 3, 3), (.sipush (0), 1), (.ireturn, 1)]),
  (34, [(.aload 0, 1), (.iload 1, 1), (.sipush (0), 1), (.multianewarray 163 55, 3), (.sipush (7), 2), (.if_icmp .eq 4, 3), (.aload 0, 1), (.iload 1, 1), (.sipush (0), 1), (.multianewarray 163 55, 3), (.sipush (8), 2), (.if_icmp .eq 4, 3), (.sipush (-1), 1), (.ireturn, 1)]),
  (58, [(.aload 0, 1), (.getfield 224, 3), (.sipush (54), 2), (.iload 2, 1), (.iadd, 1), (.iaload, 1), (.istore 3, 1), (.aload 0, 1), (.iload 1, 1), (.iload 3, 1), (.sipush (0), 1), (.multianewarray 174 71, 3), (.istore 4, 2), (.sipush (0), 1), (.istore 5, 2), (.sipush (1), 1), (.istore 6, 2), (.sipush (0), 1), (.istore 7, 2), (.goto 5, 0)]),
  (86, [(.iload 7, 2), (.iload 4, 2), (.if_icmp .gt 12, 3), (.aload 0, 1), (.iload 1, 1), (.sipush (0), 1), (.multianewarray 163 55, 3), (.sipush (7), 2), (.if_icmp .ne 7, 3), (.iload 7, 2), (.aload 0, 1), (.iload 1, 1), (.sipush (1), 1), (.multianewarray 163 55, 3), (.if_icmp .ge 6, 3), (.sipush (1), 1), (.goto 9, 3)]),
  (119, [(.sipush (0), 1), (.goto 9, 3)]),
  (123, [(.iload 7, 2), (.aload 0, 1), (.iload 1, 1), (.sipush (1), 1), (.multianewarray 163 55, 3), (.if_icmp .ne 8, 3), (.sipush (1), 1), (.goto 9, 3)]),
  (138, [(.sipush (0), 1), (.goto 9, 0)]),
  (139, [(.istore 8, 2), (.iload 5, 2), (.iload 8, 2), (.iload 3, 1), (.iload 1, 1), (.invokeinterface 141 2, 3), (.if_icmp .ne 10, 3), (.iload 6, 2), (.goto 11, 3)]),
  (158, [(.sipush (0), 1), (.goto 11, 0)]),
  (159, [(.iadd, 1), (.istore 5, 2), (.iload 6, 2), (.iload 4, 2), (.iload 7, 2), (.isub, 1), (.imul, 1), (.iload 7, 2), (.sipush (1), 1), (.iadd, 1), (.idiv, 1), (.istore 6, 2), (.iinc 7 (1), 3), (.goto 5, 3)]),
  (183, [(.iload 5, 2), (.ireturn, 1)])]
def mX7_doubts : ac_M := (yX7_doubts, cX7_doubts, 9, (some .int), 7, 0, 2, (0, 0), [], bX7_doubts, [1731, 83, 1729, 1730], [])
def bX7_guessOf : List (Nat × ac_I) := [(0, [(.sipush (0), 1), (.istore 3, 1), (.sipush (0), 1), (.istore 4, 2), (.sipush (0), 1), (.istore 5, 2), (.sipush (0), 1), (.istore 6, 2), (.goto 1, 0)]),
  (11, [(.iload 6, 2), (.iload 2, 1), (.if_icmp .ge 8, 3), (.sipush (0), 1), (.istore 7, 2), (.aload 0, 1), (.getfield 224, 3), (.sipush (54), 2), (.iload 6, 2), (.iadd, 1), (.iaload, 1), (.invokeinterface 142 1, 3), (.istore 8, 2), (.sipush (0), 1), (.istore 9, 2), (.goto 2, 0)]),
  (38, [(.iload 9, 2), (.iload 2, 1), (.if_icmp .ge 5, 3), (.iload 7, 2), (.aload 0, 1), (.getfield 224, 3), (.sipush (54), 2), (.iload 9, 2), (.iadd, 1), (.iaload, 1), (.invokeinterface 142 1, 3), (.iload 8, 2), (.if_icmp .ne 3, 3), (.sipush (1), 1), (.goto 4, 3)]),
  (68, [(.sipush (0), 1), (.goto 4, 0)]),
  (69, [(.iadd, 1), (.istore 7, 2), (.iinc 9 (1), 3), (.goto 2, 3)]),
  (78, [(.iload 3, 1), (.iload 8, 2), (.iadd, 1), (.istore 3, 1), (.iload 7, 2), (.iload 5, 2), (.if_icmp .lt 7, 3), (.iload 7, 2), (.iload 5, 2), (.if_icmp .ne 6, 3), (.iload 8, 2), (.iload 4, 2), (.if_icmp .lt 6, 3), (.goto 7, 3)]),
  (107, [(.iload 8, 2), (.istore 4, 2), (.iload 7, 2), (.istore 5, 2), (.goto 7, 0)]),
  (115, [(.iinc 6 (1), 3), (.goto 1, 3)]),
  (121, [(.iload 1, 1), (.ifCond .ne 9, 3), (.aload 0, 1), (.getfield 224, 3), (.sipush (54), 2), (.iload 2, 1), (.iadd, 1), (.sipush (1), 1), (.isub, 1), (.iaload, 1), (.invokeinterface 142 1, 3), (.goto 12, 3)]),
  (142, [(.iload 1, 1), (.sipush (1), 1), (.if_icmp .ne 10, 3), (.iload 3, 1), (.iload 2, 1), (.idiv, 1), (.goto 12, 3)]),
  (153, [(.iload 1, 1), (.sipush (2), 1), (.if_icmp .ne 11, 3), (.iload 4, 2), (.goto 12, 3)]),
  (163, [(.aload 0, 1), (.getfield 224, 3), (.sipush (1), 1), (.iaload, 1), (.goto 12, 0)]),
  (169, [(.ireturn, 1)])]
def mX7_guessOf : ac_M := (yX7_guessOf, cX7_guessOf, 10, (some .int), 7, 0, 2, (0, 0), [], bX7_guessOf, [1739, 83, 1738, 73], [])
def bX7_cook : List (Nat × ac_I) := [(0, [(.aload 0, 1), (.sipush (0), 1), (.putfield 228, 3), (.iload 1, 1), (.i2l, 1), (.ldc2_w 0, 1), (.ldc2_w 3, 3), (.invokeinterface 140 3, 3), (.ifCond .ne 1, 3), (.aload 0, 1), (.sipush (1), 1), (.multianewarray 139 39, 3), (.ireturn, 1)]),
  (23, [(.sipush (0), 1), (.istore 2, 1), (.sipush (1), 1), (.istore 3, 1), (.goto 2, 0)]),
  (27, [(.iload 3, 1), (.aload 0, 1), (.getfield 224, 3), (.sipush (5), 1), (.iaload, 1), (.if_icmp .ge 3, 3), (.iload 2, 1), (.aload 0, 1), (.getfield 224, 3), (.sipush (54), 2), (.iload 3, 1), (.iadd, 1), (.iaload, 1), (.invokeinterface 142 1, 3), (.aload 0, 1), (.iload 1, 1), (.iload 3, 1), (.multianewarray 238 55, 3), (.isub, 1), (.invokeinterface 252 1, 3), (.iadd, 1), (.istore 2, 1), (.iinc 3 (1), 3), (.goto 2, 3)]),
  (68, [(.iload 2, 1), (.ireturn, 1)])]
def mX7_cook : ac_M := (yX7_cook, cX7_cook, 4, (some .int), 7, 0, 1, (0, 0), [], bX7_cook, [1735, 83, 1733, 1734], [])
def bX7_guess : List (Nat × ac_I) := [(0, [(.aload 0, 1), (.sipush (0), 1), (.putfield 228, 3), (.iload 1, 1), (.i2l, 1), (.ldc2_w 0, 1), (.ldc2_w 3, 3), (.invokeinterface 140 3, 3), (.ifCond .ne 1, 3), (.aload 0, 1), (.sipush (1), 1), (.multianewarray 139 39, 3), (.ireturn, 1)]),
  (23, [(.aload 0, 1), (.getfield 224, 3), (.sipush (5), 1), (.iaload, 1), (.ifCond .ne 2, 3), (.sipush (-1), 1), (.goto 3, 3)]),
  (36, [(.aload 0, 1), (.iload 1, 1), (.aload 0, 1), (.getfield 224, 3), (.sipush (5), 1), (.iaload, 1), (.multianewarray 238 55, 3), (.goto 3, 0)]),
  (47, [(.ireturn, 1)])]
def mX7_guess : ac_M := (yX7_guess, cX7_guess, 2, (some .int), 7, 0, 1, (0, 0), [], bX7_guess, [1744, 83, 1742, 1743], [])
def bX7_isTray : List (Nat × ac_I) := [(0, [(.iload 0, 1), (.i2l, 1), (.ldc2_w 0, 1), (.ldc2_w 3, 3), (.invokeinterface 140 3, 3), (.ireturn, 1)])]
def mX7_isTray : ac_M := (yX7_isTray, cX7_isTray, 1, (some .boolean), 7, 1, 1, (0, 0), [], bX7_isTray, [1533, 83, 1532], [])
def bX7_tray : List (Nat × ac_I) := [(0, [(.aload 0, 1), (.iload 1, 1), (.invokeinterface 241 1, 3), (.ifCond .ne 1, 3), (.sipush (1), 1), (.goto 4, 3)]),
  (12, [(.iload 2, 1), (.i2l, 1), (.ldc2_w 0, 1), (.ldc2_w 3, 3), (.invokeinterface 140 3, 3), (.ifCond .eq 2, 3), (.iload 3, 1), (.i2l, 1), (.ldc2_w 0, 1), (.ldc2_w 60, 3), (.invokeinterface 140 3, 3), (.ifCond .ne 3, 3), (.goto 2, 0)]),
  (36, [(.sipush (2), 1), (.goto 4, 3)]),
  (40, [(.sipush (0), 1), (.goto 4, 0)]),
  (41, [(.putfield 228, 3), (.aload 0, 1), (.getfield 228, 3), (.ifCond .le 5, 3), (.return_, 1)]),
  (52, [(.aload 0, 1), (.getfield 249, 3), (.iload 1, 1), (.iload 2, 1), (.iastore, 1), (.aload 0, 1), (.getfield 250, 3), (.iload 1, 1), (.iload 3, 1), (.iastore, 1), (.sipush (0), 1), (.istore 4, 2), (.goto 6, 0)]),
  (69, [(.iload 4, 2), (.sipush (60), 2), (.if_icmp .ge 7, 3), (.aload 0, 1), (.getfield 251, 3), (.sipush (60), 2), (.iload 1, 1), (.imul, 1), (.iload 4, 2), (.iadd, 1), (.ldc2_w 0, 1), (.lastore, 1), (.iinc 4 (1), 3), (.goto 6, 3)]),
  (95, [(.return_, 1)])]
def mX7_tray : ac_M := (yX7_tray, cX7_tray, 5, none, 7, 0, 3, (0, 0), [], bX7_tray, [1748, 83, 1746, 1747], [])
def bX7_cut : List (Nat × ac_I) := [(0, [(.sipush (64), 2), (.sipush (8), 2), (.aload 0, 1), (.getfield 249, 3), (.iload 1, 1), (.iaload, 1), (.ishl, 1), (.isub, 1), (.istore 5, 2), (.aload 0, 1), (.getfield 251, 3), (.sipush (60), 2), (.iload 1, 1), (.imul, 1), (.iload 2, 1), (.iadd, 1), (.lload 3, 1), (.iload 5, 2), (.lshl, 1), (.iload 5, 2), (.lshr, 1), (.lastore, 1), (.aload 0, 1), (.getfield 251, 3), (.sipush (60), 2), (.iload 1, 1), (.imul, 1), (.iload 2, 1), (.iadd, 1), (.laload, 1), (.lreturn, 1)])]
def mX7_cut : ac_M := (yX7_cut, cX7_cut, 6, (some .long), 7, 0, 3, (0, 0), [], bX7_cut, [1756, 83, 1755, 74], [])
def bX7_write : List (Nat × ac_I) := [(0, [(.aload 0, 1), (.aload 0, 1), (.iload 1, 1), (.multianewarray 188 39, 3), (.putfield 228, 3), (.aload 0, 1), (.getfield 228, 3), (.ifCond .le 1, 3), (.ldc2_w 0, 1), (.lreturn, 1)]),
  (18, [(.iload 2, 1), (.i2l, 1), (.ldc2_w 0, 1), (.aload 0, 1), (.getfield 250, 3), (.iload 1, 1), (.iaload, 1), (.sipush (1), 1), (.isub, 1), (.i2l, 1), (.invokeinterface 140 3, 3), (.ifCond .eq 2, 3), (.aload 0, 1), (.iload 1, 1), (.iload 2, 1), (.lload 3, 1), (.multianewarray 243 71, 3), (.goto 3, 3)]),
  (46, [(.aload 0, 1), (.sipush (3), 1), (.multianewarray 139 39, 3), (.i2l, 1), (.goto 3, 0)]),
  (52, [(.lreturn, 1)])]
def mX7_write : ac_M := (yX7_write, cX7_write, 5, (some .long), 7, 0, 3, (0, 0), [], bX7_write, [1752, 83, 1750, 1751], [])
def bX7_pour : List (Nat × ac_I) := [(0, [(.aload 0, 1), (.aload 0, 1), (.iload 1, 1), (.multianewarray 188 39, 3), (.putfield 228, 3), (.aload 0, 1), (.getfield 228, 3), (.ifCond .le 1, 3), (.sipush (0), 1), (.ireturn, 1)]),
  (18, [(.aload 0, 1), (.getfield 250, 3), (.iload 1, 1), (.iaload, 1), (.aload 0, 1), (.getfield 224, 3), (.sipush (5), 1), (.iaload, 1), (.invokeinterface 255 2, 3), (.istore 2, 1), (.sipush (0), 1), (.istore 3, 1), (.goto 2, 0)]),
  (36, [(.iload 3, 1), (.iload 2, 1), (.if_icmp .ge 3, 3), (.aload 0, 1), (.iload 1, 1), (.iload 3, 1), (.aload 0, 1), (.getfield 224, 3), (.sipush (54), 2), (.iload 3, 1), (.iadd, 1), (.iaload, 1), (.i2l, 1), (.multianewarray 243 71, 3), (.pop2, 1), (.iinc 3 (1), 3), (.goto 2, 3)]),
  (64, [(.iload 2, 1), (.ireturn, 1)])]
def mX7_pour : ac_M := (yX7_pour, cX7_pour, 4, (some .int), 7, 0, 1, (0, 0), [], bX7_pour, [1760, 83, 1758, 1759], [])
def bX7_image : List (Nat × ac_I) := [(0, [(.aload 0, 1), (.iload 1, 1), (.i2l, 1), (.ldc2_w 0, 1), (.ldc2_w 2, 3), (.invokeinterface 140 3, 3), (.ifCond .eq 1, 3), (.sipush (0), 1), (.goto 2, 3)]),
  (17, [(.sipush (1), 1), (.goto 2, 0)]),
  (18, [(.putfield 228, 3), (.aload 0, 1), (.getfield 228, 3), (.ifCond .le 3, 3), (.return_, 1)]),
  (29, [(.aload 0, 1), (.getfield 227, 3), (.iload 1, 1), (.sipush (1), 1), (.bastore, 1), (.sipush (0), 1), (.istore 2, 1), (.goto 4, 0)]),
  (38, [(.iload 2, 1), (.sipush (114), 2), (.if_icmp .ge 5, 3), (.aload 0, 1), (.getfield 226, 3), (.sipush (114), 2), (.iload 1, 1), (.imul, 1), (.iload 2, 1), (.iadd, 1), (.aload 0, 1), (.getfield 224, 3), (.iload 2, 1), (.iaload, 1), (.iastore, 1), (.iinc 2 (1), 3), (.goto 4, 3)]),
  (67, [(.return_, 1)])]
def mX7_image : ac_M := (yX7_image, cX7_image, 3, none, 7, 0, 1, (0, 0), [], bX7_image, [1765, 83, 1763, 1764], [])
def bX7_restore : List (Nat × ac_I) := [(0, [(.aload 0, 1), (.iload 1, 1), (.i2l, 1), (.ldc2_w 0, 1), (.ldc2_w 2, 3), (.invokeinterface 140 3, 3), (.ifCond .ne 1, 3), (.sipush (1), 1), (.goto 3, 3)]),
  (17, [(.aload 0, 1), (.getfield 227, 3), (.iload 1, 1), (.baload, 1), (.ifCond .ne 2, 3), (.sipush (2), 1), (.goto 3, 3)]),
  (30, [(.sipush (0), 1), (.goto 3, 0)]),
  (31, [(.putfield 228, 3), (.aload 0, 1), (.getfield 228, 3), (.ifCond .le 4, 3), (.return_, 1)]),
  (42, [(.sipush (0), 1), (.istore 2, 1), (.goto 5, 0)]),
  (44, [(.iload 2, 1), (.sipush (114), 2), (.if_icmp .ge 6, 3), (.aload 0, 1), (.getfield 224, 3), (.iload 2, 1), (.aload 0, 1), (.getfield 226, 3), (.sipush (114), 2), (.iload 1, 1), (.imul, 1), (.iload 2, 1), (.iadd, 1), (.iaload, 1), (.iastore, 1), (.iinc 2 (1), 3), (.goto 5, 3)]),
  (73, [(.return_, 1)])]
def mX7_restore : ac_M := (yX7_restore, cX7_restore, 3, none, 7, 0, 1, (0, 0), [], bX7_restore, [1769, 83, 1767, 1768], [])
def ms9 : List ac_M := [mX7_bestRule, mX7_streak, mX7_tally, mX7_bothCame, mX7_together, mX7_friends, mX7_doubts, mX7_guessOf, mX7_cook, mX7_guess, mX7_isTray, mX7_tray, mX7_cut, mX7_write, mX7_pour, mX7_image, mX7_restore]
def bX7_count : List (Nat × ac_I) := [(0, [(.aload 0, 1), (.sipush (0), 1), (.putfield 228, 3), (.sipush (0), 1), (.istore 2, 1), (.sipush (0), 1), (.istore 3, 1), (.goto 1, 0)]),
  (9, [(.iload 3, 1), (.aload 0, 1), (.getfield 224, 3), (.sipush (5), 1), (.iaload, 1), (.if_icmp .ge 4, 3), (.iload 2, 1), (.aload 0, 1), (.aload 0, 1), (.getfield 224, 3), (.sipush (54), 2), (.iload 3, 1), (.iadd, 1), (.iaload, 1), (.multianewarray 164 39, 3), (.ifCond .eq 2, 3), (.sipush (1), 1), (.goto 3, 3)]),
  (40, [(.sipush (0), 1), (.goto 3, 0)]),
  (41, [(.iadd, 1), (.istore 2, 1), (.iinc 3 (1), 3), (.goto 1, 3)]),
  (49, [(.iload 1, 1), (.tableswitch 13 0 7 #[5, 6, 7, 8, 9, 10, 11, 12], 46)]),
  (96, [(.aload 0, 1), (.getfield 224, 3), (.sipush (0), 1), (.iaload, 1), (.ireturn, 1)]),
  (103, [(.aload 0, 1), (.getfield 224, 3), (.sipush (1), 1), (.iaload, 1), (.ireturn, 1)]),
  (110, [(.aload 0, 1), (.getfield 224, 3), (.sipush (2), 1), (.iaload, 1), (.ireturn, 1)]),
  (117, [(.aload 0, 1), (.getfield 224, 3), (.sipush (3), 1), (.iaload, 1), (.ireturn, 1)]),
  (124, [(.aload 0, 1), (.multianewarray 159 23, 3), (.ireturn, 1)]),
  (129, [(.aload 0, 1), (.getfield 224, 3), (.sipush (5), 1), (.iaload, 1), (.ireturn, 1)]),
  (136, [(.iload 2, 1), (.ireturn, 1)]),
  (138, [(.aload 0, 1), (.getfield 230, 3), (.ireturn, 1)]),
  (143, [(.sipush (-1), 1), (.ireturn, 1)])]
def mX7_count : ac_M := (yX7_count, cX7_count, 4, (some .int), 7, 0, 1, (0, 0), [], bX7_count, [1773, 83, 1771, 1772], [])
def bJ6_bitCount_0f7a4 : List (Nat × ac_I) := [(0, [(.iload 0, 1), (.iload 0, 1), (.sipush (1), 1), (.iushr, 1), (.sipush (1431655765), 3), (.iand, 1), (.isub, 1), (.istore 0, 1), (.iload 0, 1), (.sipush (858993459), 3), (.iand, 1), (.iload 0, 1), (.sipush (2), 1), (.iushr, 1), (.sipush (858993459), 3), (.iand, 1), (.iadd, 1), (.istore 0, 1), (.iload 0, 1), (.iload 0, 1), (.sipush (4), 1), (.iushr, 1), (.iadd, 1), (.sipush (252645135), 3), (.iand, 1), (.istore 0, 1), (.iload 0, 1), (.iload 0, 1), (.sipush (8), 2), (.iushr, 1), (.iadd, 1), (.istore 0, 1), (.iload 0, 1), (.iload 0, 1), (.sipush (16), 2), (.iushr, 1), (.iadd, 1), (.istore 0, 1), (.iload 0, 1), (.sipush (63), 2), (.iand, 1), (.ireturn, 1)])]
def mJ6_bitCount_0f7a4 : ac_M := (yJ6_bitCount_0f7a4, cJ6_bitCount_0f7a4, 1, (some .int), 9, 1, 1, (0, 0), [], bJ6_bitCount_0f7a4, [395, 93, 394], [])
def bJ9_floorDiv_f86c9 : List (Nat × ac_I) := [(0, [(.lload 0, 1), (.lload 2, 1), (.ldiv, 1), (.lstore 4, 2), (.lload 0, 1), (.lload 2, 1), (.lxor, 1), (.ldc2_w 0, 1), (.lcmp, 1), (.ifCond .ge 1, 3), (.lload 4, 2), (.lload 2, 1), (.lmul, 1), (.lload 0, 1), (.lcmp, 1), (.ifCond .eq 1, 3), (.lload 4, 2), (.ldc2_w 1, 1), (.lsub, 1), (.lreturn, 1)]),
  (27, [(.lload 4, 2), (.lreturn, 1)])]
def mJ9_floorDiv_f86c9 : ac_M := (yJ9_floorDiv_f86c9, cJ9_floorDiv_f86c9, 6, (some .long), 10, 1, 2, (0, 0), [], bJ9_floorDiv_f86c9, [1023, 95, 1022], [])
def bJ9_floorMod_f86c9 : List (Nat × ac_I) := [(0, [(.lload 0, 1), (.lload 2, 1), (.lrem, 1), (.lstore 4, 2), (.lload 0, 1), (.lload 2, 1), (.lxor, 1), (.ldc2_w 0, 1), (.lcmp, 1), (.ifCond .ge 1, 3), (.lload 4, 2), (.ldc2_w 0, 1), (.lcmp, 1), (.ifCond .eq 1, 3), (.lload 4, 2), (.lload 2, 1), (.ladd, 1), (.lreturn, 1)]),
  (25, [(.lload 4, 2), (.lreturn, 1)])]
def mJ9_floorMod_f86c9 : ac_M := (yJ9_floorMod_f86c9, cJ9_floorMod_f86c9, 6, (some .long), 10, 1, 2, (0, 0), [], bJ9_floorMod_f86c9, [1026, 95, 1025], [])
def bJ9_abs_0f7a4 : List (Nat × ac_I) := [(0, [(.iload 0, 1), (.ifCond .ge 1, 3), (.iload 0, 1), (.ineg, 1), (.goto 2, 3)]),
  (9, [(.iload 0, 1), (.goto 2, 0)]),
  (10, [(.ireturn, 1)])]
def mJ9_abs_0f7a4 : ac_M := (Lib.Math.abs.name, Lib.Math.abs.code, 1, (some .int), 10, 1, 1, (0, 0), [], bJ9_abs_0f7a4, [1140, 95, 1139], [])
def bJ9_max_7cf53 : List (Nat × ac_I) := [(0, [(.iload 0, 1), (.iload 1, 1), (.if_icmp .lt 1, 3), (.iload 0, 1), (.goto 2, 3)]),
  (9, [(.iload 1, 1), (.goto 2, 0)]),
  (10, [(.ireturn, 1)])]
def mJ9_max_7cf53 : ac_M := (Lib.Math.max.name, Lib.Math.max.code, 2, (some .int), 10, 1, 2, (0, 0), [], bJ9_max_7cf53, [922, 95, 921], [])
def bJ9_max_f86c9 : List (Nat × ac_I) := [(0, [(.lload 0, 1), (.lload 2, 1), (.lcmp, 1), (.ifCond .lt 1, 3), (.lload 0, 1), (.goto 2, 3)]),
  (10, [(.lload 2, 1), (.goto 2, 0)]),
  (11, [(.lreturn, 1)])]
def mJ9_max_f86c9 : ac_M := (Lib.MathLoose.max_long.x, Lib.MathLoose.max_long.code, 4, (some .long), 10, 1, 2, (0, 0), [], bJ9_max_f86c9, [1020, 95, 1019], [])
def bJ9_min_7cf53 : List (Nat × ac_I) := [(0, [(.iload 0, 1), (.iload 1, 1), (.if_icmp .gt 1, 3), (.iload 0, 1), (.goto 2, 3)]),
  (9, [(.iload 1, 1), (.goto 2, 0)]),
  (10, [(.ireturn, 1)])]
def mJ9_min_7cf53 : ac_M := (Lib.Math.min.name, Lib.Math.min.code, 2, (some .int), 10, 1, 2, (0, 0), [], bJ9_min_7cf53, [1199, 95, 1198], [])
def bL_club : List (Nat × ac_I) := [(0, [(.aload 2, 1), (.sipush (0), 1), (.aload 0, 1), (.iload 1, 1), (.putstatic 18470, 3), (.i2l, 1), (.lastore, 1), (.goto 1, 3)]),
  (15, [(.sipush (0), 1), (.ireturn, 1)])]
def mL_club : ac_M := (yL_club, cL_club, 4, (some .int), 8, 6, 3, (1, 6), [(0, 1)], bL_club, [505, 75, 504], [(0, 9, 12, 13)])
def bL_member : List (Nat × ac_I) := [(0, [(.aload 3, 1), (.sipush (0), 1), (.aload 0, 1), (.iload 1, 1), (.iload 2, 1), (.putstatic 18998, 3), (.i2l, 1), (.lastore, 1), (.goto 1, 3)]),
  (21, [(.sipush (0), 1), (.ireturn, 1)])]
def mL_member : ac_M := (yL_member, cL_member, 5, (some .int), 8, 6, 4, (2, 12), [(1, 1), (0, 2)], bL_member, [710, 75, 709], [(0, 10, 13, 19), (0, 10, 17, 13)])
def bL_quota : List (Nat × ac_I) := [(0, [(.aload 2, 1), (.sipush (0), 1), (.aload 0, 1), (.iload 1, 1), (.putstatic 19238, 3), (.i2l, 1), (.lastore, 1), (.goto 1, 3)]),
  (15, [(.sipush (0), 1), (.ireturn, 1)])]
def mL_quota : ac_M := (yL_quota, cL_quota, 4, (some .int), 8, 6, 3, (1, 6), [(0, 1)], bL_quota, [741, 75, 740], [(0, 9, 12, 13)])
def bL_week : List (Nat × ac_I) := [(0, [(.aload 2, 1), (.sipush (0), 1), (.aload 0, 1), (.iload 1, 1), (.putstatic 19494, 3), (.i2l, 1), (.lastore, 1), (.goto 1, 3)]),
  (15, [(.sipush (0), 1), (.ireturn, 1)])]
def mL_week : ac_M := (yL_week, cL_week, 4, (some .int), 8, 6, 3, (1, 6), [(2, 1)], bL_week, [748, 75, 747], [(0, 9, 12, 27)])
def bL_told : List (Nat × ac_I) := [(0, [(.aload 2, 1), (.sipush (0), 1), (.aload 0, 1), (.iload 1, 1), (.putstatic 19750, 3), (.ifCond .eq 1, 3), (.ldc2_w 1, 1), (.goto 2, 3)]),
  (14, [(.ldc2_w 0, 1), (.goto 2, 0)]),
  (15, [(.lastore, 1), (.goto 3, 3)]),
  (25, [(.sipush (0), 1), (.ireturn, 1)])]
def mL_told : ac_M := (yL_told, cL_told, 4, (some .int), 8, 6, 3, (2, 12), [(2, 1), (0, 2)], bL_told, [784, 75, 783], [(0, 16, 19, 27), (0, 16, 22, 13)])
def bL_back : List (Nat × ac_I) := [(0, [(.aload 2, 1), (.sipush (0), 1), (.aload 0, 1), (.iload 1, 1), (.putstatic 20006, 3), (.i2l, 1), (.lastore, 1), (.goto 1, 3)]),
  (15, [(.sipush (0), 1), (.ireturn, 1)])]
def mL_back : ac_M := (yL_back, cL_back, 4, (some .int), 8, 6, 3, (1, 6), [(0, 1)], bL_back, [796, 75, 795], [(0, 9, 12, 13)])
def bL_came : List (Nat × ac_I) := [(0, [(.aload 2, 1), (.sipush (0), 1), (.aload 0, 1), (.iload 1, 1), (.putstatic 20262, 3), (.i2l, 1), (.lastore, 1), (.goto 1, 3)]),
  (15, [(.sipush (0), 1), (.ireturn, 1)])]
def mL_came : ac_M := (yL_came, cL_came, 4, (some .int), 8, 6, 3, (1, 6), [(1, 1)], bL_came, [803, 75, 802], [(0, 9, 12, 19)])
def bL_met : List (Nat × ac_I) := [(0, [(.aload 2, 1), (.sipush (0), 1), (.aload 0, 1), (.iload 1, 1), (.putstatic 20518, 3), (.ifCond .eq 1, 3), (.ldc2_w 1, 1), (.goto 2, 3)]),
  (14, [(.ldc2_w 0, 1), (.goto 2, 0)]),
  (15, [(.lastore, 1), (.goto 3, 3)]),
  (22, [(.sipush (0), 1), (.ireturn, 1)])]
def mL_met : ac_M := (yL_met, cL_met, 4, (some .int), 8, 6, 3, (1, 6), [(1, 1)], bL_met, [814, 75, 813], [(0, 16, 19, 19)])
def bL_hats : List (Nat × ac_I) := [(0, [(.aload 2, 1), (.sipush (0), 1), (.aload 0, 1), (.iload 1, 1), (.putstatic 21030, 3), (.i2l, 1), (.lastore, 1), (.goto 1, 3)]),
  (15, [(.sipush (0), 1), (.ireturn, 1)])]
def mL_hats : ac_M := (yL_hats, cL_hats, 4, (some .int), 8, 6, 3, (1, 6), [(1, 1)], bL_hats, [821, 75, 820], [(0, 9, 12, 19)])
def bL_thought : List (Nat × ac_I) := [(0, [(.aload 3, 1), (.sipush (0), 1), (.aload 0, 1), (.iload 1, 1), (.iload 2, 1), (.putstatic 21302, 3), (.ifCond .eq 1, 3), (.ldc2_w 1, 1), (.goto 2, 3)]),
  (15, [(.ldc2_w 0, 1), (.goto 2, 0)]),
  (16, [(.lastore, 1), (.goto 3, 3)]),
  (28, [(.sipush (0), 1), (.ireturn, 1)])]
def mL_thought : ac_M := (yL_thought, cL_thought, 5, (some .int), 8, 6, 4, (2, 12), [(1, 1), (0, 2)], bL_thought, [830, 75, 829], [(0, 17, 20, 19), (0, 17, 24, 13)])
def bL_judge : List (Nat × ac_I) := [(0, [(.aload 3, 1), (.sipush (0), 1), (.aload 0, 1), (.iload 1, 1), (.iload 2, 1), (.putstatic 21814, 3), (.i2l, 1), (.lastore, 1), (.goto 1, 3)]),
  (25, [(.sipush (0), 1), (.ireturn, 1)])]
def mL_judge : ac_M := (yL_judge, cL_judge, 5, (some .int), 8, 6, 4, (3, 18), [(1, 1), (2, 2), (0, 3)], bL_judge, [838, 75, 837], [(0, 10, 13, 19), (0, 10, 17, 27), (0, 10, 21, 13)])
def bL_gain : List (Nat × ac_I) := [(0, [(.aload 3, 1), (.sipush (0), 1), (.aload 0, 1), (.iload 1, 1), (.iload 2, 1), (.putstatic 22070, 3), (.i2l, 1), (.lastore, 1), (.goto 1, 3)]),
  (21, [(.sipush (0), 1), (.ireturn, 1)])]
def mL_gain : ac_M := (yL_gain, cL_gain, 5, (some .int), 8, 6, 4, (2, 12), [(1, 1), (0, 2)], bL_gain, [856, 75, 855], [(0, 10, 13, 19), (0, 10, 17, 13)])
def bL_rests : List (Nat × ac_I) := [(0, [(.aload 2, 1), (.sipush (0), 1), (.aload 0, 1), (.iload 1, 1), (.putstatic 22310, 3), (.ifCond .eq 1, 3), (.ldc2_w 1, 1), (.goto 2, 3)]),
  (14, [(.ldc2_w 0, 1), (.goto 2, 0)]),
  (15, [(.lastore, 1), (.goto 3, 3)]),
  (22, [(.sipush (0), 1), (.ireturn, 1)])]
def mL_rests : ac_M := (yL_rests, cL_rests, 4, (some .int), 8, 6, 3, (1, 6), [(0, 1)], bL_rests, [868, 75, 867], [(0, 16, 19, 13)])
def bL_strong : List (Nat × ac_I) := [(0, [(.aload 2, 1), (.sipush (0), 1), (.aload 0, 1), (.iload 1, 1), (.putstatic 22822, 3), (.ifCond .eq 1, 3), (.ldc2_w 1, 1), (.goto 2, 3)]),
  (14, [(.ldc2_w 0, 1), (.goto 2, 0)]),
  (15, [(.lastore, 1), (.goto 3, 3)]),
  (22, [(.sipush (0), 1), (.ireturn, 1)])]
def mL_strong : ac_M := (yL_strong, cL_strong, 4, (some .int), 8, 6, 3, (1, 6), [(0, 1)], bL_strong, [875, 75, 874], [(0, 16, 19, 13)])
def bL_turnsBy : List (Nat × ac_I) := [(0, [(.aload 3, 1), (.sipush (0), 1), (.aload 0, 1), (.iload 1, 1), (.iload 2, 1), (.putstatic 23606, 3), (.i2l, 1), (.lastore, 1), (.goto 1, 3)]),
  (25, [(.sipush (0), 1), (.ireturn, 1)])]
def mL_turnsBy : ac_M := (yL_turnsBy, cL_turnsBy, 5, (some .int), 8, 6, 4, (5, 30), [(1, 1), (2, 2), (0, 3)], bL_turnsBy, [882, 75, 881], [(0, 10, 13, 19), (0, 10, 17, 27), (0, 10, 21, 13)])
def bL_two : List (Nat × ac_I) := [(0, [(.aload 4, 2), (.sipush (0), 1), (.aload 0, 1), (.iload 1, 1), (.iload 2, 1), (.iload 3, 1), (.putstatic 24134, 3), (.i2l, 1), (.lastore, 1), (.goto 1, 3)]),
  (23, [(.sipush (0), 1), (.ireturn, 1)])]
def mL_two : ac_M := (yL_two, cL_two, 6, (some .int), 8, 6, 5, (3, 18), [(0, 1), (2, 2)], bL_two, [897, 75, 896], [(0, 12, 15, 13), (0, 12, 19, 27)])
def bL_pay : List (Nat × ac_I) := [(0, [(.aload 2, 1), (.sipush (0), 1), (.aload 0, 1), (.iload 1, 1), (.putstatic 24614, 3), (.i2l, 1), (.lastore, 1), (.goto 1, 3)]),
  (15, [(.sipush (0), 1), (.ireturn, 1)])]
def mL_pay : ac_M := (yL_pay, cL_pay, 4, (some .int), 8, 6, 3, (1, 6), [(0, 1)], bL_pay, [929, 75, 928], [(0, 9, 12, 13)])
def bL_pivots : List (Nat × ac_I) := [(0, [(.aload 2, 1), (.sipush (0), 1), (.aload 0, 1), (.iload 1, 1), (.putstatic 24870, 3), (.i2l, 1), (.lastore, 1), (.goto 1, 3)]),
  (15, [(.sipush (0), 1), (.ireturn, 1)])]
def mL_pivots : ac_M := (yL_pivots, cL_pivots, 4, (some .int), 8, 6, 3, (1, 6), [(0, 1)], bL_pivots, [936, 75, 935], [(0, 9, 12, 13)])
def bL_replies : List (Nat × ac_I) := [(0, [(.aload 3, 1), (.sipush (0), 1), (.aload 0, 1), (.iload 1, 1), (.iload 2, 1), (.putstatic 25142, 3), (.i2l, 1), (.lastore, 1), (.goto 1, 3)]),
  (17, [(.sipush (0), 1), (.ireturn, 1)])]
def mL_replies : ac_M := (yL_replies, cL_replies, 5, (some .int), 8, 6, 4, (2, 12), [(0, 1)], bL_replies, [943, 75, 942], [(0, 10, 13, 13)])
def bL_bribe : List (Nat × ac_I) := [(0, [(.aload 2, 1), (.sipush (0), 1), (.aload 0, 1), (.iload 1, 1), (.putstatic 25382, 3), (.i2l, 1), (.lastore, 1), (.goto 1, 3)]),
  (15, [(.sipush (0), 1), (.ireturn, 1)])]
def mL_bribe : ac_M := (yL_bribe, cL_bribe, 4, (some .int), 8, 6, 3, (1, 6), [(0, 1)], bL_bribe, [950, 75, 949], [(0, 9, 12, 13)])
def bL_leastBribe : List (Nat × ac_I) := [(0, [(.aload 2, 1), (.sipush (0), 1), (.aload 0, 1), (.iload 1, 1), (.putstatic 25638, 3), (.i2l, 1), (.lastore, 1), (.goto 1, 3)]),
  (15, [(.sipush (0), 1), (.ireturn, 1)])]
def mL_leastBribe : ac_M := (yL_leastBribe, cL_leastBribe, 4, (some .int), 8, 6, 3, (1, 6), [(0, 1)], bL_leastBribe, [963, 75, 962], [(0, 9, 12, 13)])
def bL_contract : List (Nat × ac_I) := [(0, [(.aload 2, 1), (.sipush (0), 1), (.aload 0, 1), (.iload 1, 1), (.putstatic 25894, 3), (.i2l, 1), (.lastore, 1), (.goto 1, 3)]),
  (15, [(.sipush (0), 1), (.ireturn, 1)])]
def mL_contract : ac_M := (yL_contract, cL_contract, 4, (some .int), 8, 6, 3, (1, 6), [(0, 1)], bL_contract, [970, 75, 969], [(0, 9, 12, 13)])
def bL_odds : List (Nat × ac_I) := [(0, [(.aload 4, 2), (.sipush (0), 1), (.aload 0, 1), (.iload 1, 1), (.iload 2, 1), (.iload 3, 1), (.putstatic 26182, 3), (.lastore, 1), (.goto 1, 3)]),
  (18, [(.sipush (0), 1), (.ireturn, 1)])]
def mL_odds : ac_M := (yL_odds, cL_odds, 6, (some .int), 8, 6, 5, (2, 12), [(0, 1)], bL_odds, [978, 75, 977], [(0, 11, 14, 13)])
def bL_bestOdds : List (Nat × ac_I) := [(0, [(.aload 2, 1), (.sipush (0), 1), (.aload 0, 1), (.iload 1, 1), (.putstatic 26406, 3), (.i2l, 1), (.lastore, 1), (.goto 1, 3)]),
  (15, [(.sipush (0), 1), (.ireturn, 1)])]
def mL_bestOdds : ac_M := (yL_bestOdds, cL_bestOdds, 4, (some .int), 8, 6, 3, (1, 6), [(0, 1)], bL_bestOdds, [995, 75, 994], [(0, 9, 12, 13)])
def bL_chances : List (Nat × ac_I) := [(0, [(.aload 4, 2), (.sipush (0), 1), (.aload 0, 1), (.iload 1, 1), (.iload 2, 1), (.iload 3, 1), (.putstatic 26694, 3), (.lastore, 1), (.goto 1, 3)]),
  (26, [(.sipush (0), 1), (.ireturn, 1)])]
def mL_chances : ac_M := (yL_chances, cL_chances, 6, (some .int), 8, 6, 5, (5, 30), [(1, 1), (2, 2), (0, 3)], bL_chances, [1002, 75, 1001], [(0, 11, 14, 19), (0, 11, 18, 27), (0, 11, 22, 13)])
def bL_hope : List (Nat × ac_I) := [(0, [(.aload 5, 2), (.sipush (0), 1), (.aload 0, 1), (.iload 1, 1), (.iload 2, 1), (.iload 3, 1), (.iload 4, 2), (.putstatic 26966, 3), (.lastore, 1), (.goto 1, 3)]),
  (24, [(.sipush (0), 1), (.ireturn, 1)])]
def mL_hope : ac_M := (yL_hope, cL_hope, 7, (some .int), 8, 6, 6, (4, 24), [(1, 1), (0, 2)], bL_hope, [1013, 75, 1012], [(0, 13, 16, 19), (0, 13, 20, 13)])
def bL_ahead : List (Nat × ac_I) := [(0, [(.aload 3, 1), (.sipush (0), 1), (.aload 0, 1), (.iload 1, 1), (.iload 2, 1), (.putstatic 27190, 3), (.i2l, 1), (.lastore, 1), (.goto 1, 3)]),
  (17, [(.sipush (0), 1), (.ireturn, 1)])]
def mL_ahead : ac_M := (yL_ahead, cL_ahead, 5, (some .int), 8, 6, 4, (2, 12), [(0, 1)], bL_ahead, [1029, 75, 1028], [(0, 10, 13, 13)])
def bL_ring : List (Nat × ac_I) := [(0, [(.aload 2, 1), (.sipush (0), 1), (.aload 0, 1), (.iload 1, 1), (.putstatic 27430, 3), (.i2l, 1), (.lastore, 1), (.goto 1, 3)]),
  (15, [(.sipush (0), 1), (.ireturn, 1)])]
def mL_ring : ac_M := (yL_ring, cL_ring, 4, (some .int), 8, 6, 3, (1, 6), [(0, 1)], bL_ring, [1043, 75, 1042], [(0, 9, 12, 13)])
def bL_worth : List (Nat × ac_I) := [(0, [(.aload 3, 1), (.sipush (0), 1), (.aload 0, 1), (.iload 1, 1), (.iload 2, 1), (.putstatic 27702, 3), (.i2l, 1), (.lastore, 1), (.goto 1, 3)]),
  (21, [(.sipush (0), 1), (.ireturn, 1)])]
def mL_worth : ac_M := (yL_worth, cL_worth, 5, (some .int), 8, 6, 4, (2, 12), [(1, 1), (0, 2)], bL_worth, [1061, 75, 1060], [(0, 10, 13, 19), (0, 10, 17, 13)])
def bL_bestQuota : List (Nat × ac_I) := [(0, [(.aload 2, 1), (.sipush (0), 1), (.aload 0, 1), (.iload 1, 1), (.putstatic 27942, 3), (.i2l, 1), (.lastore, 1), (.goto 1, 3)]),
  (15, [(.sipush (0), 1), (.ireturn, 1)])]
def mL_bestQuota : ac_M := (yL_bestQuota, cL_bestQuota, 4, (some .int), 8, 6, 3, (1, 6), [(0, 1)], bL_bestQuota, [1079, 75, 1078], [(0, 9, 12, 13)])
def bL_bestRule : List (Nat × ac_I) := [(0, [(.aload 4, 2), (.sipush (0), 1), (.aload 0, 1), (.iload 1, 1), (.iload 2, 1), (.iload 3, 1), (.putstatic 28230, 3), (.i2l, 1), (.lastore, 1), (.goto 1, 3)]),
  (23, [(.sipush (0), 1), (.ireturn, 1)])]
def mL_bestRule : ac_M := (yL_bestRule, cL_bestRule, 6, (some .int), 8, 6, 5, (3, 18), [(1, 1), (0, 2)], bL_bestRule, [1086, 75, 1085], [(0, 12, 15, 19), (0, 12, 19, 13)])
def bL_streak : List (Nat × ac_I) := [(0, [(.aload 2, 1), (.sipush (0), 1), (.aload 0, 1), (.iload 1, 1), (.putstatic 28454, 3), (.i2l, 1), (.lastore, 1), (.goto 1, 3)]),
  (15, [(.sipush (0), 1), (.ireturn, 1)])]
def mL_streak : ac_M := (yL_streak, cL_streak, 4, (some .int), 8, 6, 3, (1, 6), [(0, 1)], bL_streak, [1099, 75, 1098], [(0, 9, 12, 13)])
def bL_together : List (Nat × ac_I) := [(0, [(.aload 3, 1), (.sipush (0), 1), (.aload 0, 1), (.iload 1, 1), (.iload 2, 1), (.putstatic 28982, 3), (.i2l, 1), (.lastore, 1), (.goto 1, 3)]),
  (17, [(.sipush (0), 1), (.ireturn, 1)])]
def mL_together : ac_M := (yL_together, cL_together, 5, (some .int), 8, 6, 4, (2, 12), [(1, 1)], bL_together, [1106, 75, 1105], [(0, 10, 13, 19)])
def bL_doubts : List (Nat × ac_I) := [(0, [(.aload 3, 1), (.sipush (0), 1), (.aload 0, 1), (.iload 1, 1), (.iload 2, 1), (.putstatic 29494, 3), (.i2l, 1), (.lastore, 1), (.goto 1, 3)]),
  (17, [(.sipush (0), 1), (.ireturn, 1)])]
def mL_doubts : ac_M := (yL_doubts, cL_doubts, 5, (some .int), 8, 6, 4, (2, 12), [(1, 1)], bL_doubts, [1113, 75, 1112], [(0, 10, 13, 19)])
def bL_cook : List (Nat × ac_I) := [(0, [(.aload 2, 1), (.sipush (0), 1), (.aload 0, 1), (.iload 1, 1), (.putstatic 29734, 3), (.i2l, 1), (.lastore, 1), (.goto 1, 3)]),
  (15, [(.sipush (0), 1), (.ireturn, 1)])]
def mL_cook : ac_M := (yL_cook, cL_cook, 4, (some .int), 8, 6, 3, (1, 6), [(0, 1)], bL_cook, [1121, 75, 1120], [(0, 9, 12, 13)])
def bL_guess : List (Nat × ac_I) := [(0, [(.aload 2, 1), (.sipush (0), 1), (.aload 0, 1), (.iload 1, 1), (.putstatic 29990, 3), (.i2l, 1), (.lastore, 1), (.goto 1, 3)]),
  (15, [(.sipush (0), 1), (.ireturn, 1)])]
def mL_guess : ac_M := (yL_guess, cL_guess, 4, (some .int), 8, 6, 3, (1, 6), [(0, 1)], bL_guess, [1143, 75, 1142], [(0, 9, 12, 13)])
def bL_tray : List (Nat × ac_I) := [(0, [(.aload 0, 1), (.iload 1, 1), (.iload 2, 1), (.iload 3, 1), (.putstatic 30278, 3), (.goto 1, 3)]),
  (18, [(.sipush (0), 1), (.ireturn, 1)])]
def mL_tray : ac_M := (yL_tray, cL_tray, 5, (some .int), 8, 6, 4, (3, 18), [(1, 1), (0, 2)], bL_tray, [1150, 75, 1149], [(0, 7, 10, 19), (0, 7, 14, 13)])
def bL_write : List (Nat × ac_I) := [(0, [(.aload 5, 2), (.sipush (0), 1), (.aload 0, 1), (.iload 1, 1), (.iload 2, 1), (.lload 3, 1), (.putstatic 30534, 3), (.lastore, 1), (.goto 1, 3)]),
  (26, [(.sipush (0), 1), (.ireturn, 1)])]
def mL_write : ac_M := (yL_write, cL_write, 7, (some .int), 8, 6, 5, (3, 18), [(1, 1), (2, 2), (3, 3)], bL_write, [1161, 75, 1160], [(0, 11, 14, 19), (0, 11, 18, 27), (0, 11, 22, 138)])
def bL_pour : List (Nat × ac_I) := [(0, [(.aload 2, 1), (.sipush (0), 1), (.aload 0, 1), (.iload 1, 1), (.putstatic 30758, 3), (.i2l, 1), (.lastore, 1), (.goto 1, 3)]),
  (18, [(.sipush (0), 1), (.ireturn, 1)])]
def mL_pour : ac_M := (yL_pour, cL_pour, 4, (some .int), 8, 6, 3, (2, 12), [(1, 1), (2, 2)], bL_pour, [1192, 75, 1191], [(0, 9, 12, 19), (0, 9, 15, 27)])
def bL_image : List (Nat × ac_I) := [(0, [(.aload 0, 1), (.iload 1, 1), (.putstatic 31014, 3), (.goto 1, 3)]),
  (11, [(.sipush (0), 1), (.ireturn, 1)])]
def mL_image : ac_M := (yL_image, cL_image, 3, (some .int), 8, 6, 2, (1, 6), [(1, 1)], bL_image, [1202, 75, 1201], [(0, 5, 8, 19)])
def bL_restore : List (Nat × ac_I) := [(0, [(.aload 0, 1), (.iload 1, 1), (.putstatic 31270, 3), (.goto 1, 3)]),
  (14, [(.sipush (0), 1), (.ireturn, 1)])]
def mL_restore : ac_M := (yL_restore, cL_restore, 3, (some .int), 8, 6, 2, (2, 12), [(1, 1), (2, 2)], bL_restore, [1212, 75, 1211], [(0, 5, 8, 19), (0, 5, 11, 27)])
def ms10 : List ac_M := [mX7_count, mJ6_bitCount_0f7a4, mJ9_floorDiv_f86c9, mJ9_floorMod_f86c9, mJ9_abs_0f7a4, mJ9_max_7cf53, mJ9_max_f86c9, mJ9_min_7cf53, mL_club, mL_member, mL_quota, mL_week, mL_told, mL_back, mL_came, mL_met, mL_hats, mL_thought, mL_judge, mL_gain, mL_rests, mL_strong, mL_turnsBy, mL_two, mL_pay, mL_pivots, mL_replies, mL_bribe, mL_leastBribe, mL_contract, mL_odds, mL_bestOdds, mL_chances, mL_hope, mL_ahead, mL_ring, mL_worth, mL_bestQuota, mL_bestRule, mL_streak, mL_together, mL_doubts, mL_cook, mL_guess, mL_tray, mL_write, mL_pour, mL_image, mL_restore]
def bL_law0 : List (Nat × ac_I) := [(0, [(.new 6, 3), (.dup, 1), (.dload 1121, 3), (.astore 1, 1), (.new 7, 3), (.dup, 1), (.dload 2193, 3), (.astore 2, 1), (.sipush (1), 1), (.newarray .long, 2), (.astore 3, 1), (.sipush (0), 1), (.istore 4, 2), (.goto 1, 0)]),
  (23, [(.iload 4, 2), (.aload 0, 1), (.caload, 1), (.sipush (6), 2), (.isub, 1), (.if_icmp .gt 144, 3), (.aload 0, 1), (.iload 4, 2), (.faload, 1), (.sipush (63), 2), (.iand, 1), (.tableswitch 143 0 51 #[2, 3, 6, 7, 10, 13, 16, 21, 24, 27, 32, 33, 36, 41, 42, 45, 48, 53, 54, 59, 60, 61, 64, 67, 68, 71, 74, 77, 80, 83, 86, 89, 92, 95, 98, 101, 104, 107, 110, 113, 116, 117, 120, 121, 124, 127, 130, 132, 135, 138, 140, 142], 224)]),
  (264, [(.aload 1, 1), (.aload 0, 1), (.iload 4, 2), (.sipush (1), 1), (.iadd, 1), (.faload, 1), (.aload 0, 1), (.iload 4, 2), (.sipush (2), 1), (.iadd, 1), (.faload, 1), (.aload 0, 1), (.iload 4, 2), (.sipush (3), 1), (.iadd, 1), (.faload, 1), (.aload 0, 1), (.iload 4, 2), (.sipush (4), 1), (.iadd, 1), (.faload, 1), (.aload 0, 1), (.iload 4, 2), (.sipush (5), 1), (.iadd, 1), (.faload, 1), (.multianewarray 71 102, 3), (.aload 2, 1), (.aload 0, 1), (.iload 4, 2), (.sipush (1), 1), (.iadd, 1), (.faload, 1), (.aload 0, 1), (.iload 4, 2), (.sipush (2), 1), (.iadd, 1), (.faload, 1), (.aload 0, 1), (.iload 4, 2), (.sipush (3), 1), (.iadd, 1), (.faload, 1), (.aload 0, 1), (.iload 4, 2), (.sipush (4), 1), (.iadd, 1), (.faload, 1), (.aload 0, 1), (.iload 4, 2), (.sipush (5), 1), (.iadd, 1), (.faload, 1), (.multianewarray 145 103, 3), (.if_icmp .eq 143, 3), (.sipush (0), 1), (.ireturn, 1)]),
  (337, [(.aload 1, 1), (.aload 0, 1), (.iload 4, 2), (.sipush (1), 1), (.iadd, 1), (.faload, 1), (.aload 3, 1), (.ret 4099, 3), (.istore 5, 2), (.aload 2, 1), (.aload 0, 1), (.iload 4, 2), (.sipush (1), 1), (.iadd, 1), (.faload, 1), (.multianewarray 157 39, 3), (.istore 6, 2), (.aload 2, 1), (.multianewarray 138 23, 3), (.iload 5, 2), (.if_icmp .eq 4, 3), (.sipush (0), 1), (.ireturn, 1)])]
def bL_law1 : List (Nat × ac_I) := [(373, [(.iload 5, 2), (.ifCond .ne 5, 3), (.aload 3, 1), (.sipush (0), 1), (.laload, 1), (.iload 6, 2), (.i2l, 1), (.lcmp, 1), (.ifCond .eq 5, 3), (.sipush (0), 1), (.ireturn, 1)]),
  (390, [(.goto 143, 3)]),
  (393, [(.aload 1, 1), (.aload 0, 1), (.iload 4, 2), (.sipush (1), 1), (.iadd, 1), (.faload, 1), (.multianewarray 73 38, 3), (.aload 2, 1), (.aload 0, 1), (.iload 4, 2), (.sipush (1), 1), (.iadd, 1), (.faload, 1), (.multianewarray 158 39, 3), (.if_icmp .eq 143, 3), (.sipush (0), 1), (.ireturn, 1)]),
  (418, [(.aload 1, 1), (.aload 0, 1), (.iload 4, 2), (.sipush (1), 1), (.iadd, 1), (.faload, 1), (.aload 0, 1), (.iload 4, 2), (.sipush (2), 1), (.iadd, 1), (.faload, 1), (.aload 3, 1), (.ret 4116, 3), (.istore 5, 2), (.aload 2, 1), (.aload 0, 1), (.iload 4, 2), (.sipush (1), 1), (.iadd, 1), (.faload, 1), (.aload 0, 1), (.iload 4, 2), (.sipush (2), 1), (.iadd, 1), (.faload, 1), (.multianewarray 166 55, 3), (.istore 6, 2), (.aload 2, 1), (.multianewarray 138 23, 3), (.iload 5, 2), (.if_icmp .eq 8, 3), (.sipush (0), 1), (.ireturn, 1)]),
  (466, [(.iload 5, 2), (.ifCond .ne 9, 3), (.aload 3, 1), (.sipush (0), 1), (.laload, 1), (.iload 6, 2), (.i2l, 1), (.lcmp, 1), (.ifCond .eq 9, 3), (.sipush (0), 1), (.ireturn, 1)]),
  (483, [(.goto 143, 3)]),
  (486, [(.aload 1, 1), (.aload 0, 1), (.iload 4, 2), (.sipush (1), 1), (.iadd, 1), (.faload, 1), (.aload 3, 1), (.ret 4131, 3), (.istore 5, 2), (.aload 2, 1), (.aload 0, 1), (.iload 4, 2), (.sipush (1), 1), (.iadd, 1), (.faload, 1), (.multianewarray 167 39, 3), (.istore 6, 2), (.aload 2, 1), (.multianewarray 138 23, 3), (.iload 5, 2), (.if_icmp .eq 11, 3), (.sipush (0), 1), (.ireturn, 1)])]
def bL_law2 : List (Nat × ac_I) := [(522, [(.iload 5, 2), (.ifCond .ne 12, 3), (.aload 3, 1), (.sipush (0), 1), (.laload, 1), (.iload 6, 2), (.i2l, 1), (.lcmp, 1), (.ifCond .eq 12, 3), (.sipush (0), 1), (.ireturn, 1)]),
  (539, [(.goto 143, 3)]),
  (542, [(.aload 1, 1), (.aload 0, 1), (.iload 4, 2), (.sipush (1), 1), (.iadd, 1), (.faload, 1), (.aload 3, 1), (.ret 4147, 3), (.istore 5, 2), (.aload 2, 1), (.aload 0, 1), (.iload 4, 2), (.sipush (1), 1), (.iadd, 1), (.faload, 1), (.multianewarray 178 39, 3), (.istore 6, 2), (.aload 2, 1), (.multianewarray 138 23, 3), (.iload 5, 2), (.if_icmp .eq 14, 3), (.sipush (0), 1), (.ireturn, 1)]),
  (578, [(.iload 5, 2), (.ifCond .ne 15, 3), (.aload 3, 1), (.sipush (0), 1), (.laload, 1), (.iload 6, 2), (.i2l, 1), (.lcmp, 1), (.ifCond .eq 15, 3), (.sipush (0), 1), (.ireturn, 1)]),
  (595, [(.goto 143, 3)]),
  (598, [(.aload 1, 1), (.aload 0, 1), (.iload 4, 2), (.sipush (1), 1), (.iadd, 1), (.faload, 1), (.aload 3, 1), (.ret 4163, 3), (.istore 5, 2), (.aload 2, 1), (.aload 0, 1), (.iload 4, 2), (.sipush (1), 1), (.iadd, 1), (.faload, 1), (.multianewarray 179 39, 3), (.istore 6, 2), (.aload 2, 1), (.multianewarray 138 23, 3), (.iload 5, 2), (.if_icmp .eq 17, 3), (.sipush (0), 1), (.ireturn, 1)]),
  (634, [(.iload 5, 2), (.ifCond .ne 20, 3), (.aload 3, 1), (.sipush (0), 1), (.laload, 1), (.iload 6, 2), (.ifCond .eq 18, 3), (.ldc2_w 1, 1), (.goto 19, 3)]),
  (651, [(.ldc2_w 0, 1), (.goto 19, 0)]),
  (652, [(.lcmp, 1), (.ifCond .eq 20, 3), (.sipush (0), 1), (.ireturn, 1)]),
  (658, [(.goto 143, 3)]),
  (661, [(.aload 1, 1), (.aload 0, 1), (.iload 4, 2), (.sipush (1), 1), (.iadd, 1), (.faload, 1), (.aload 3, 1), (.ret 4179, 3), (.istore 5, 2), (.aload 2, 1), (.aload 0, 1), (.iload 4, 2), (.sipush (1), 1), (.iadd, 1), (.faload, 1), (.multianewarray 180 39, 3), (.istore 6, 2), (.aload 2, 1), (.multianewarray 138 23, 3), (.iload 5, 2), (.if_icmp .eq 22, 3), (.sipush (0), 1), (.ireturn, 1)])]
def bL_law3 : List (Nat × ac_I) := [(697, [(.iload 5, 2), (.ifCond .ne 23, 3), (.aload 3, 1), (.sipush (0), 1), (.laload, 1), (.iload 6, 2), (.i2l, 1), (.lcmp, 1), (.ifCond .eq 23, 3), (.sipush (0), 1), (.ireturn, 1)]),
  (714, [(.goto 143, 3)]),
  (717, [(.aload 1, 1), (.aload 0, 1), (.iload 4, 2), (.sipush (1), 1), (.iadd, 1), (.faload, 1), (.aload 3, 1), (.ret 4195, 3), (.istore 5, 2), (.aload 2, 1), (.aload 0, 1), (.iload 4, 2), (.sipush (1), 1), (.iadd, 1), (.faload, 1), (.multianewarray 182 39, 3), (.istore 6, 2), (.aload 2, 1), (.multianewarray 138 23, 3), (.iload 5, 2), (.if_icmp .eq 25, 3), (.sipush (0), 1), (.ireturn, 1)]),
  (753, [(.iload 5, 2), (.ifCond .ne 26, 3), (.aload 3, 1), (.sipush (0), 1), (.laload, 1), (.iload 6, 2), (.i2l, 1), (.lcmp, 1), (.ifCond .eq 26, 3), (.sipush (0), 1), (.ireturn, 1)]),
  (770, [(.goto 143, 3)]),
  (773, [(.aload 1, 1), (.aload 0, 1), (.iload 4, 2), (.sipush (1), 1), (.iadd, 1), (.faload, 1), (.aload 3, 1), (.ret 4211, 3), (.istore 5, 2), (.aload 2, 1), (.aload 0, 1), (.iload 4, 2), (.sipush (1), 1), (.iadd, 1), (.faload, 1), (.multianewarray 183 39, 3), (.istore 6, 2), (.aload 2, 1), (.multianewarray 138 23, 3), (.iload 5, 2), (.if_icmp .eq 28, 3), (.sipush (0), 1), (.ireturn, 1)]),
  (809, [(.iload 5, 2), (.ifCond .ne 31, 3), (.aload 3, 1), (.sipush (0), 1), (.laload, 1), (.iload 6, 2), (.ifCond .eq 29, 3), (.ldc2_w 1, 1), (.goto 30, 3)]),
  (826, [(.ldc2_w 0, 1), (.goto 30, 0)]),
  (827, [(.lcmp, 1), (.ifCond .eq 31, 3), (.sipush (0), 1), (.ireturn, 1)]),
  (833, [(.goto 143, 3)]),
  (836, [(.aload 1, 1), (.multianewarray 81 22, 3), (.aload 2, 1), (.multianewarray 184 23, 3), (.if_icmp .eq 143, 3), (.sipush (0), 1), (.ireturn, 1)])]
def bL_law4 : List (Nat × ac_I) := [(849, [(.aload 1, 1), (.aload 0, 1), (.iload 4, 2), (.sipush (1), 1), (.iadd, 1), (.faload, 1), (.aload 3, 1), (.ret 4227, 3), (.istore 5, 2), (.aload 2, 1), (.aload 0, 1), (.iload 4, 2), (.sipush (1), 1), (.iadd, 1), (.faload, 1), (.multianewarray 185 39, 3), (.istore 6, 2), (.aload 2, 1), (.multianewarray 138 23, 3), (.iload 5, 2), (.if_icmp .eq 34, 3), (.sipush (0), 1), (.ireturn, 1)]),
  (885, [(.iload 5, 2), (.ifCond .ne 35, 3), (.aload 3, 1), (.sipush (0), 1), (.laload, 1), (.iload 6, 2), (.i2l, 1), (.lcmp, 1), (.ifCond .eq 35, 3), (.sipush (0), 1), (.ireturn, 1)]),
  (902, [(.goto 143, 3)]),
  (905, [(.aload 1, 1), (.aload 0, 1), (.iload 4, 2), (.sipush (1), 1), (.iadd, 1), (.faload, 1), (.aload 0, 1), (.iload 4, 2), (.sipush (2), 1), (.iadd, 1), (.faload, 1), (.aload 3, 1), (.ret 4244, 3), (.istore 5, 2), (.aload 2, 1), (.aload 0, 1), (.iload 4, 2), (.sipush (1), 1), (.iadd, 1), (.faload, 1), (.aload 0, 1), (.iload 4, 2), (.sipush (2), 1), (.iadd, 1), (.faload, 1), (.multianewarray 186 55, 3), (.istore 6, 2), (.aload 2, 1), (.multianewarray 138 23, 3), (.iload 5, 2), (.if_icmp .eq 37, 3), (.sipush (0), 1), (.ireturn, 1)]),
  (953, [(.iload 5, 2), (.ifCond .ne 40, 3), (.aload 3, 1), (.sipush (0), 1), (.laload, 1), (.iload 6, 2), (.ifCond .eq 38, 3), (.ldc2_w 1, 1), (.goto 39, 3)]),
  (970, [(.ldc2_w 0, 1), (.goto 39, 0)]),
  (971, [(.lcmp, 1), (.ifCond .eq 40, 3), (.sipush (0), 1), (.ireturn, 1)]),
  (977, [(.goto 143, 3)]),
  (980, [(.aload 1, 1), (.multianewarray 84 22, 3), (.aload 2, 1), (.multianewarray 187 23, 3), (.if_icmp .eq 143, 3), (.sipush (0), 1), (.ireturn, 1)])]
def bL_law5 : List (Nat × ac_I) := [(993, [(.aload 1, 1), (.aload 0, 1), (.iload 4, 2), (.sipush (1), 1), (.iadd, 1), (.faload, 1), (.aload 0, 1), (.iload 4, 2), (.sipush (2), 1), (.iadd, 1), (.faload, 1), (.aload 3, 1), (.ret 4260, 3), (.istore 5, 2), (.aload 2, 1), (.aload 0, 1), (.iload 4, 2), (.sipush (1), 1), (.iadd, 1), (.faload, 1), (.aload 0, 1), (.iload 4, 2), (.sipush (2), 1), (.iadd, 1), (.faload, 1), (.multianewarray 189 55, 3), (.istore 6, 2), (.aload 2, 1), (.multianewarray 138 23, 3), (.iload 5, 2), (.if_icmp .eq 43, 3), (.sipush (0), 1), (.ireturn, 1)]),
  (1041, [(.iload 5, 2), (.ifCond .ne 44, 3), (.aload 3, 1), (.sipush (0), 1), (.laload, 1), (.iload 6, 2), (.i2l, 1), (.lcmp, 1), (.ifCond .eq 44, 3), (.sipush (0), 1), (.ireturn, 1)]),
  (1058, [(.goto 143, 3)]),
  (1061, [(.aload 1, 1), (.aload 0, 1), (.iload 4, 2), (.sipush (1), 1), (.iadd, 1), (.faload, 1), (.aload 0, 1), (.iload 4, 2), (.sipush (2), 1), (.iadd, 1), (.faload, 1), (.aload 3, 1), (.ret 4276, 3), (.istore 5, 2), (.aload 2, 1), (.aload 0, 1), (.iload 4, 2), (.sipush (1), 1), (.iadd, 1), (.faload, 1), (.aload 0, 1), (.iload 4, 2), (.sipush (2), 1), (.iadd, 1), (.faload, 1), (.multianewarray 193 55, 3), (.istore 6, 2), (.aload 2, 1), (.multianewarray 138 23, 3), (.iload 5, 2), (.if_icmp .eq 46, 3), (.sipush (0), 1), (.ireturn, 1)]),
  (1109, [(.iload 5, 2), (.ifCond .ne 47, 3), (.aload 3, 1), (.sipush (0), 1), (.laload, 1), (.iload 6, 2), (.i2l, 1), (.lcmp, 1), (.ifCond .eq 47, 3), (.sipush (0), 1), (.ireturn, 1)]),
  (1126, [(.goto 143, 3)])]
def bL_law6 : List (Nat × ac_I) := [(1129, [(.aload 1, 1), (.aload 0, 1), (.iload 4, 2), (.sipush (1), 1), (.iadd, 1), (.faload, 1), (.aload 3, 1), (.ret 4291, 3), (.istore 5, 2), (.aload 2, 1), (.aload 0, 1), (.iload 4, 2), (.sipush (1), 1), (.iadd, 1), (.faload, 1), (.multianewarray 194 39, 3), (.istore 6, 2), (.aload 2, 1), (.multianewarray 138 23, 3), (.iload 5, 2), (.if_icmp .eq 49, 3), (.sipush (0), 1), (.ireturn, 1)]),
  (1165, [(.iload 5, 2), (.ifCond .ne 52, 3), (.aload 3, 1), (.sipush (0), 1), (.laload, 1), (.iload 6, 2), (.ifCond .eq 50, 3), (.ldc2_w 1, 1), (.goto 51, 3)]),
  (1182, [(.ldc2_w 0, 1), (.goto 51, 0)]),
  (1183, [(.lcmp, 1), (.ifCond .eq 52, 3), (.sipush (0), 1), (.ireturn, 1)]),
  (1189, [(.goto 143, 3)]),
  (1192, [(.aload 1, 1), (.aload 0, 1), (.iload 4, 2), (.sipush (1), 1), (.iadd, 1), (.faload, 1), (.multianewarray 88 38, 3), (.aload 2, 1), (.aload 0, 1), (.iload 4, 2), (.sipush (1), 1), (.iadd, 1), (.faload, 1), (.multianewarray 195 39, 3), (.if_icmp .eq 143, 3), (.sipush (0), 1), (.ireturn, 1)]),
  (1217, [(.aload 1, 1), (.aload 0, 1), (.iload 4, 2), (.sipush (1), 1), (.iadd, 1), (.faload, 1), (.aload 3, 1), (.ret 4307, 3), (.istore 5, 2), (.aload 2, 1), (.aload 0, 1), (.iload 4, 2), (.sipush (1), 1), (.iadd, 1), (.faload, 1), (.multianewarray 197 39, 3), (.istore 6, 2), (.aload 2, 1), (.multianewarray 138 23, 3), (.iload 5, 2), (.if_icmp .eq 55, 3), (.sipush (0), 1), (.ireturn, 1)]),
  (1253, [(.iload 5, 2), (.ifCond .ne 58, 3), (.aload 3, 1), (.sipush (0), 1), (.laload, 1), (.iload 6, 2), (.ifCond .eq 56, 3), (.ldc2_w 1, 1), (.goto 57, 3)]),
  (1270, [(.ldc2_w 0, 1), (.goto 57, 0)])]
def bL_law7 : List (Nat × ac_I) := [(1271, [(.lcmp, 1), (.ifCond .eq 58, 3), (.sipush (0), 1), (.ireturn, 1)]),
  (1277, [(.goto 143, 3)]),
  (1280, [(.aload 1, 1), (.aload 0, 1), (.iload 4, 2), (.sipush (1), 1), (.iadd, 1), (.faload, 1), (.multianewarray 90 38, 3), (.aload 2, 1), (.aload 0, 1), (.iload 4, 2), (.sipush (1), 1), (.iadd, 1), (.faload, 1), (.multianewarray 198 39, 3), (.if_icmp .eq 143, 3), (.sipush (0), 1), (.ireturn, 1)]),
  (1305, [(.aload 1, 1), (.multianewarray 91 22, 3), (.aload 2, 1), (.multianewarray 201 23, 3), (.if_icmp .eq 143, 3), (.sipush (0), 1), (.ireturn, 1)]),
  (1318, [(.aload 1, 1), (.aload 0, 1), (.iload 4, 2), (.sipush (1), 1), (.iadd, 1), (.faload, 1), (.aload 0, 1), (.iload 4, 2), (.sipush (2), 1), (.iadd, 1), (.faload, 1), (.aload 3, 1), (.ret 4324, 3), (.istore 5, 2), (.aload 2, 1), (.aload 0, 1), (.iload 4, 2), (.sipush (1), 1), (.iadd, 1), (.faload, 1), (.aload 0, 1), (.iload 4, 2), (.sipush (2), 1), (.iadd, 1), (.faload, 1), (.multianewarray 202 55, 3), (.istore 6, 2), (.aload 2, 1), (.multianewarray 138 23, 3), (.iload 5, 2), (.if_icmp .eq 62, 3), (.sipush (0), 1), (.ireturn, 1)]),
  (1366, [(.iload 5, 2), (.ifCond .ne 63, 3), (.aload 3, 1), (.sipush (0), 1), (.laload, 1), (.iload 6, 2), (.i2l, 1), (.lcmp, 1), (.ifCond .eq 63, 3), (.sipush (0), 1), (.ireturn, 1)]),
  (1383, [(.goto 143, 3)]),
  (1386, [(.aload 1, 1), (.aload 0, 1), (.iload 4, 2), (.sipush (1), 1), (.iadd, 1), (.faload, 1), (.aload 0, 1), (.iload 4, 2), (.sipush (2), 1), (.iadd, 1), (.faload, 1), (.aload 0, 1), (.iload 4, 2), (.sipush (3), 1), (.iadd, 1), (.faload, 1), (.aload 3, 1), (.ret 4341, 3), (.istore 5, 2), (.aload 2, 1), (.aload 0, 1), (.iload 4, 2), (.sipush (1), 1), (.iadd, 1), (.faload, 1), (.aload 0, 1), (.iload 4, 2), (.sipush (2), 1), (.iadd, 1), (.faload, 1), (.aload 0, 1), (.iload 4, 2), (.sipush (3), 1), (.iadd, 1), (.faload, 1), (.multianewarray 205 71, 3), (.istore 6, 2), (.aload 2, 1), (.multianewarray 138 23, 3), (.iload 5, 2), (.if_icmp .eq 65, 3), (.sipush (0), 1), (.ireturn, 1)])]
def bL_law8 : List (Nat × ac_I) := [(1446, [(.iload 5, 2), (.ifCond .ne 66, 3), (.aload 3, 1), (.sipush (0), 1), (.laload, 1), (.iload 6, 2), (.i2l, 1), (.lcmp, 1), (.ifCond .eq 66, 3), (.sipush (0), 1), (.ireturn, 1)]),
  (1463, [(.goto 143, 3)]),
  (1466, [(.aload 1, 1), (.multianewarray 95 22, 3), (.aload 2, 1), (.multianewarray 206 23, 3), (.if_icmp .eq 143, 3), (.sipush (0), 1), (.ireturn, 1)]),
  (1479, [(.aload 1, 1), (.aload 0, 1), (.iload 4, 2), (.sipush (1), 1), (.iadd, 1), (.faload, 1), (.aload 3, 1), (.ret 4355, 3), (.istore 5, 2), (.aload 2, 1), (.aload 0, 1), (.iload 4, 2), (.sipush (1), 1), (.iadd, 1), (.faload, 1), (.multianewarray 207 39, 3), (.istore 6, 2), (.aload 2, 1), (.multianewarray 138 23, 3), (.iload 5, 2), (.if_icmp .eq 69, 3), (.sipush (0), 1), (.ireturn, 1)]),
  (1515, [(.iload 5, 2), (.ifCond .ne 70, 3), (.aload 3, 1), (.sipush (0), 1), (.laload, 1), (.iload 6, 2), (.i2l, 1), (.lcmp, 1), (.ifCond .eq 70, 3), (.sipush (0), 1), (.ireturn, 1)]),
  (1532, [(.goto 143, 3)]),
  (1535, [(.aload 1, 1), (.aload 0, 1), (.iload 4, 2), (.sipush (1), 1), (.iadd, 1), (.faload, 1), (.aload 3, 1), (.ret 4371, 3), (.istore 5, 2), (.aload 2, 1), (.aload 0, 1), (.iload 4, 2), (.sipush (1), 1), (.iadd, 1), (.faload, 1), (.multianewarray 208 39, 3), (.istore 6, 2), (.aload 2, 1), (.multianewarray 138 23, 3), (.iload 5, 2), (.if_icmp .eq 72, 3), (.sipush (0), 1), (.ireturn, 1)]),
  (1571, [(.iload 5, 2), (.ifCond .ne 73, 3), (.aload 3, 1), (.sipush (0), 1), (.laload, 1), (.iload 6, 2), (.i2l, 1), (.lcmp, 1), (.ifCond .eq 73, 3), (.sipush (0), 1), (.ireturn, 1)]),
  (1588, [(.goto 143, 3)]),
  (1591, [(.aload 1, 1), (.aload 0, 1), (.iload 4, 2), (.sipush (1), 1), (.iadd, 1), (.faload, 1), (.aload 0, 1), (.iload 4, 2), (.sipush (2), 1), (.iadd, 1), (.faload, 1), (.aload 3, 1), (.ret 4388, 3), (.istore 5, 2), (.aload 2, 1), (.aload 0, 1), (.iload 4, 2), (.sipush (1), 1), (.iadd, 1), (.faload, 1), (.aload 0, 1), (.iload 4, 2), (.sipush (2), 1), (.iadd, 1), (.faload, 1), (.multianewarray 209 55, 3), (.istore 6, 2), (.aload 2, 1), (.multianewarray 138 23, 3), (.iload 5, 2), (.if_icmp .eq 75, 3), (.sipush (0), 1), (.ireturn, 1)])]
def bL_law9 : List (Nat × ac_I) := [(1639, [(.iload 5, 2), (.ifCond .ne 76, 3), (.aload 3, 1), (.sipush (0), 1), (.laload, 1), (.iload 6, 2), (.i2l, 1), (.lcmp, 1), (.ifCond .eq 76, 3), (.sipush (0), 1), (.ireturn, 1)]),
  (1656, [(.goto 143, 3)]),
  (1659, [(.aload 1, 1), (.aload 0, 1), (.iload 4, 2), (.sipush (1), 1), (.iadd, 1), (.faload, 1), (.aload 3, 1), (.ret 4403, 3), (.istore 5, 2), (.aload 2, 1), (.aload 0, 1), (.iload 4, 2), (.sipush (1), 1), (.iadd, 1), (.faload, 1), (.multianewarray 211 39, 3), (.istore 6, 2), (.aload 2, 1), (.multianewarray 138 23, 3), (.iload 5, 2), (.if_icmp .eq 78, 3), (.sipush (0), 1), (.ireturn, 1)]),
  (1695, [(.iload 5, 2), (.ifCond .ne 79, 3), (.aload 3, 1), (.sipush (0), 1), (.laload, 1), (.iload 6, 2), (.i2l, 1), (.lcmp, 1), (.ifCond .eq 79, 3), (.sipush (0), 1), (.ireturn, 1)]),
  (1712, [(.goto 143, 3)]),
  (1715, [(.aload 1, 1), (.aload 0, 1), (.iload 4, 2), (.sipush (1), 1), (.iadd, 1), (.faload, 1), (.aload 3, 1), (.ret 4419, 3), (.istore 5, 2), (.aload 2, 1), (.aload 0, 1), (.iload 4, 2), (.sipush (1), 1), (.iadd, 1), (.faload, 1), (.multianewarray 214 39, 3), (.istore 6, 2), (.aload 2, 1), (.multianewarray 138 23, 3), (.iload 5, 2), (.if_icmp .eq 81, 3), (.sipush (0), 1), (.ireturn, 1)]),
  (1751, [(.iload 5, 2), (.ifCond .ne 82, 3), (.aload 3, 1), (.sipush (0), 1), (.laload, 1), (.iload 6, 2), (.i2l, 1), (.lcmp, 1), (.ifCond .eq 82, 3), (.sipush (0), 1), (.ireturn, 1)]),
  (1768, [(.goto 143, 3)]),
  (1771, [(.aload 1, 1), (.aload 0, 1), (.iload 4, 2), (.sipush (1), 1), (.iadd, 1), (.faload, 1), (.aload 3, 1), (.ret 4435, 3), (.istore 5, 2), (.aload 2, 1), (.aload 0, 1), (.iload 4, 2), (.sipush (1), 1), (.iadd, 1), (.faload, 1), (.multianewarray 215 39, 3), (.istore 6, 2), (.aload 2, 1), (.multianewarray 138 23, 3), (.iload 5, 2), (.if_icmp .eq 84, 3), (.sipush (0), 1), (.ireturn, 1)])]
def bL_law10 : List (Nat × ac_I) := [(1807, [(.iload 5, 2), (.ifCond .ne 85, 3), (.aload 3, 1), (.sipush (0), 1), (.laload, 1), (.iload 6, 2), (.i2l, 1), (.lcmp, 1), (.ifCond .eq 85, 3), (.sipush (0), 1), (.ireturn, 1)]),
  (1824, [(.goto 143, 3)]),
  (1827, [(.aload 1, 1), (.aload 0, 1), (.iload 4, 2), (.sipush (1), 1), (.iadd, 1), (.faload, 1), (.aload 0, 1), (.iload 4, 2), (.sipush (2), 1), (.iadd, 1), (.faload, 1), (.aload 0, 1), (.iload 4, 2), (.sipush (3), 1), (.iadd, 1), (.faload, 1), (.aload 3, 1), (.ret 4453, 3), (.istore 5, 2), (.aload 2, 1), (.aload 0, 1), (.iload 4, 2), (.sipush (1), 1), (.iadd, 1), (.faload, 1), (.aload 0, 1), (.iload 4, 2), (.sipush (2), 1), (.iadd, 1), (.faload, 1), (.aload 0, 1), (.iload 4, 2), (.sipush (3), 1), (.iadd, 1), (.faload, 1), (.multianewarray 219 71, 3), (.lstore 6, 2), (.aload 2, 1), (.multianewarray 138 23, 3), (.iload 5, 2), (.if_icmp .eq 87, 3), (.sipush (0), 1), (.ireturn, 1)]),
  (1887, [(.iload 5, 2), (.ifCond .ne 88, 3), (.aload 3, 1), (.sipush (0), 1), (.laload, 1), (.lload 6, 2), (.lcmp, 1), (.ifCond .eq 88, 3), (.sipush (0), 1), (.ireturn, 1)]),
  (1903, [(.goto 143, 3)]),
  (1906, [(.aload 1, 1), (.aload 0, 1), (.iload 4, 2), (.sipush (1), 1), (.iadd, 1), (.faload, 1), (.aload 3, 1), (.ret 4467, 3), (.istore 5, 2), (.aload 2, 1), (.aload 0, 1), (.iload 4, 2), (.sipush (1), 1), (.iadd, 1), (.faload, 1), (.multianewarray 220 39, 3), (.istore 6, 2), (.aload 2, 1), (.multianewarray 138 23, 3), (.iload 5, 2), (.if_icmp .eq 90, 3), (.sipush (0), 1), (.ireturn, 1)]),
  (1942, [(.iload 5, 2), (.ifCond .ne 91, 3), (.aload 3, 1), (.sipush (0), 1), (.laload, 1), (.iload 6, 2), (.i2l, 1), (.lcmp, 1), (.ifCond .eq 91, 3), (.sipush (0), 1), (.ireturn, 1)])]
def bL_law11 : List (Nat × ac_I) := [(1959, [(.goto 143, 3)]),
  (1962, [(.aload 1, 1), (.aload 0, 1), (.iload 4, 2), (.sipush (1), 1), (.iadd, 1), (.faload, 1), (.aload 0, 1), (.iload 4, 2), (.sipush (2), 1), (.iadd, 1), (.faload, 1), (.aload 0, 1), (.iload 4, 2), (.sipush (3), 1), (.iadd, 1), (.faload, 1), (.aload 3, 1), (.ret 4485, 3), (.istore 5, 2), (.aload 2, 1), (.aload 0, 1), (.iload 4, 2), (.sipush (1), 1), (.iadd, 1), (.faload, 1), (.aload 0, 1), (.iload 4, 2), (.sipush (2), 1), (.iadd, 1), (.faload, 1), (.aload 0, 1), (.iload 4, 2), (.sipush (3), 1), (.iadd, 1), (.faload, 1), (.multianewarray 221 71, 3), (.lstore 6, 2), (.aload 2, 1), (.multianewarray 138 23, 3), (.iload 5, 2), (.if_icmp .eq 93, 3), (.sipush (0), 1), (.ireturn, 1)]),
  (2022, [(.iload 5, 2), (.ifCond .ne 94, 3), (.aload 3, 1), (.sipush (0), 1), (.laload, 1), (.lload 6, 2), (.lcmp, 1), (.ifCond .eq 94, 3), (.sipush (0), 1), (.ireturn, 1)]),
  (2038, [(.goto 143, 3)]),
  (2041, [(.aload 1, 1), (.aload 0, 1), (.iload 4, 2), (.sipush (1), 1), (.iadd, 1), (.faload, 1), (.aload 0, 1), (.iload 4, 2), (.sipush (2), 1), (.iadd, 1), (.faload, 1), (.aload 0, 1), (.iload 4, 2), (.sipush (3), 1), (.iadd, 1), (.faload, 1), (.aload 0, 1), (.iload 4, 2), (.sipush (4), 1), (.iadd, 1), (.faload, 1), (.aload 3, 1), (.ret 4502, 3), (.istore 5, 2), (.aload 2, 1), (.aload 0, 1), (.iload 4, 2), (.sipush (1), 1), (.iadd, 1), (.faload, 1), (.aload 0, 1), (.iload 4, 2), (.sipush (2), 1), (.iadd, 1), (.faload, 1), (.aload 0, 1), (.iload 4, 2), (.sipush (3), 1), (.iadd, 1), (.faload, 1), (.aload 0, 1), (.iload 4, 2), (.sipush (4), 1), (.iadd, 1), (.faload, 1), (.multianewarray 222 87, 3), (.lstore 6, 2), (.aload 2, 1), (.multianewarray 138 23, 3), (.iload 5, 2), (.if_icmp .eq 96, 3), (.sipush (0), 1), (.ireturn, 1)])]
def bL_law12 : List (Nat × ac_I) := [(2113, [(.iload 5, 2), (.ifCond .ne 97, 3), (.aload 3, 1), (.sipush (0), 1), (.laload, 1), (.lload 6, 2), (.lcmp, 1), (.ifCond .eq 97, 3), (.sipush (0), 1), (.ireturn, 1)]),
  (2129, [(.goto 143, 3)]),
  (2132, [(.aload 1, 1), (.aload 0, 1), (.iload 4, 2), (.sipush (1), 1), (.iadd, 1), (.faload, 1), (.aload 0, 1), (.iload 4, 2), (.sipush (2), 1), (.iadd, 1), (.faload, 1), (.aload 3, 1), (.ret 4516, 3), (.istore 5, 2), (.aload 2, 1), (.aload 0, 1), (.iload 4, 2), (.sipush (1), 1), (.iadd, 1), (.faload, 1), (.aload 0, 1), (.iload 4, 2), (.sipush (2), 1), (.iadd, 1), (.faload, 1), (.multianewarray 224 55, 3), (.istore 6, 2), (.aload 2, 1), (.multianewarray 138 23, 3), (.iload 5, 2), (.if_icmp .eq 99, 3), (.sipush (0), 1), (.ireturn, 1)]),
  (2180, [(.iload 5, 2), (.ifCond .ne 100, 3), (.aload 3, 1), (.sipush (0), 1), (.laload, 1), (.iload 6, 2), (.i2l, 1), (.lcmp, 1), (.ifCond .eq 100, 3), (.sipush (0), 1), (.ireturn, 1)]),
  (2197, [(.goto 143, 3)]),
  (2200, [(.aload 1, 1), (.aload 0, 1), (.iload 4, 2), (.sipush (1), 1), (.iadd, 1), (.faload, 1), (.aload 3, 1), (.ret 4531, 3), (.istore 5, 2), (.aload 2, 1), (.aload 0, 1), (.iload 4, 2), (.sipush (1), 1), (.iadd, 1), (.faload, 1), (.multianewarray 227 39, 3), (.istore 6, 2), (.aload 2, 1), (.multianewarray 138 23, 3), (.iload 5, 2), (.if_icmp .eq 102, 3), (.sipush (0), 1), (.ireturn, 1)]),
  (2236, [(.iload 5, 2), (.ifCond .ne 103, 3), (.aload 3, 1), (.sipush (0), 1), (.laload, 1), (.iload 6, 2), (.i2l, 1), (.lcmp, 1), (.ifCond .eq 103, 3), (.sipush (0), 1), (.ireturn, 1)])]
def bL_law13 : List (Nat × ac_I) := [(2253, [(.goto 143, 3)]),
  (2256, [(.aload 1, 1), (.aload 0, 1), (.iload 4, 2), (.sipush (1), 1), (.iadd, 1), (.faload, 1), (.aload 0, 1), (.iload 4, 2), (.sipush (2), 1), (.iadd, 1), (.faload, 1), (.aload 3, 1), (.ret 4548, 3), (.istore 5, 2), (.aload 2, 1), (.aload 0, 1), (.iload 4, 2), (.sipush (1), 1), (.iadd, 1), (.faload, 1), (.aload 0, 1), (.iload 4, 2), (.sipush (2), 1), (.iadd, 1), (.faload, 1), (.multianewarray 228 55, 3), (.istore 6, 2), (.aload 2, 1), (.multianewarray 138 23, 3), (.iload 5, 2), (.if_icmp .eq 105, 3), (.sipush (0), 1), (.ireturn, 1)]),
  (2304, [(.iload 5, 2), (.ifCond .ne 106, 3), (.aload 3, 1), (.sipush (0), 1), (.laload, 1), (.iload 6, 2), (.i2l, 1), (.lcmp, 1), (.ifCond .eq 106, 3), (.sipush (0), 1), (.ireturn, 1)]),
  (2321, [(.goto 143, 3)]),
  (2324, [(.aload 1, 1), (.aload 0, 1), (.iload 4, 2), (.sipush (1), 1), (.iadd, 1), (.faload, 1), (.aload 3, 1), (.ret 4563, 3), (.istore 5, 2), (.aload 2, 1), (.aload 0, 1), (.iload 4, 2), (.sipush (1), 1), (.iadd, 1), (.faload, 1), (.multianewarray 229 39, 3), (.istore 6, 2), (.aload 2, 1), (.multianewarray 138 23, 3), (.iload 5, 2), (.if_icmp .eq 108, 3), (.sipush (0), 1), (.ireturn, 1)]),
  (2360, [(.iload 5, 2), (.ifCond .ne 109, 3), (.aload 3, 1), (.sipush (0), 1), (.laload, 1), (.iload 6, 2), (.i2l, 1), (.lcmp, 1), (.ifCond .eq 109, 3), (.sipush (0), 1), (.ireturn, 1)]),
  (2377, [(.goto 143, 3)]),
  (2380, [(.aload 1, 1), (.aload 0, 1), (.iload 4, 2), (.sipush (1), 1), (.iadd, 1), (.faload, 1), (.aload 0, 1), (.iload 4, 2), (.sipush (2), 1), (.iadd, 1), (.faload, 1), (.aload 0, 1), (.iload 4, 2), (.sipush (3), 1), (.iadd, 1), (.faload, 1), (.aload 3, 1), (.ret 4581, 3), (.istore 5, 2), (.aload 2, 1), (.aload 0, 1), (.iload 4, 2), (.sipush (1), 1), (.iadd, 1), (.faload, 1), (.aload 0, 1), (.iload 4, 2), (.sipush (2), 1), (.iadd, 1), (.faload, 1), (.aload 0, 1), (.iload 4, 2), (.sipush (3), 1), (.iadd, 1), (.faload, 1), (.multianewarray 231 71, 3), (.istore 6, 2), (.aload 2, 1), (.multianewarray 138 23, 3), (.iload 5, 2), (.if_icmp .eq 111, 3), (.sipush (0), 1), (.ireturn, 1)])]
def bL_law14 : List (Nat × ac_I) := [(2440, [(.iload 5, 2), (.ifCond .ne 112, 3), (.aload 3, 1), (.sipush (0), 1), (.laload, 1), (.iload 6, 2), (.i2l, 1), (.lcmp, 1), (.ifCond .eq 112, 3), (.sipush (0), 1), (.ireturn, 1)]),
  (2457, [(.goto 143, 3)]),
  (2460, [(.aload 1, 1), (.aload 0, 1), (.iload 4, 2), (.sipush (1), 1), (.iadd, 1), (.faload, 1), (.aload 3, 1), (.ret 4595, 3), (.istore 5, 2), (.aload 2, 1), (.aload 0, 1), (.iload 4, 2), (.sipush (1), 1), (.iadd, 1), (.faload, 1), (.multianewarray 232 39, 3), (.istore 6, 2), (.aload 2, 1), (.multianewarray 138 23, 3), (.iload 5, 2), (.if_icmp .eq 114, 3), (.sipush (0), 1), (.ireturn, 1)]),
  (2496, [(.iload 5, 2), (.ifCond .ne 115, 3), (.aload 3, 1), (.sipush (0), 1), (.laload, 1), (.iload 6, 2), (.i2l, 1), (.lcmp, 1), (.ifCond .eq 115, 3), (.sipush (0), 1), (.ireturn, 1)]),
  (2513, [(.goto 143, 3)]),
  (2516, [(.aload 1, 1), (.aload 0, 1), (.iload 4, 2), (.sipush (1), 1), (.iadd, 1), (.faload, 1), (.multianewarray 112 38, 3), (.aload 2, 1), (.aload 0, 1), (.iload 4, 2), (.sipush (1), 1), (.iadd, 1), (.faload, 1), (.multianewarray 233 39, 3), (.if_icmp .eq 143, 3), (.sipush (0), 1), (.ireturn, 1)]),
  (2541, [(.aload 1, 1), (.aload 0, 1), (.iload 4, 2), (.sipush (1), 1), (.iadd, 1), (.faload, 1), (.aload 0, 1), (.iload 4, 2), (.sipush (2), 1), (.iadd, 1), (.faload, 1), (.aload 3, 1), (.ret 4612, 3), (.istore 5, 2), (.aload 2, 1), (.aload 0, 1), (.iload 4, 2), (.sipush (1), 1), (.iadd, 1), (.faload, 1), (.aload 0, 1), (.iload 4, 2), (.sipush (2), 1), (.iadd, 1), (.faload, 1), (.multianewarray 235 55, 3), (.istore 6, 2), (.aload 2, 1), (.multianewarray 138 23, 3), (.iload 5, 2), (.if_icmp .eq 118, 3), (.sipush (0), 1), (.ireturn, 1)])]
def bL_law15 : List (Nat × ac_I) := [(2589, [(.iload 5, 2), (.ifCond .ne 119, 3), (.aload 3, 1), (.sipush (0), 1), (.laload, 1), (.iload 6, 2), (.i2l, 1), (.lcmp, 1), (.ifCond .eq 119, 3), (.sipush (0), 1), (.ireturn, 1)]),
  (2606, [(.goto 143, 3)]),
  (2609, [(.aload 1, 1), (.multianewarray 114 22, 3), (.aload 2, 1), (.multianewarray 236 23, 3), (.if_icmp .eq 143, 3), (.sipush (0), 1), (.ireturn, 1)]),
  (2622, [(.aload 1, 1), (.aload 0, 1), (.iload 4, 2), (.sipush (1), 1), (.iadd, 1), (.faload, 1), (.aload 0, 1), (.iload 4, 2), (.sipush (2), 1), (.iadd, 1), (.faload, 1), (.aload 3, 1), (.ret 4628, 3), (.istore 5, 2), (.aload 2, 1), (.aload 0, 1), (.iload 4, 2), (.sipush (1), 1), (.iadd, 1), (.faload, 1), (.aload 0, 1), (.iload 4, 2), (.sipush (2), 1), (.iadd, 1), (.faload, 1), (.multianewarray 237 55, 3), (.istore 6, 2), (.aload 2, 1), (.multianewarray 138 23, 3), (.iload 5, 2), (.if_icmp .eq 122, 3), (.sipush (0), 1), (.ireturn, 1)]),
  (2670, [(.iload 5, 2), (.ifCond .ne 123, 3), (.aload 3, 1), (.sipush (0), 1), (.laload, 1), (.iload 6, 2), (.i2l, 1), (.lcmp, 1), (.ifCond .eq 123, 3), (.sipush (0), 1), (.ireturn, 1)]),
  (2687, [(.goto 143, 3)]),
  (2690, [(.aload 1, 1), (.aload 0, 1), (.iload 4, 2), (.sipush (1), 1), (.iadd, 1), (.faload, 1), (.aload 3, 1), (.ret 4643, 3), (.istore 5, 2), (.aload 2, 1), (.aload 0, 1), (.iload 4, 2), (.sipush (1), 1), (.iadd, 1), (.faload, 1), (.multianewarray 239 39, 3), (.istore 6, 2), (.aload 2, 1), (.multianewarray 138 23, 3), (.iload 5, 2), (.if_icmp .eq 125, 3), (.sipush (0), 1), (.ireturn, 1)]),
  (2726, [(.iload 5, 2), (.ifCond .ne 126, 3), (.aload 3, 1), (.sipush (0), 1), (.laload, 1), (.iload 6, 2), (.i2l, 1), (.lcmp, 1), (.ifCond .eq 126, 3), (.sipush (0), 1), (.ireturn, 1)])]
def bL_law16 : List (Nat × ac_I) := [(2743, [(.goto 143, 3)]),
  (2746, [(.aload 1, 1), (.aload 0, 1), (.iload 4, 2), (.sipush (1), 1), (.iadd, 1), (.faload, 1), (.aload 3, 1), (.ret 4659, 3), (.istore 5, 2), (.aload 2, 1), (.aload 0, 1), (.iload 4, 2), (.sipush (1), 1), (.iadd, 1), (.faload, 1), (.multianewarray 240 39, 3), (.istore 6, 2), (.aload 2, 1), (.multianewarray 138 23, 3), (.iload 5, 2), (.if_icmp .eq 128, 3), (.sipush (0), 1), (.ireturn, 1)]),
  (2782, [(.iload 5, 2), (.ifCond .ne 129, 3), (.aload 3, 1), (.sipush (0), 1), (.laload, 1), (.iload 6, 2), (.i2l, 1), (.lcmp, 1), (.ifCond .eq 129, 3), (.sipush (0), 1), (.ireturn, 1)]),
  (2799, [(.goto 143, 3)]),
  (2802, [(.aload 1, 1), (.aload 0, 1), (.iload 4, 2), (.sipush (1), 1), (.iadd, 1), (.faload, 1), (.aload 0, 1), (.iload 4, 2), (.sipush (2), 1), (.iadd, 1), (.faload, 1), (.aload 0, 1), (.iload 4, 2), (.sipush (3), 1), (.iadd, 1), (.faload, 1), (.ret 4676, 3), (.istore 5, 2), (.aload 2, 1), (.aload 0, 1), (.iload 4, 2), (.sipush (1), 1), (.iadd, 1), (.faload, 1), (.aload 0, 1), (.iload 4, 2), (.sipush (2), 1), (.iadd, 1), (.faload, 1), (.aload 0, 1), (.iload 4, 2), (.sipush (3), 1), (.iadd, 1), (.faload, 1), (.multianewarray 242 71, 3), (.aload 2, 1), (.multianewarray 138 23, 3), (.iload 5, 2), (.if_icmp .eq 131, 3), (.sipush (0), 1), (.ireturn, 1)]),
  (2859, [(.goto 143, 3)]),
  (2862, [(.aload 1, 1), (.aload 0, 1), (.iload 4, 2), (.sipush (1), 1), (.iadd, 1), (.faload, 1), (.aload 0, 1), (.iload 4, 2), (.sipush (2), 1), (.iadd, 1), (.faload, 1), (.aload 0, 1), (.iload 4, 2), (.sipush (3), 1), (.iadd, 1), (.faload, 1), (.i2l, 1), (.sipush (32), 2), (.lshl, 1), (.aload 0, 1), (.iload 4, 2), (.sipush (4), 1), (.iadd, 1), (.faload, 1), (.i2l, 1), (.ldc2_w 4294967295, 3), (.land, 1), (.lor, 1), (.aload 3, 1), (.ret 4693, 3), (.istore 5, 2), (.aload 2, 1), (.aload 0, 1), (.iload 4, 2), (.sipush (1), 1), (.iadd, 1), (.faload, 1), (.aload 0, 1), (.iload 4, 2), (.sipush (2), 1), (.iadd, 1), (.faload, 1), (.aload 0, 1), (.iload 4, 2), (.sipush (3), 1), (.iadd, 1), (.faload, 1), (.i2l, 1), (.sipush (32), 2), (.lshl, 1), (.aload 0, 1), (.iload 4, 2), (.sipush (4), 1), (.iadd, 1), (.faload, 1), (.i2l, 1), (.ldc2_w 4294967295, 3), (.land, 1), (.lor, 1), (.multianewarray 244 71, 3), (.lstore 6, 2), (.aload 2, 1), (.multianewarray 138 23, 3), (.iload 5, 2), (.if_icmp .eq 133, 3), (.sipush (0), 1), (.ireturn, 1)])]
def bL_law17 : List (Nat × ac_I) := [(2954, [(.iload 5, 2), (.ifCond .ne 134, 3), (.aload 3, 1), (.sipush (0), 1), (.laload, 1), (.lload 6, 2), (.lcmp, 1), (.ifCond .eq 134, 3), (.sipush (0), 1), (.ireturn, 1)]),
  (2970, [(.goto 143, 3)]),
  (2973, [(.aload 1, 1), (.aload 0, 1), (.iload 4, 2), (.sipush (1), 1), (.iadd, 1), (.faload, 1), (.aload 3, 1), (.ret 4707, 3), (.istore 5, 2), (.aload 2, 1), (.aload 0, 1), (.iload 4, 2), (.sipush (1), 1), (.iadd, 1), (.faload, 1), (.multianewarray 245 39, 3), (.istore 6, 2), (.aload 2, 1), (.multianewarray 138 23, 3), (.iload 5, 2), (.if_icmp .eq 136, 3), (.sipush (0), 1), (.ireturn, 1)]),
  (3009, [(.iload 5, 2), (.ifCond .ne 137, 3), (.aload 3, 1), (.sipush (0), 1), (.laload, 1), (.iload 6, 2), (.i2l, 1), (.lcmp, 1), (.ifCond .eq 137, 3), (.sipush (0), 1), (.ireturn, 1)]),
  (3026, [(.goto 143, 3)]),
  (3029, [(.aload 1, 1), (.aload 0, 1), (.iload 4, 2), (.sipush (1), 1), (.iadd, 1), (.faload, 1), (.ret 4722, 3), (.istore 5, 2), (.aload 2, 1), (.aload 0, 1), (.iload 4, 2), (.sipush (1), 1), (.iadd, 1), (.faload, 1), (.multianewarray 246 39, 3), (.aload 2, 1), (.multianewarray 138 23, 3), (.iload 5, 2), (.if_icmp .eq 139, 3), (.sipush (0), 1), (.ireturn, 1)]),
  (3062, [(.goto 143, 3)]),
  (3065, [(.aload 1, 1), (.aload 0, 1), (.iload 4, 2), (.sipush (1), 1), (.iadd, 1), (.faload, 1), (.ret 4738, 3), (.istore 5, 2), (.aload 2, 1), (.aload 0, 1), (.iload 4, 2), (.sipush (1), 1), (.iadd, 1), (.faload, 1), (.multianewarray 247 39, 3), (.aload 2, 1), (.multianewarray 138 23, 3), (.iload 5, 2), (.if_icmp .eq 141, 3), (.sipush (0), 1), (.ireturn, 1)]),
  (3098, [(.goto 143, 3)])]
def bL_law18 : List (Nat × ac_I) := [(3101, [(.aload 1, 1), (.aload 0, 1), (.iload 4, 2), (.sipush (1), 1), (.iadd, 1), (.faload, 1), (.multianewarray 123 38, 3), (.aload 2, 1), (.aload 0, 1), (.iload 4, 2), (.sipush (1), 1), (.iadd, 1), (.faload, 1), (.multianewarray 248 39, 3), (.if_icmp .eq 143, 3), (.sipush (0), 1), (.ireturn, 1)]),
  (3126, [(.iinc 4 (6), 3), (.goto 1, 3)]),
  (3132, [(.sipush (1), 1), (.ireturn, 1)])]
def bL_law : List (Nat × ac_I) := bL_law0 ++ (bL_law1 ++ (bL_law2 ++ (bL_law3 ++ (bL_law4 ++ (bL_law5 ++ (bL_law6 ++ (bL_law7 ++ (bL_law8 ++ (bL_law9 ++ (bL_law10 ++ (bL_law11 ++ (bL_law12 ++ (bL_law13 ++ (bL_law14 ++ (bL_law15 ++ (bL_law16 ++ (bL_law17 ++ (bL_law18))))))))))))))))))
def mL_law : ac_M := (yL_law, cL_law, 8, ret, 8, 7, 1, (0, 0), [], bL_law, [], [])
def methods : List ac_M := ms0 ++ (ms1 ++ (ms2 ++ (ms3 ++ (ms4 ++ (ms5 ++ (ms6 ++ (ms7 ++ (ms8 ++ (ms9 ++ (ms10))))))))))
def kmax : Nat := 297
set_option maxRecDepth 20000 in
theorem kX0_init : methods[0]? = some mX0_init := rfl
set_option maxRecDepth 20000 in
theorem kX0_clear : methods[1]? = some mX0_clear := rfl
set_option maxRecDepth 20000 in
theorem kX0_join : methods[2]? = some mX0_join := rfl
set_option maxRecDepth 20000 in
theorem kX0_weigh : methods[3]? = some mX0_weigh := rfl
set_option maxRecDepth 20000 in
theorem kX0_become : methods[4]? = some mX0_become := rfl
set_option maxRecDepth 20000 in
theorem kX0_giveRule : methods[5]? = some mX0_giveRule := rfl
set_option maxRecDepth 20000 in
theorem kX0_addWeek : methods[6]? = some mX0_addWeek := rfl
set_option maxRecDepth 20000 in
theorem kX0_everyone : methods[7]? = some mX0_everyone := rfl
set_option maxRecDepth 20000 in
theorem kX0_has : methods[8]? = some mX0_has := rfl
set_option maxRecDepth 20000 in
theorem kX0_lastSet : methods[9]? = some mX0_lastSet := rfl
set_option maxRecDepth 20000 in
theorem kX0_meets : methods[10]? = some mX0_meets := rfl
set_option maxRecDepth 20000 in
theorem kX0_payOf : methods[11]? = some mX0_payOf := rfl
set_option maxRecDepth 20000 in
theorem kX0_gainOf : methods[12]? = some mX0_gainOf := rfl
set_option maxRecDepth 20000 in
theorem kX0_payOfAll : methods[13]? = some mX0_payOfAll := rfl
set_option maxRecDepth 20000 in
theorem kX0_costOfAll : methods[14]? = some mX0_costOfAll := rfl
set_option maxRecDepth 20000 in
theorem kX0_bribeFor : methods[15]? = some mX0_bribeFor := rfl
set_option maxRecDepth 20000 in
theorem kX0_eager : methods[16]? = some mX0_eager := rfl
set_option maxRecDepth 20000 in
theorem kX0_isStrong : methods[17]? = some mX0_isStrong := rfl
set_option maxRecDepth 20000 in
theorem kX0_thoughts : methods[18]? = some mX0_thoughts := rfl
set_option maxRecDepth 20000 in
theorem kX0_hatsAhead : methods[19]? = some mX0_hatsAhead := rfl
set_option maxRecDepth 20000 in
theorem kX0_comesBySeeing : methods[20]? = some mX0_comesBySeeing := rfl
set_option maxRecDepth 20000 in
theorem kX0_hasLearner : methods[21]? = some mX0_hasLearner := rfl
set_option maxRecDepth 20000 in
theorem kX0_roundOfWeeks : methods[22]? = some mX0_roundOfWeeks := rfl
set_option maxRecDepth 20000 in
theorem kX0_leastMultiple : methods[23]? = some mX0_leastMultiple := rfl
set_option maxRecDepth 20000 in
theorem kX0_weeksOf : methods[24]? = some mX0_weeksOf := rfl
set_option maxRecDepth 20000 in
theorem kX0_dinnersOf : methods[25]? = some mX0_dinnersOf := rfl
set_option maxRecDepth 20000 in
theorem kX0_weeksMet : methods[26]? = some mX0_weeksMet := rfl
set_option maxRecDepth 20000 in
theorem kX0_weeksOfJust : methods[27]? = some mX0_weeksOfJust := rfl
set_option maxRecDepth 20000 in
theorem kX0_guessOf : methods[28]? = some mX0_guessOf := rfl
set_option maxRecDepth 20000 in
theorem kX0_comersUntil : methods[29]? = some mX0_comersUntil := rfl
set_option maxRecDepth 20000 in
theorem kX0_mostOftenUntil : methods[30]? = some mX0_mostOftenUntil := rfl
set_option maxRecDepth 20000 in
theorem kX1_init : methods[31]? = some mX1_init := rfl
set_option maxRecDepth 20000 in
theorem kX1_start : methods[32]? = some mX1_start := rfl
set_option maxRecDepth 20000 in
theorem kX1_recall : methods[33]? = some mX1_recall := rfl
set_option maxRecDepth 20000 in
theorem kX1_go : methods[34]? = some mX1_go := rfl
set_option maxRecDepth 20000 in
theorem kX1_comersInFog : methods[35]? = some mX1_comersInFog := rfl
set_option maxRecDepth 20000 in
theorem kX1_comers : methods[36]? = some mX1_comers := rfl
set_option maxRecDepth 20000 in
theorem kX1_comes : methods[37]? = some mX1_comes := rfl
set_option maxRecDepth 20000 in
theorem kX1_hatsSeen : methods[38]? = some mX1_hatsSeen := rfl
set_option maxRecDepth 20000 in
theorem kX1_meetings : methods[39]? = some mX1_meetings := rfl
set_option maxRecDepth 20000 in
theorem kX1_payAhead : methods[40]? = some mX1_payAhead := rfl
set_option maxRecDepth 20000 in
theorem kX2_init : methods[41]? = some mX2_init := rfl
set_option maxRecDepth 20000 in
theorem kX2_lay : methods[42]? = some mX2_lay := rfl
set_option maxRecDepth 20000 in
theorem kX2_read : methods[43]? = some mX2_read := rfl
set_option maxRecDepth 20000 in
theorem kX2_readLine : methods[44]? = some mX2_readLine := rfl
set_option maxRecDepth 20000 in
theorem kX2_readMember : methods[45]? = some mX2_readMember := rfl
set_option maxRecDepth 20000 in
theorem kX2_ruleHere : methods[46]? = some mX2_ruleHere := rfl
set_option maxRecDepth 20000 in
theorem kX2_wordOf : methods[47]? = some mX2_wordOf := rfl
set_option maxRecDepth 20000 in
theorem kX2_takeSemicolon : methods[48]? = some mX2_takeSemicolon := rfl
set_option maxRecDepth 20000 in
theorem kX2_takeNumber : methods[49]? = some mX2_takeNumber := rfl
set_option maxRecDepth 20000 in
theorem kX2_refuseMisfit : methods[50]? = some mX2_refuseMisfit := rfl
set_option maxRecDepth 20000 in
theorem kX2_refuse : methods[51]? = some mX2_refuse := rfl
set_option maxRecDepth 20000 in
theorem kX2_isWord : methods[52]? = some mX2_isWord := rfl
set_option maxRecDepth 20000 in
theorem kX2_advance : methods[53]? = some mX2_advance := rfl
set_option maxRecDepth 20000 in
theorem kX2_isLetter : methods[54]? = some mX2_isLetter := rfl
set_option maxRecDepth 20000 in
theorem kX2_isDigit : methods[55]? = some mX2_isDigit := rfl
set_option maxRecDepth 20000 in
theorem kX3_init : methods[56]? = some mX3_init := rfl
set_option maxRecDepth 20000 in
theorem kX3_lay : methods[57]? = some mX3_lay := rfl
set_option maxRecDepth 20000 in
theorem kX3_put : methods[58]? = some mX3_put := rfl
set_option maxRecDepth 20000 in
theorem kX3_cut : methods[59]? = some mX3_cut := rfl
set_option maxRecDepth 20000 in
theorem kX4_init : methods[60]? = some mX4_init := rfl
set_option maxRecDepth 20000 in
theorem kX4_play : methods[61]? = some mX4_play := rfl
set_option maxRecDepth 20000 in
theorem kX4_comesAt : methods[62]? = some mX4_comesAt := rfl
set_option maxRecDepth 20000 in
theorem kX4_firstOf : methods[63]? = some mX4_firstOf := rfl
set_option maxRecDepth 20000 in
theorem kX5_init : methods[64]? = some mX5_init := rfl
set_option maxRecDepth 20000 in
theorem kX5_find : methods[65]? = some mX5_find := rfl
set_option maxRecDepth 20000 in
theorem kX5_begin : methods[66]? = some mX5_begin := rfl
set_option maxRecDepth 20000 in
theorem kX5_isAtRest : methods[67]? = some mX5_isAtRest := rfl
set_option maxRecDepth 20000 in
theorem kX5_payIn : methods[68]? = some mX5_payIn := rfl
set_option maxRecDepth 20000 in
theorem kX5_turnOn : methods[69]? = some mX5_turnOn := rfl
set_option maxRecDepth 20000 in
theorem kX6_init : methods[70]? = some mX6_init := rfl
set_option maxRecDepth 20000 in
theorem kX6_feed : methods[71]? = some mX6_feed := rfl
set_option maxRecDepth 20000 in
theorem kX6_club : methods[72]? = some mX6_club := rfl
set_option maxRecDepth 20000 in
theorem kX6_fault : methods[73]? = some mX6_fault := rfl
set_option maxRecDepth 20000 in
theorem kX6_member : methods[74]? = some mX6_member := rfl
set_option maxRecDepth 20000 in
theorem kX6_quota : methods[75]? = some mX6_quota := rfl
set_option maxRecDepth 20000 in
theorem kX6_week : methods[76]? = some mX6_week := rfl
set_option maxRecDepth 20000 in
theorem kX6_told : methods[77]? = some mX6_told := rfl
set_option maxRecDepth 20000 in
theorem kX6_back : methods[78]? = some mX6_back := rfl
set_option maxRecDepth 20000 in
theorem kX6_came : methods[79]? = some mX6_came := rfl
set_option maxRecDepth 20000 in
theorem kX6_met : methods[80]? = some mX6_met := rfl
set_option maxRecDepth 20000 in
theorem kX6_next : methods[81]? = some mX6_next := rfl
set_option maxRecDepth 20000 in
theorem kX6_hats : methods[82]? = some mX6_hats := rfl
set_option maxRecDepth 20000 in
theorem kX6_thought : methods[83]? = some mX6_thought := rfl
set_option maxRecDepth 20000 in
theorem kX6_settled : methods[84]? = some mX6_settled := rfl
set_option maxRecDepth 20000 in
theorem kX6_judge : methods[85]? = some mX6_judge := rfl
set_option maxRecDepth 20000 in
theorem kX6_gain : methods[86]? = some mX6_gain := rfl
set_option maxRecDepth 20000 in
theorem kX6_rests : methods[87]? = some mX6_rests := rfl
set_option maxRecDepth 20000 in
theorem kX6_rest : methods[88]? = some mX6_rest := rfl
set_option maxRecDepth 20000 in
theorem kX6_strong : methods[89]? = some mX6_strong := rfl
set_option maxRecDepth 20000 in
theorem kX6_strongs : methods[90]? = some mX6_strongs := rfl
set_option maxRecDepth 20000 in
theorem kX6_inTurn : methods[91]? = some mX6_inTurn := rfl
set_option maxRecDepth 20000 in
theorem kX6_turnsBy : methods[92]? = some mX6_turnsBy := rfl
set_option maxRecDepth 20000 in
theorem kX6_takeOrder : methods[93]? = some mX6_takeOrder := rfl
set_option maxRecDepth 20000 in
theorem kX6_two : methods[94]? = some mX6_two := rfl
set_option maxRecDepth 20000 in
theorem kX6_bestRest : methods[95]? = some mX6_bestRest := rfl
set_option maxRecDepth 20000 in
theorem kX6_pay : methods[96]? = some mX6_pay := rfl
set_option maxRecDepth 20000 in
theorem kX6_pivots : methods[97]? = some mX6_pivots := rfl
set_option maxRecDepth 20000 in
theorem kX6_replies : methods[98]? = some mX6_replies := rfl
set_option maxRecDepth 20000 in
theorem kX6_bribe : methods[99]? = some mX6_bribe := rfl
set_option maxRecDepth 20000 in
theorem kX6_leastBribe : methods[100]? = some mX6_leastBribe := rfl
set_option maxRecDepth 20000 in
theorem kX6_contract : methods[101]? = some mX6_contract := rfl
set_option maxRecDepth 20000 in
theorem kX6_odds : methods[102]? = some mX6_odds := rfl
set_option maxRecDepth 20000 in
theorem kX6_bestOdds : methods[103]? = some mX6_bestOdds := rfl
set_option maxRecDepth 20000 in
theorem kX6_chances : methods[104]? = some mX6_chances := rfl
set_option maxRecDepth 20000 in
theorem kX6_hope : methods[105]? = some mX6_hope := rfl
set_option maxRecDepth 20000 in
theorem kX6_ahead : methods[106]? = some mX6_ahead := rfl
set_option maxRecDepth 20000 in
theorem kX6_ring : methods[107]? = some mX6_ring := rfl
set_option maxRecDepth 20000 in
theorem kX6_worth : methods[108]? = some mX6_worth := rfl
set_option maxRecDepth 20000 in
theorem kX6_bestQuota : methods[109]? = some mX6_bestQuota := rfl
set_option maxRecDepth 20000 in
theorem kX6_bestRule : methods[110]? = some mX6_bestRule := rfl
set_option maxRecDepth 20000 in
theorem kX6_streak : methods[111]? = some mX6_streak := rfl
set_option maxRecDepth 20000 in
theorem kX6_tally : methods[112]? = some mX6_tally := rfl
set_option maxRecDepth 20000 in
theorem kX6_together : methods[113]? = some mX6_together := rfl
set_option maxRecDepth 20000 in
theorem kX6_friends : methods[114]? = some mX6_friends := rfl
set_option maxRecDepth 20000 in
theorem kX6_doubts : methods[115]? = some mX6_doubts := rfl
set_option maxRecDepth 20000 in
theorem kX6_cook : methods[116]? = some mX6_cook := rfl
set_option maxRecDepth 20000 in
theorem kX6_guess : methods[117]? = some mX6_guess := rfl
set_option maxRecDepth 20000 in
theorem kX6_tray : methods[118]? = some mX6_tray := rfl
set_option maxRecDepth 20000 in
theorem kX6_write : methods[119]? = some mX6_write := rfl
set_option maxRecDepth 20000 in
theorem kX6_pour : methods[120]? = some mX6_pour := rfl
set_option maxRecDepth 20000 in
theorem kX6_image : methods[121]? = some mX6_image := rfl
set_option maxRecDepth 20000 in
theorem kX6_restore : methods[122]? = some mX6_restore := rfl
set_option maxRecDepth 20000 in
theorem kX6_count : methods[123]? = some mX6_count := rfl
set_option maxRecDepth 20000 in
theorem kX6_requireWithin : methods[124]? = some mX6_requireWithin := rfl
set_option maxRecDepth 20000 in
theorem kX6_requireChance : methods[125]? = some mX6_requireChance := rfl
set_option maxRecDepth 20000 in
theorem kX6_requireChances : methods[126]? = some mX6_requireChances := rfl
set_option maxRecDepth 20000 in
theorem kX6_requireMember : methods[127]? = some mX6_requireMember := rfl
set_option maxRecDepth 20000 in
theorem kX6_requireWeek : methods[128]? = some mX6_requireWeek := rfl
set_option maxRecDepth 20000 in
theorem kX6_requireRoomForWeek : methods[129]? = some mX6_requireRoomForWeek := rfl
set_option maxRecDepth 20000 in
theorem kX6_requireSet : methods[130]? = some mX6_requireSet := rfl
set_option maxRecDepth 20000 in
theorem kX6_requireImage : methods[131]? = some mX6_requireImage := rfl
set_option maxRecDepth 20000 in
theorem kX6_requireTray : methods[132]? = some mX6_requireTray := rfl
set_option maxRecDepth 20000 in
theorem kX6_laidTray : methods[133]? = some mX6_laidTray := rfl
set_option maxRecDepth 20000 in
theorem kX6_waysThat : methods[134]? = some mX6_waysThat := rfl
set_option maxRecDepth 20000 in
theorem kX6_choose : methods[135]? = some mX6_choose := rfl
set_option maxRecDepth 20000 in
theorem kX6_power : methods[136]? = some mX6_power := rfl
set_option maxRecDepth 20000 in
theorem kX7_init : methods[137]? = some mX7_init := rfl
set_option maxRecDepth 20000 in
theorem kX7_thrown : methods[138]? = some mX7_thrown := rfl
set_option maxRecDepth 20000 in
theorem kX7_fails : methods[139]? = some mX7_fails := rfl
set_option maxRecDepth 20000 in
theorem kX7_within : methods[140]? = some mX7_within := rfl
set_option maxRecDepth 20000 in
theorem kX7_has : methods[141]? = some mX7_has := rfl
set_option maxRecDepth 20000 in
theorem kX7_size : methods[142]? = some mX7_size := rfl
set_option maxRecDepth 20000 in
theorem kX7_copies : methods[143]? = some mX7_copies := rfl
set_option maxRecDepth 20000 in
theorem kX7_begins : methods[144]? = some mX7_begins := rfl
set_option maxRecDepth 20000 in
theorem kX7_feed : methods[145]? = some mX7_feed := rfl
set_option maxRecDepth 20000 in
theorem kX7_see : methods[146]? = some mX7_see := rfl
set_option maxRecDepth 20000 in
theorem kX7_isLetter : methods[147]? = some mX7_isLetter := rfl
set_option maxRecDepth 20000 in
theorem kX7_isDigit : methods[148]? = some mX7_isDigit := rfl
set_option maxRecDepth 20000 in
theorem kX7_reads : methods[149]? = some mX7_reads := rfl
set_option maxRecDepth 20000 in
theorem kX7_blames : methods[150]? = some mX7_blames := rfl
set_option maxRecDepth 20000 in
theorem kX7_isWord : methods[151]? = some mX7_isWord := rfl
set_option maxRecDepth 20000 in
theorem kX7_took : methods[152]? = some mX7_took := rfl
set_option maxRecDepth 20000 in
theorem kX7_number : methods[153]? = some mX7_number := rfl
set_option maxRecDepth 20000 in
theorem kX7_ruleTold : methods[154]? = some mX7_ruleTold := rfl
set_option maxRecDepth 20000 in
theorem kX7_readMember : methods[155]? = some mX7_readMember := rfl
set_option maxRecDepth 20000 in
theorem kX7_readLine : methods[156]? = some mX7_readLine := rfl
set_option maxRecDepth 20000 in
theorem kX7_club : methods[157]? = some mX7_club := rfl
set_option maxRecDepth 20000 in
theorem kX7_fault : methods[158]? = some mX7_fault := rfl
set_option maxRecDepth 20000 in
theorem kX7_many : methods[159]? = some mX7_many := rfl
set_option maxRecDepth 20000 in
theorem kX7_all : methods[160]? = some mX7_all := rfl
set_option maxRecDepth 20000 in
theorem kX7_isMember : methods[161]? = some mX7_isMember := rfl
set_option maxRecDepth 20000 in
theorem kX7_isSet : methods[162]? = some mX7_isSet := rfl
set_option maxRecDepth 20000 in
theorem kX7_of : methods[163]? = some mX7_of := rfl
set_option maxRecDepth 20000 in
theorem kX7_meets : methods[164]? = some mX7_meets := rfl
set_option maxRecDepth 20000 in
theorem kX7_payOf : methods[165]? = some mX7_payOf := rfl
set_option maxRecDepth 20000 in
theorem kX7_member : methods[166]? = some mX7_member := rfl
set_option maxRecDepth 20000 in
theorem kX7_quota : methods[167]? = some mX7_quota := rfl
set_option maxRecDepth 20000 in
theorem kX7_lays : methods[168]? = some mX7_lays := rfl
set_option maxRecDepth 20000 in
theorem kX7_goesOn : methods[169]? = some mX7_goesOn := rfl
set_option maxRecDepth 20000 in
theorem kX7_learns : methods[170]? = some mX7_learns := rfl
set_option maxRecDepth 20000 in
theorem kX7_last : methods[171]? = some mX7_last := rfl
set_option maxRecDepth 20000 in
theorem kX7_thoughts : methods[172]? = some mX7_thoughts := rfl
set_option maxRecDepth 20000 in
theorem kX7_draw : methods[173]? = some mX7_draw := rfl
set_option maxRecDepth 20000 in
theorem kX7_seen : methods[174]? = some mX7_seen := rfl
set_option maxRecDepth 20000 in
theorem kX7_comes : methods[175]? = some mX7_comes := rfl
set_option maxRecDepth 20000 in
theorem kX7_goes : methods[176]? = some mX7_goes := rfl
set_option maxRecDepth 20000 in
theorem kX7_goesBy : methods[177]? = some mX7_goesBy := rfl
set_option maxRecDepth 20000 in
theorem kX7_week : methods[178]? = some mX7_week := rfl
set_option maxRecDepth 20000 in
theorem kX7_told : methods[179]? = some mX7_told := rfl
set_option maxRecDepth 20000 in
theorem kX7_back : methods[180]? = some mX7_back := rfl
set_option maxRecDepth 20000 in
theorem kX7_isWeek : methods[181]? = some mX7_isWeek := rfl
set_option maxRecDepth 20000 in
theorem kX7_came : methods[182]? = some mX7_came := rfl
set_option maxRecDepth 20000 in
theorem kX7_met : methods[183]? = some mX7_met := rfl
set_option maxRecDepth 20000 in
theorem kX7_next : methods[184]? = some mX7_next := rfl
set_option maxRecDepth 20000 in
theorem kX7_hats : methods[185]? = some mX7_hats := rfl
set_option maxRecDepth 20000 in
theorem kX7_thought : methods[186]? = some mX7_thought := rfl
set_option maxRecDepth 20000 in
theorem kX7_settled : methods[187]? = some mX7_settled := rfl
set_option maxRecDepth 20000 in
theorem kX7_trayFault : methods[188]? = some mX7_trayFault := rfl
set_option maxRecDepth 20000 in
theorem kX7_judge : methods[189]? = some mX7_judge := rfl
set_option maxRecDepth 20000 in
theorem kX7_gainOf : methods[190]? = some mX7_gainOf := rfl
set_option maxRecDepth 20000 in
theorem kX7_firstToGain : methods[191]? = some mX7_firstToGain := rfl
set_option maxRecDepth 20000 in
theorem kX7_payAll : methods[192]? = some mX7_payAll := rfl
set_option maxRecDepth 20000 in
theorem kX7_gain : methods[193]? = some mX7_gain := rfl
set_option maxRecDepth 20000 in
theorem kX7_rests : methods[194]? = some mX7_rests := rfl
set_option maxRecDepth 20000 in
theorem kX7_rest : methods[195]? = some mX7_rest := rfl
set_option maxRecDepth 20000 in
theorem kX7_isStrong : methods[196]? = some mX7_isStrong := rfl
set_option maxRecDepth 20000 in
theorem kX7_strong : methods[197]? = some mX7_strong := rfl
set_option maxRecDepth 20000 in
theorem kX7_strongs : methods[198]? = some mX7_strongs := rfl
set_option maxRecDepth 20000 in
theorem kX7_wants : methods[199]? = some mX7_wants := rfl
set_option maxRecDepth 20000 in
theorem kX7_byTurns : methods[200]? = some mX7_byTurns := rfl
set_option maxRecDepth 20000 in
theorem kX7_inTurn : methods[201]? = some mX7_inTurn := rfl
set_option maxRecDepth 20000 in
theorem kX7_turnsBy : methods[202]? = some mX7_turnsBy := rfl
set_option maxRecDepth 20000 in
theorem kX7_payOfTwo : methods[203]? = some mX7_payOfTwo := rfl
set_option maxRecDepth 20000 in
theorem kX7_restsInTwo : methods[204]? = some mX7_restsInTwo := rfl
set_option maxRecDepth 20000 in
theorem kX7_two : methods[205]? = some mX7_two := rfl
set_option maxRecDepth 20000 in
theorem kX7_bestRest : methods[206]? = some mX7_bestRest := rfl
set_option maxRecDepth 20000 in
theorem kX7_pay : methods[207]? = some mX7_pay := rfl
set_option maxRecDepth 20000 in
theorem kX7_pivots : methods[208]? = some mX7_pivots := rfl
set_option maxRecDepth 20000 in
theorem kX7_replies : methods[209]? = some mX7_replies := rfl
set_option maxRecDepth 20000 in
theorem kX7_bribeOf : methods[210]? = some mX7_bribeOf := rfl
set_option maxRecDepth 20000 in
theorem kX7_bribe : methods[211]? = some mX7_bribe := rfl
set_option maxRecDepth 20000 in
theorem kX7_costOf : methods[212]? = some mX7_costOf := rfl
set_option maxRecDepth 20000 in
theorem kX7_leastSet : methods[213]? = some mX7_leastSet := rfl
set_option maxRecDepth 20000 in
theorem kX7_leastBribe : methods[214]? = some mX7_leastBribe := rfl
set_option maxRecDepth 20000 in
theorem kX7_contract : methods[215]? = some mX7_contract := rfl
set_option maxRecDepth 20000 in
theorem kX7_waysBegin : methods[216]? = some mX7_waysBegin := rfl
set_option maxRecDepth 20000 in
theorem kX7_waysGo : methods[217]? = some mX7_waysGo := rfl
set_option maxRecDepth 20000 in
theorem kX7_waysOf : methods[218]? = some mX7_waysOf := rfl
set_option maxRecDepth 20000 in
theorem kX7_odds : methods[219]? = some mX7_odds := rfl
set_option maxRecDepth 20000 in
theorem kX7_bestOdds : methods[220]? = some mX7_bestOdds := rfl
set_option maxRecDepth 20000 in
theorem kX7_chances : methods[221]? = some mX7_chances := rfl
set_option maxRecDepth 20000 in
theorem kX7_hope : methods[222]? = some mX7_hope := rfl
set_option maxRecDepth 20000 in
theorem kX7_metAhead : methods[223]? = some mX7_metAhead := rfl
set_option maxRecDepth 20000 in
theorem kX7_ahead : methods[224]? = some mX7_ahead := rfl
set_option maxRecDepth 20000 in
theorem kX7_common : methods[225]? = some mX7_common := rfl
set_option maxRecDepth 20000 in
theorem kX7_rhythm : methods[226]? = some mX7_rhythm := rfl
set_option maxRecDepth 20000 in
theorem kX7_ring : methods[227]? = some mX7_ring := rfl
set_option maxRecDepth 20000 in
theorem kX7_worth : methods[228]? = some mX7_worth := rfl
set_option maxRecDepth 20000 in
theorem kX7_bestQuota : methods[229]? = some mX7_bestQuota := rfl
set_option maxRecDepth 20000 in
theorem kX7_isRuled : methods[230]? = some mX7_isRuled := rfl
set_option maxRecDepth 20000 in
theorem kX7_bestRule : methods[231]? = some mX7_bestRule := rfl
set_option maxRecDepth 20000 in
theorem kX7_streak : methods[232]? = some mX7_streak := rfl
set_option maxRecDepth 20000 in
theorem kX7_tally : methods[233]? = some mX7_tally := rfl
set_option maxRecDepth 20000 in
theorem kX7_bothCame : methods[234]? = some mX7_bothCame := rfl
set_option maxRecDepth 20000 in
theorem kX7_together : methods[235]? = some mX7_together := rfl
set_option maxRecDepth 20000 in
theorem kX7_friends : methods[236]? = some mX7_friends := rfl
set_option maxRecDepth 20000 in
theorem kX7_doubts : methods[237]? = some mX7_doubts := rfl
set_option maxRecDepth 20000 in
theorem kX7_guessOf : methods[238]? = some mX7_guessOf := rfl
set_option maxRecDepth 20000 in
theorem kX7_cook : methods[239]? = some mX7_cook := rfl
set_option maxRecDepth 20000 in
theorem kX7_guess : methods[240]? = some mX7_guess := rfl
set_option maxRecDepth 20000 in
theorem kX7_isTray : methods[241]? = some mX7_isTray := rfl
set_option maxRecDepth 20000 in
theorem kX7_tray : methods[242]? = some mX7_tray := rfl
set_option maxRecDepth 20000 in
theorem kX7_cut : methods[243]? = some mX7_cut := rfl
set_option maxRecDepth 20000 in
theorem kX7_write : methods[244]? = some mX7_write := rfl
set_option maxRecDepth 20000 in
theorem kX7_pour : methods[245]? = some mX7_pour := rfl
set_option maxRecDepth 20000 in
theorem kX7_image : methods[246]? = some mX7_image := rfl
set_option maxRecDepth 20000 in
theorem kX7_restore : methods[247]? = some mX7_restore := rfl
set_option maxRecDepth 20000 in
theorem kX7_count : methods[248]? = some mX7_count := rfl
set_option maxRecDepth 20000 in
theorem kJ6_bitCount_0f7a4 : methods[249]? = some mJ6_bitCount_0f7a4 := rfl
set_option maxRecDepth 20000 in
theorem kJ9_floorDiv_f86c9 : methods[250]? = some mJ9_floorDiv_f86c9 := rfl
set_option maxRecDepth 20000 in
theorem kJ9_floorMod_f86c9 : methods[251]? = some mJ9_floorMod_f86c9 := rfl
set_option maxRecDepth 20000 in
theorem kJ9_abs_0f7a4 : methods[252]? = some mJ9_abs_0f7a4 := rfl
set_option maxRecDepth 20000 in
theorem kJ9_max_7cf53 : methods[253]? = some mJ9_max_7cf53 := rfl
set_option maxRecDepth 20000 in
theorem kJ9_max_f86c9 : methods[254]? = some mJ9_max_f86c9 := rfl
set_option maxRecDepth 20000 in
theorem kJ9_min_7cf53 : methods[255]? = some mJ9_min_7cf53 := rfl
set_option maxRecDepth 20000 in
theorem kL_club : methods[256]? = some mL_club := rfl
set_option maxRecDepth 20000 in
theorem kL_member : methods[257]? = some mL_member := rfl
set_option maxRecDepth 20000 in
theorem kL_quota : methods[258]? = some mL_quota := rfl
set_option maxRecDepth 20000 in
theorem kL_week : methods[259]? = some mL_week := rfl
set_option maxRecDepth 20000 in
theorem kL_told : methods[260]? = some mL_told := rfl
set_option maxRecDepth 20000 in
theorem kL_back : methods[261]? = some mL_back := rfl
set_option maxRecDepth 20000 in
theorem kL_came : methods[262]? = some mL_came := rfl
set_option maxRecDepth 20000 in
theorem kL_met : methods[263]? = some mL_met := rfl
set_option maxRecDepth 20000 in
theorem kL_hats : methods[264]? = some mL_hats := rfl
set_option maxRecDepth 20000 in
theorem kL_thought : methods[265]? = some mL_thought := rfl
set_option maxRecDepth 20000 in
theorem kL_judge : methods[266]? = some mL_judge := rfl
set_option maxRecDepth 20000 in
theorem kL_gain : methods[267]? = some mL_gain := rfl
set_option maxRecDepth 20000 in
theorem kL_rests : methods[268]? = some mL_rests := rfl
set_option maxRecDepth 20000 in
theorem kL_strong : methods[269]? = some mL_strong := rfl
set_option maxRecDepth 20000 in
theorem kL_turnsBy : methods[270]? = some mL_turnsBy := rfl
set_option maxRecDepth 20000 in
theorem kL_two : methods[271]? = some mL_two := rfl
set_option maxRecDepth 20000 in
theorem kL_pay : methods[272]? = some mL_pay := rfl
set_option maxRecDepth 20000 in
theorem kL_pivots : methods[273]? = some mL_pivots := rfl
set_option maxRecDepth 20000 in
theorem kL_replies : methods[274]? = some mL_replies := rfl
set_option maxRecDepth 20000 in
theorem kL_bribe : methods[275]? = some mL_bribe := rfl
set_option maxRecDepth 20000 in
theorem kL_leastBribe : methods[276]? = some mL_leastBribe := rfl
set_option maxRecDepth 20000 in
theorem kL_contract : methods[277]? = some mL_contract := rfl
set_option maxRecDepth 20000 in
theorem kL_odds : methods[278]? = some mL_odds := rfl
set_option maxRecDepth 20000 in
theorem kL_bestOdds : methods[279]? = some mL_bestOdds := rfl
set_option maxRecDepth 20000 in
theorem kL_chances : methods[280]? = some mL_chances := rfl
set_option maxRecDepth 20000 in
theorem kL_hope : methods[281]? = some mL_hope := rfl
set_option maxRecDepth 20000 in
theorem kL_ahead : methods[282]? = some mL_ahead := rfl
set_option maxRecDepth 20000 in
theorem kL_ring : methods[283]? = some mL_ring := rfl
set_option maxRecDepth 20000 in
theorem kL_worth : methods[284]? = some mL_worth := rfl
set_option maxRecDepth 20000 in
theorem kL_bestQuota : methods[285]? = some mL_bestQuota := rfl
set_option maxRecDepth 20000 in
theorem kL_bestRule : methods[286]? = some mL_bestRule := rfl
set_option maxRecDepth 20000 in
theorem kL_streak : methods[287]? = some mL_streak := rfl
set_option maxRecDepth 20000 in
theorem kL_together : methods[288]? = some mL_together := rfl
set_option maxRecDepth 20000 in
theorem kL_doubts : methods[289]? = some mL_doubts := rfl
set_option maxRecDepth 20000 in
theorem kL_cook : methods[290]? = some mL_cook := rfl
set_option maxRecDepth 20000 in
theorem kL_guess : methods[291]? = some mL_guess := rfl
set_option maxRecDepth 20000 in
theorem kL_tray : methods[292]? = some mL_tray := rfl
set_option maxRecDepth 20000 in
theorem kL_write : methods[293]? = some mL_write := rfl
set_option maxRecDepth 20000 in
theorem kL_pour : methods[294]? = some mL_pour := rfl
set_option maxRecDepth 20000 in
theorem kL_image : methods[295]? = some mL_image := rfl
set_option maxRecDepth 20000 in
theorem kL_restore : methods[296]? = some mL_restore := rfl
theorem cst_eq : ((List.range 297).all (fun k => match methods[k]? with | some m => decide (mB m = cst k) | none => false)) = true := by decide +kernel
theorem methods_len : methods.length = 297 := by decide +kernel
theorem inf_eq : ((List.range 297).all (fun k => match methods[k]?, infTab[k]? with | some m, some q => decide (q.1 = mN m + (if mK m = 1 ∨ mK m = 6 then 0 else 1)) && (if mK m = 0 then decide (oR q.2 = (mY m).cls) && decide (q.2 < 8) else true) | _, _ => false)) = true := by decide +kernel
