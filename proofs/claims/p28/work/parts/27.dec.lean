def dl_L_law_25 : List (Nat × Instr × Nat × Nat) := [(1736, .iadd, 1, 1737), (1737, .iaload, 1, 1738), (1738, .invokevirtual 204, 3, 1741), (1741, .pop, 1, 1742), (1742, .goto 3, 3, 1745), (1745, .iinc 3 7, 3, 1748), (1748, .goto (-1730), 3, 1751), (1751, .iconst 1, 1, 1752), (1752, .ireturn, 1, 1753)]
theorem dd_L_law_25 : bf_ok code dl_L_law_25 = true := bf_walk 1736 (by decide +kernel)
