theorem dL_law_1676 : decode code 1676 = .ok (.iaload, 1) := by decide +kernel
theorem dL_law_1677 : decode code 1677 = .ok (.invokevirtual 199, 3) := by decide +kernel
theorem dL_law_1680 : decode code 1680 = .ok (.aload_n 2, 1) := by decide +kernel
theorem dL_law_1681 : decode code 1681 = .ok (.aload_n 0, 1) := by decide +kernel
theorem dL_law_1682 : decode code 1682 = .ok (.iload_n 3, 1) := by decide +kernel
theorem dL_law_1683 : decode code 1683 = .ok (.iconst 1, 1) := by decide +kernel
theorem dL_law_1684 : decode code 1684 = .ok (.iadd, 1) := by decide +kernel
theorem dL_law_1685 : decode code 1685 = .ok (.iaload, 1) := by decide +kernel
theorem dL_law_1686 : decode code 1686 = .ok (.invokevirtual 202, 3) := by decide +kernel
theorem dL_law_1689 : decode code 1689 = .ok (.if_icmp .eq 5, 3) := by decide +kernel
theorem dL_law_1692 : decode code 1692 = .ok (.iconst 0, 1) := by decide +kernel
theorem dL_law_1693 : decode code 1693 = .ok (.ireturn, 1) := by decide +kernel
theorem dL_law_1694 : decode code 1694 = .ok (.iinc 3 6, 3) := by decide +kernel
theorem dL_law_1697 : decode code 1697 = .ok (.goto (-1679), 3) := by decide +kernel
theorem dL_law_1700 : decode code 1700 = .ok (.iconst 1, 1) := by decide +kernel
theorem dL_law_1701 : decode code 1701 = .ok (.ireturn, 1) := by decide +kernel
