theorem dL_law_2636 : decode cL_law 2636 = .ok (.iconst 2, 1) := by decide +kernel
theorem dL_law_2637 : decode cL_law 2637 = .ok (.iadd, 1) := by decide +kernel
theorem dL_law_2638 : decode cL_law 2638 = .ok (.iaload, 1) := by decide +kernel
theorem dL_law_2639 : decode cL_law 2639 = .ok (.aload_n 0, 1) := by decide +kernel
theorem dL_law_2640 : decode cL_law 2640 = .ok (.iload 4, 2) := by decide +kernel
theorem dL_law_2642 : decode cL_law 2642 = .ok (.iconst 3, 1) := by decide +kernel
theorem dL_law_2643 : decode cL_law 2643 = .ok (.iadd, 1) := by decide +kernel
theorem dL_law_2644 : decode cL_law 2644 = .ok (.iaload, 1) := by decide +kernel
theorem dL_law_2645 : decode cL_law 2645 = .ok (.aload_n 0, 1) := by decide +kernel
theorem dL_law_2646 : decode cL_law 2646 = .ok (.iload 4, 2) := by decide +kernel
theorem dL_law_2648 : decode cL_law 2648 = .ok (.iconst 4, 1) := by decide +kernel
theorem dL_law_2649 : decode cL_law 2649 = .ok (.iadd, 1) := by decide +kernel
theorem dL_law_2650 : decode cL_law 2650 = .ok (.iaload, 1) := by decide +kernel
theorem dL_law_2651 : decode cL_law 2651 = .ok (.aload_n 3, 1) := by decide +kernel
theorem dL_law_2652 : decode cL_law 2652 = .ok (.invokestatic 283, 3) := by decide +kernel
theorem dL_law_2655 : decode cL_law 2655 = .ok (.istore 5, 2) := by decide +kernel
theorem dL_law_2657 : decode cL_law 2657 = .ok (.aload_n 2, 1) := by decide +kernel
theorem dL_law_2658 : decode cL_law 2658 = .ok (.aload_n 0, 1) := by decide +kernel
theorem dL_law_2659 : decode cL_law 2659 = .ok (.iload 4, 2) := by decide +kernel
theorem dL_law_2661 : decode cL_law 2661 = .ok (.iconst 1, 1) := by decide +kernel
theorem dL_law_2662 : decode cL_law 2662 = .ok (.iadd, 1) := by decide +kernel
theorem dL_law_2663 : decode cL_law 2663 = .ok (.iaload, 1) := by decide +kernel
theorem dL_law_2664 : decode cL_law 2664 = .ok (.aload_n 0, 1) := by decide +kernel
theorem dL_law_2665 : decode cL_law 2665 = .ok (.iload 4, 2) := by decide +kernel
theorem dL_law_2667 : decode cL_law 2667 = .ok (.iconst 2, 1) := by decide +kernel
theorem dL_law_2668 : decode cL_law 2668 = .ok (.iadd, 1) := by decide +kernel
theorem dL_law_2669 : decode cL_law 2669 = .ok (.iaload, 1) := by decide +kernel
theorem dL_law_2670 : decode cL_law 2670 = .ok (.aload_n 0, 1) := by decide +kernel
theorem dL_law_2671 : decode cL_law 2671 = .ok (.iload 4, 2) := by decide +kernel
theorem dL_law_2673 : decode cL_law 2673 = .ok (.iconst 3, 1) := by decide +kernel
theorem dL_law_2674 : decode cL_law 2674 = .ok (.iadd, 1) := by decide +kernel
theorem dL_law_2675 : decode cL_law 2675 = .ok (.iaload, 1) := by decide +kernel
theorem dL_law_2676 : decode cL_law 2676 = .ok (.aload_n 0, 1) := by decide +kernel
theorem dL_law_2677 : decode cL_law 2677 = .ok (.iload 4, 2) := by decide +kernel
theorem dL_law_2679 : decode cL_law 2679 = .ok (.iconst 4, 1) := by decide +kernel
theorem dL_law_2680 : decode cL_law 2680 = .ok (.iadd, 1) := by decide +kernel
theorem dL_law_2681 : decode cL_law 2681 = .ok (.iaload, 1) := by decide +kernel
theorem dL_law_2682 : decode cL_law 2682 = .ok (.invokevirtual 285, 3) := by decide +kernel
theorem dL_law_2685 : decode cL_law 2685 = .ok (.istore 6, 2) := by decide +kernel
theorem dL_law_2687 : decode cL_law 2687 = .ok (.aload_n 2, 1) := by decide +kernel
theorem dL_law_2688 : decode cL_law 2688 = .ok (.invokevirtual 155, 3) := by decide +kernel
theorem dL_law_2691 : decode cL_law 2691 = .ok (.iload 5, 2) := by decide +kernel
theorem dL_law_2693 : decode cL_law 2693 = .ok (.if_icmp .eq 5, 3) := by decide +kernel
theorem dL_law_2696 : decode cL_law 2696 = .ok (.iconst 0, 1) := by decide +kernel
theorem dL_law_2697 : decode cL_law 2697 = .ok (.ireturn, 1) := by decide +kernel
theorem dL_law_2698 : decode cL_law 2698 = .ok (.iload 5, 2) := by decide +kernel
theorem dL_law_2700 : decode cL_law 2700 = .ok (.ifCond .ne 15, 3) := by decide +kernel
theorem dL_law_2703 : decode cL_law 2703 = .ok (.aload_n 3, 1) := by decide +kernel
theorem dL_law_2704 : decode cL_law 2704 = .ok (.iconst 0, 1) := by decide +kernel
theorem dL_law_2705 : decode cL_law 2705 = .ok (.laload, 1) := by decide +kernel
theorem dL_law_2706 : decode cL_law 2706 = .ok (.iload 6, 2) := by decide +kernel
theorem dL_law_2708 : decode cL_law 2708 = .ok (.i2l, 1) := by decide +kernel
theorem dL_law_2709 : decode cL_law 2709 = .ok (.lcmp, 1) := by decide +kernel
theorem dL_law_2710 : decode cL_law 2710 = .ok (.ifCond .eq 5, 3) := by decide +kernel
theorem dL_law_2713 : decode cL_law 2713 = .ok (.iconst 0, 1) := by decide +kernel
theorem dL_law_2714 : decode cL_law 2714 = .ok (.ireturn, 1) := by decide +kernel
theorem dL_law_2715 : decode cL_law 2715 = .ok (.goto 60, 3) := by decide +kernel
theorem dL_law_2718 : decode cL_law 2718 = .ok (.aload_n 1, 1) := by decide +kernel
theorem dL_law_2719 : decode cL_law 2719 = .ok (.invokevirtual 286, 3) := by decide +kernel
theorem dL_law_2722 : decode cL_law 2722 = .ok (.aload_n 2, 1) := by decide +kernel
theorem dL_law_2723 : decode cL_law 2723 = .ok (.invokevirtual 289, 3) := by decide +kernel
theorem dL_law_2726 : decode cL_law 2726 = .ok (.if_icmp .eq 49, 3) := by decide +kernel
theorem dL_law_2729 : decode cL_law 2729 = .ok (.iconst 0, 1) := by decide +kernel
theorem dL_law_2730 : decode cL_law 2730 = .ok (.ireturn, 1) := by decide +kernel
theorem dL_law_2731 : decode cL_law 2731 = .ok (.aload_n 1, 1) := by decide +kernel
theorem dL_law_2732 : decode cL_law 2732 = .ok (.aload_n 3, 1) := by decide +kernel
theorem dL_law_2733 : decode cL_law 2733 = .ok (.invokestatic 290, 3) := by decide +kernel
theorem dL_law_2736 : decode cL_law 2736 = .ok (.istore 5, 2) := by decide +kernel
theorem dL_law_2738 : decode cL_law 2738 = .ok (.aload_n 2, 1) := by decide +kernel
theorem dL_law_2739 : decode cL_law 2739 = .ok (.invokevirtual 292, 3) := by decide +kernel
theorem dL_law_2742 : decode cL_law 2742 = .ok (.istore 6, 2) := by decide +kernel
theorem dL_law_2744 : decode cL_law 2744 = .ok (.aload_n 2, 1) := by decide +kernel
theorem dL_law_2745 : decode cL_law 2745 = .ok (.invokevirtual 155, 3) := by decide +kernel
theorem dL_law_2748 : decode cL_law 2748 = .ok (.iload 5, 2) := by decide +kernel
theorem dL_law_2750 : decode cL_law 2750 = .ok (.if_icmp .eq 5, 3) := by decide +kernel
theorem dL_law_2753 : decode cL_law 2753 = .ok (.iconst 0, 1) := by decide +kernel
theorem dL_law_2754 : decode cL_law 2754 = .ok (.ireturn, 1) := by decide +kernel
theorem dL_law_2755 : decode cL_law 2755 = .ok (.iload 5, 2) := by decide +kernel
theorem dL_law_2757 : decode cL_law 2757 = .ok (.ifCond .ne 15, 3) := by decide +kernel
theorem dL_law_2760 : decode cL_law 2760 = .ok (.aload_n 3, 1) := by decide +kernel
theorem dL_law_2761 : decode cL_law 2761 = .ok (.iconst 0, 1) := by decide +kernel
theorem dL_law_2762 : decode cL_law 2762 = .ok (.laload, 1) := by decide +kernel
theorem dL_law_2763 : decode cL_law 2763 = .ok (.iload 6, 2) := by decide +kernel
theorem dL_law_2765 : decode cL_law 2765 = .ok (.i2l, 1) := by decide +kernel
theorem dL_law_2766 : decode cL_law 2766 = .ok (.lcmp, 1) := by decide +kernel
theorem dL_law_2767 : decode cL_law 2767 = .ok (.ifCond .eq 5, 3) := by decide +kernel
theorem dL_law_2770 : decode cL_law 2770 = .ok (.iconst 0, 1) := by decide +kernel
theorem dL_law_2771 : decode cL_law 2771 = .ok (.ireturn, 1) := by decide +kernel
theorem dL_law_2772 : decode cL_law 2772 = .ok (.goto 3, 3) := by decide +kernel
theorem dL_law_2775 : decode cL_law 2775 = .ok (.iinc 4 5, 3) := by decide +kernel
theorem dL_law_2778 : decode cL_law 2778 = .ok (.goto (-2755), 3) := by decide +kernel
theorem dL_law_2781 : decode cL_law 2781 = .ok (.iconst 1, 1) := by decide +kernel
theorem dL_law_2782 : decode cL_law 2782 = .ok (.ireturn, 1) := by decide +kernel
