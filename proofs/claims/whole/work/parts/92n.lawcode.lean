/-! Part 92n: the law's instructions -/
theorem dL_law_2706 : decode code 2706 = .ok (.iaload, 1) := by decide +kernel
theorem dL_law_2707 : decode code 2707 = .ok (.aload_n 3, 1) := by decide +kernel
theorem dL_law_2708 : decode code 2708 = .ok (.invokestatic 286, 3) := by decide +kernel
theorem dL_law_2711 : decode code 2711 = .ok (.istore 6, 2) := by decide +kernel
theorem dL_law_2713 : decode code 2713 = .ok (.aload_n 2, 1) := by decide +kernel
theorem dL_law_2714 : decode code 2714 = .ok (.aload_n 0, 1) := by decide +kernel
theorem dL_law_2715 : decode code 2715 = .ok (.iload 5, 2) := by decide +kernel
theorem dL_law_2717 : decode code 2717 = .ok (.iconst 1, 1) := by decide +kernel
theorem dL_law_2718 : decode code 2718 = .ok (.iadd, 1) := by decide +kernel
theorem dL_law_2719 : decode code 2719 = .ok (.iaload, 1) := by decide +kernel
theorem dL_law_2720 : decode code 2720 = .ok (.aload_n 0, 1) := by decide +kernel
theorem dL_law_2721 : decode code 2721 = .ok (.iload 5, 2) := by decide +kernel
theorem dL_law_2723 : decode code 2723 = .ok (.iconst 2, 1) := by decide +kernel
theorem dL_law_2724 : decode code 2724 = .ok (.iadd, 1) := by decide +kernel
theorem dL_law_2725 : decode code 2725 = .ok (.iaload, 1) := by decide +kernel
theorem dL_law_2726 : decode code 2726 = .ok (.invokevirtual 288, 3) := by decide +kernel
theorem dL_law_2729 : decode code 2729 = .ok (.istore 7, 2) := by decide +kernel
theorem dL_law_2731 : decode code 2731 = .ok (.aload_n 2, 1) := by decide +kernel
theorem dL_law_2732 : decode code 2732 = .ok (.invokevirtual 169, 3) := by decide +kernel
theorem dL_law_2735 : decode code 2735 = .ok (.iload 6, 2) := by decide +kernel
theorem dL_law_2737 : decode code 2737 = .ok (.if_icmp .eq 5, 3) := by decide +kernel
theorem dL_law_2740 : decode code 2740 = .ok (.iconst 0, 1) := by decide +kernel
theorem dL_law_2741 : decode code 2741 = .ok (.ireturn, 1) := by decide +kernel
theorem dL_law_2742 : decode code 2742 = .ok (.iload 6, 2) := by decide +kernel
theorem dL_law_2744 : decode code 2744 = .ok (.ifCond .ne 15, 3) := by decide +kernel
theorem dL_law_2747 : decode code 2747 = .ok (.aload_n 3, 1) := by decide +kernel
theorem dL_law_2748 : decode code 2748 = .ok (.iconst 0, 1) := by decide +kernel
theorem dL_law_2749 : decode code 2749 = .ok (.laload, 1) := by decide +kernel
theorem dL_law_2750 : decode code 2750 = .ok (.iload 7, 2) := by decide +kernel
theorem dL_law_2752 : decode code 2752 = .ok (.i2l, 1) := by decide +kernel
theorem dL_law_2753 : decode code 2753 = .ok (.lcmp, 1) := by decide +kernel
theorem dL_law_2754 : decode code 2754 = .ok (.ifCond .eq 5, 3) := by decide +kernel
theorem dL_law_2757 : decode code 2757 = .ok (.iconst 0, 1) := by decide +kernel
theorem dL_law_2758 : decode code 2758 = .ok (.ireturn, 1) := by decide +kernel
theorem dL_law_2759 : decode code 2759 = .ok (.goto 154, 3) := by decide +kernel
theorem dL_law_2762 : decode code 2762 = .ok (.aload_n 1, 1) := by decide +kernel
theorem dL_law_2763 : decode code 2763 = .ok (.aload_n 0, 1) := by decide +kernel
theorem dL_law_2764 : decode code 2764 = .ok (.iload 5, 2) := by decide +kernel
theorem dL_law_2766 : decode code 2766 = .ok (.iconst 1, 1) := by decide +kernel
theorem dL_law_2767 : decode code 2767 = .ok (.iadd, 1) := by decide +kernel
theorem dL_law_2768 : decode code 2768 = .ok (.iaload, 1) := by decide +kernel
theorem dL_law_2769 : decode code 2769 = .ok (.aload_n 3, 1) := by decide +kernel
theorem dL_law_2770 : decode code 2770 = .ok (.invokestatic 289, 3) := by decide +kernel
theorem dL_law_2773 : decode code 2773 = .ok (.istore 6, 2) := by decide +kernel
theorem dL_law_2775 : decode code 2775 = .ok (.aload_n 2, 1) := by decide +kernel
theorem dL_law_2776 : decode code 2776 = .ok (.aload_n 0, 1) := by decide +kernel
theorem dL_law_2777 : decode code 2777 = .ok (.iload 5, 2) := by decide +kernel
theorem dL_law_2779 : decode code 2779 = .ok (.iconst 1, 1) := by decide +kernel
theorem dL_law_2780 : decode code 2780 = .ok (.iadd, 1) := by decide +kernel
theorem dL_law_2781 : decode code 2781 = .ok (.iaload, 1) := by decide +kernel
theorem dL_law_2782 : decode code 2782 = .ok (.invokevirtual 291, 3) := by decide +kernel
theorem dL_law_2785 : decode code 2785 = .ok (.istore 7, 2) := by decide +kernel
theorem dL_law_2787 : decode code 2787 = .ok (.aload_n 2, 1) := by decide +kernel
theorem dL_law_2788 : decode code 2788 = .ok (.invokevirtual 169, 3) := by decide +kernel
theorem dL_law_2791 : decode code 2791 = .ok (.iload 6, 2) := by decide +kernel
theorem dL_law_2793 : decode code 2793 = .ok (.if_icmp .eq 5, 3) := by decide +kernel
theorem dL_law_2796 : decode code 2796 = .ok (.iconst 0, 1) := by decide +kernel
theorem dL_law_2797 : decode code 2797 = .ok (.ireturn, 1) := by decide +kernel
theorem dL_law_2798 : decode code 2798 = .ok (.iload 6, 2) := by decide +kernel
theorem dL_law_2800 : decode code 2800 = .ok (.ifCond .ne 15, 3) := by decide +kernel
theorem dL_law_2803 : decode code 2803 = .ok (.aload_n 3, 1) := by decide +kernel
theorem dL_law_2804 : decode code 2804 = .ok (.iconst 0, 1) := by decide +kernel
theorem dL_law_2805 : decode code 2805 = .ok (.laload, 1) := by decide +kernel
theorem dL_law_2806 : decode code 2806 = .ok (.iload 7, 2) := by decide +kernel
theorem dL_law_2808 : decode code 2808 = .ok (.i2l, 1) := by decide +kernel
theorem dL_law_2809 : decode code 2809 = .ok (.lcmp, 1) := by decide +kernel
theorem dL_law_2810 : decode code 2810 = .ok (.ifCond .eq 5, 3) := by decide +kernel
theorem dL_law_2813 : decode code 2813 = .ok (.iconst 0, 1) := by decide +kernel
theorem dL_law_2814 : decode code 2814 = .ok (.ireturn, 1) := by decide +kernel
theorem dL_law_2815 : decode code 2815 = .ok (.goto 98, 3) := by decide +kernel
theorem dL_law_2818 : decode code 2818 = .ok (.aload_n 1, 1) := by decide +kernel
theorem dL_law_2819 : decode code 2819 = .ok (.invokevirtual 292, 3) := by decide +kernel
theorem dL_law_2822 : decode code 2822 = .ok (.aload_n 2, 1) := by decide +kernel
theorem dL_law_2823 : decode code 2823 = .ok (.invokevirtual 295, 3) := by decide +kernel
theorem dL_law_2826 : decode code 2826 = .ok (.if_icmp .eq 87, 3) := by decide +kernel
theorem dL_law_2829 : decode code 2829 = .ok (.iconst 0, 1) := by decide +kernel
theorem dL_law_2830 : decode code 2830 = .ok (.ireturn, 1) := by decide +kernel
theorem dL_law_2831 : decode code 2831 = .ok (.aload_n 1, 1) := by decide +kernel
theorem dL_law_2832 : decode code 2832 = .ok (.aload_n 0, 1) := by decide +kernel
theorem dL_law_2833 : decode code 2833 = .ok (.iload 5, 2) := by decide +kernel
theorem dL_law_2835 : decode code 2835 = .ok (.iconst 1, 1) := by decide +kernel
theorem dL_law_2836 : decode code 2836 = .ok (.iadd, 1) := by decide +kernel
theorem dL_law_2837 : decode code 2837 = .ok (.iaload, 1) := by decide +kernel
theorem dL_law_2838 : decode code 2838 = .ok (.invokevirtual 296, 3) := by decide +kernel
theorem dL_law_2841 : decode code 2841 = .ok (.aload_n 2, 1) := by decide +kernel
theorem dL_law_2842 : decode code 2842 = .ok (.aload_n 0, 1) := by decide +kernel
theorem dL_law_2843 : decode code 2843 = .ok (.iload 5, 2) := by decide +kernel
theorem dL_law_2845 : decode code 2845 = .ok (.iconst 1, 1) := by decide +kernel
theorem dL_law_2846 : decode code 2846 = .ok (.iadd, 1) := by decide +kernel
theorem dL_law_2847 : decode code 2847 = .ok (.iaload, 1) := by decide +kernel
theorem dL_law_2848 : decode code 2848 = .ok (.invokevirtual 299, 3) := by decide +kernel
theorem dL_law_2851 : decode code 2851 = .ok (.if_icmp .eq 62, 3) := by decide +kernel
theorem dL_law_2854 : decode code 2854 = .ok (.iconst 0, 1) := by decide +kernel
theorem dL_law_2855 : decode code 2855 = .ok (.ireturn, 1) := by decide +kernel
theorem dL_law_2856 : decode code 2856 = .ok (.aload_n 1, 1) := by decide +kernel
theorem dL_law_2857 : decode code 2857 = .ok (.invokevirtual 300, 3) := by decide +kernel
theorem dL_law_2860 : decode code 2860 = .ok (.aload_n 2, 1) := by decide +kernel
theorem dL_law_2861 : decode code 2861 = .ok (.invokevirtual 303, 3) := by decide +kernel
theorem dL_law_2864 : decode code 2864 = .ok (.if_icmp .eq 49, 3) := by decide +kernel
theorem dL_law_2867 : decode code 2867 = .ok (.iconst 0, 1) := by decide +kernel
theorem dL_law_2868 : decode code 2868 = .ok (.ireturn, 1) := by decide +kernel
theorem dL_law_2869 : decode code 2869 = .ok (.aload_n 1, 1) := by decide +kernel
theorem dL_law_2870 : decode code 2870 = .ok (.aload_n 3, 1) := by decide +kernel
theorem dL_law_2871 : decode code 2871 = .ok (.invokestatic 304, 3) := by decide +kernel
theorem dL_law_2874 : decode code 2874 = .ok (.istore 6, 2) := by decide +kernel
theorem dL_law_2876 : decode code 2876 = .ok (.aload_n 2, 1) := by decide +kernel
theorem dL_law_2877 : decode code 2877 = .ok (.invokevirtual 306, 3) := by decide +kernel
theorem dL_law_2880 : decode code 2880 = .ok (.istore 7, 2) := by decide +kernel
theorem dL_law_2882 : decode code 2882 = .ok (.aload_n 2, 1) := by decide +kernel
theorem dL_law_2883 : decode code 2883 = .ok (.invokevirtual 169, 3) := by decide +kernel
theorem dL_law_2886 : decode code 2886 = .ok (.iload 6, 2) := by decide +kernel
theorem dL_law_2888 : decode code 2888 = .ok (.if_icmp .eq 5, 3) := by decide +kernel
theorem dL_law_2891 : decode code 2891 = .ok (.iconst 0, 1) := by decide +kernel
theorem dL_law_2892 : decode code 2892 = .ok (.ireturn, 1) := by decide +kernel
theorem dL_law_2893 : decode code 2893 = .ok (.iload 6, 2) := by decide +kernel
theorem dL_law_2895 : decode code 2895 = .ok (.ifCond .ne 15, 3) := by decide +kernel
theorem dL_law_2898 : decode code 2898 = .ok (.aload_n 3, 1) := by decide +kernel
theorem dL_law_2899 : decode code 2899 = .ok (.iconst 0, 1) := by decide +kernel
theorem dL_law_2900 : decode code 2900 = .ok (.laload, 1) := by decide +kernel
theorem dL_law_2901 : decode code 2901 = .ok (.iload 7, 2) := by decide +kernel
theorem dL_law_2903 : decode code 2903 = .ok (.i2l, 1) := by decide +kernel
theorem dL_law_2904 : decode code 2904 = .ok (.lcmp, 1) := by decide +kernel
theorem dL_law_2905 : decode code 2905 = .ok (.ifCond .eq 5, 3) := by decide +kernel
theorem dL_law_2908 : decode code 2908 = .ok (.iconst 0, 1) := by decide +kernel
theorem dL_law_2909 : decode code 2909 = .ok (.ireturn, 1) := by decide +kernel
