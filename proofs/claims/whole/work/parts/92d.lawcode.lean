/-! Part 92d: the law's instructions -/
theorem dL_law_772 : decode code 772 = .ok (.laload, 1) := by decide +kernel
theorem dL_law_773 : decode code 773 = .ok (.iload 7, 2) := by decide +kernel
theorem dL_law_775 : decode code 775 = .ok (.i2l, 1) := by decide +kernel
theorem dL_law_776 : decode code 776 = .ok (.lcmp, 1) := by decide +kernel
theorem dL_law_777 : decode code 777 = .ok (.ifCond .eq 5, 3) := by decide +kernel
theorem dL_law_780 : decode code 780 = .ok (.iconst 0, 1) := by decide +kernel
theorem dL_law_781 : decode code 781 = .ok (.ireturn, 1) := by decide +kernel
theorem dL_law_782 : decode code 782 = .ok (.goto 2131, 3) := by decide +kernel
theorem dL_law_785 : decode code 785 = .ok (.aload_n 1, 1) := by decide +kernel
theorem dL_law_786 : decode code 786 = .ok (.aload_n 0, 1) := by decide +kernel
theorem dL_law_787 : decode code 787 = .ok (.iload 5, 2) := by decide +kernel
theorem dL_law_789 : decode code 789 = .ok (.iconst 1, 1) := by decide +kernel
theorem dL_law_790 : decode code 790 = .ok (.iadd, 1) := by decide +kernel
theorem dL_law_791 : decode code 791 = .ok (.iaload, 1) := by decide +kernel
theorem dL_law_792 : decode code 792 = .ok (.aload_n 0, 1) := by decide +kernel
theorem dL_law_793 : decode code 793 = .ok (.iload 5, 2) := by decide +kernel
theorem dL_law_795 : decode code 795 = .ok (.iconst 2, 1) := by decide +kernel
theorem dL_law_796 : decode code 796 = .ok (.iadd, 1) := by decide +kernel
theorem dL_law_797 : decode code 797 = .ok (.iaload, 1) := by decide +kernel
theorem dL_law_798 : decode code 798 = .ok (.aload_n 3, 1) := by decide +kernel
theorem dL_law_799 : decode code 799 = .ok (.invokestatic 189, 3) := by decide +kernel
theorem dL_law_802 : decode code 802 = .ok (.istore 6, 2) := by decide +kernel
theorem dL_law_804 : decode code 804 = .ok (.aload_n 2, 1) := by decide +kernel
theorem dL_law_805 : decode code 805 = .ok (.aload_n 0, 1) := by decide +kernel
theorem dL_law_806 : decode code 806 = .ok (.iload 5, 2) := by decide +kernel
theorem dL_law_808 : decode code 808 = .ok (.iconst 1, 1) := by decide +kernel
theorem dL_law_809 : decode code 809 = .ok (.iadd, 1) := by decide +kernel
theorem dL_law_810 : decode code 810 = .ok (.iaload, 1) := by decide +kernel
theorem dL_law_811 : decode code 811 = .ok (.aload_n 0, 1) := by decide +kernel
theorem dL_law_812 : decode code 812 = .ok (.iload 5, 2) := by decide +kernel
theorem dL_law_814 : decode code 814 = .ok (.iconst 2, 1) := by decide +kernel
theorem dL_law_815 : decode code 815 = .ok (.iadd, 1) := by decide +kernel
theorem dL_law_816 : decode code 816 = .ok (.iaload, 1) := by decide +kernel
theorem dL_law_817 : decode code 817 = .ok (.invokevirtual 191, 3) := by decide +kernel
theorem dL_law_820 : decode code 820 = .ok (.istore 7, 2) := by decide +kernel
theorem dL_law_822 : decode code 822 = .ok (.aload_n 2, 1) := by decide +kernel
theorem dL_law_823 : decode code 823 = .ok (.invokevirtual 169, 3) := by decide +kernel
theorem dL_law_826 : decode code 826 = .ok (.iload 6, 2) := by decide +kernel
theorem dL_law_828 : decode code 828 = .ok (.if_icmp .eq 5, 3) := by decide +kernel
theorem dL_law_831 : decode code 831 = .ok (.iconst 0, 1) := by decide +kernel
theorem dL_law_832 : decode code 832 = .ok (.ireturn, 1) := by decide +kernel
theorem dL_law_833 : decode code 833 = .ok (.iload 6, 2) := by decide +kernel
theorem dL_law_835 : decode code 835 = .ok (.ifCond .ne 15, 3) := by decide +kernel
theorem dL_law_838 : decode code 838 = .ok (.aload_n 3, 1) := by decide +kernel
theorem dL_law_839 : decode code 839 = .ok (.iconst 0, 1) := by decide +kernel
theorem dL_law_840 : decode code 840 = .ok (.laload, 1) := by decide +kernel
theorem dL_law_841 : decode code 841 = .ok (.iload 7, 2) := by decide +kernel
theorem dL_law_843 : decode code 843 = .ok (.i2l, 1) := by decide +kernel
theorem dL_law_844 : decode code 844 = .ok (.lcmp, 1) := by decide +kernel
theorem dL_law_845 : decode code 845 = .ok (.ifCond .eq 5, 3) := by decide +kernel
theorem dL_law_848 : decode code 848 = .ok (.iconst 0, 1) := by decide +kernel
theorem dL_law_849 : decode code 849 = .ok (.ireturn, 1) := by decide +kernel
theorem dL_law_850 : decode code 850 = .ok (.goto 2063, 3) := by decide +kernel
theorem dL_law_853 : decode code 853 = .ok (.aload_n 1, 1) := by decide +kernel
theorem dL_law_854 : decode code 854 = .ok (.aload_n 0, 1) := by decide +kernel
theorem dL_law_855 : decode code 855 = .ok (.iload 5, 2) := by decide +kernel
theorem dL_law_857 : decode code 857 = .ok (.iconst 1, 1) := by decide +kernel
theorem dL_law_858 : decode code 858 = .ok (.iadd, 1) := by decide +kernel
theorem dL_law_859 : decode code 859 = .ok (.iaload, 1) := by decide +kernel
theorem dL_law_860 : decode code 860 = .ok (.aload_n 3, 1) := by decide +kernel
theorem dL_law_861 : decode code 861 = .ok (.invokestatic 192, 3) := by decide +kernel
theorem dL_law_864 : decode code 864 = .ok (.istore 6, 2) := by decide +kernel
theorem dL_law_866 : decode code 866 = .ok (.aload_n 2, 1) := by decide +kernel
theorem dL_law_867 : decode code 867 = .ok (.aload_n 0, 1) := by decide +kernel
theorem dL_law_868 : decode code 868 = .ok (.iload 5, 2) := by decide +kernel
theorem dL_law_870 : decode code 870 = .ok (.iconst 1, 1) := by decide +kernel
theorem dL_law_871 : decode code 871 = .ok (.iadd, 1) := by decide +kernel
theorem dL_law_872 : decode code 872 = .ok (.iaload, 1) := by decide +kernel
theorem dL_law_873 : decode code 873 = .ok (.invokevirtual 194, 3) := by decide +kernel
theorem dL_law_876 : decode code 876 = .ok (.istore 7, 2) := by decide +kernel
theorem dL_law_878 : decode code 878 = .ok (.aload_n 2, 1) := by decide +kernel
theorem dL_law_879 : decode code 879 = .ok (.invokevirtual 169, 3) := by decide +kernel
theorem dL_law_882 : decode code 882 = .ok (.iload 6, 2) := by decide +kernel
theorem dL_law_884 : decode code 884 = .ok (.if_icmp .eq 5, 3) := by decide +kernel
theorem dL_law_887 : decode code 887 = .ok (.iconst 0, 1) := by decide +kernel
theorem dL_law_888 : decode code 888 = .ok (.ireturn, 1) := by decide +kernel
theorem dL_law_889 : decode code 889 = .ok (.iload 6, 2) := by decide +kernel
theorem dL_law_891 : decode code 891 = .ok (.ifCond .ne 15, 3) := by decide +kernel
theorem dL_law_894 : decode code 894 = .ok (.aload_n 3, 1) := by decide +kernel
theorem dL_law_895 : decode code 895 = .ok (.iconst 0, 1) := by decide +kernel
theorem dL_law_896 : decode code 896 = .ok (.laload, 1) := by decide +kernel
theorem dL_law_897 : decode code 897 = .ok (.iload 7, 2) := by decide +kernel
theorem dL_law_899 : decode code 899 = .ok (.i2l, 1) := by decide +kernel
theorem dL_law_900 : decode code 900 = .ok (.lcmp, 1) := by decide +kernel
theorem dL_law_901 : decode code 901 = .ok (.ifCond .eq 5, 3) := by decide +kernel
theorem dL_law_904 : decode code 904 = .ok (.iconst 0, 1) := by decide +kernel
theorem dL_law_905 : decode code 905 = .ok (.ireturn, 1) := by decide +kernel
theorem dL_law_906 : decode code 906 = .ok (.goto 2007, 3) := by decide +kernel
theorem dL_law_909 : decode code 909 = .ok (.aload_n 1, 1) := by decide +kernel
theorem dL_law_910 : decode code 910 = .ok (.aload_n 0, 1) := by decide +kernel
theorem dL_law_911 : decode code 911 = .ok (.iload 5, 2) := by decide +kernel
theorem dL_law_913 : decode code 913 = .ok (.iconst 1, 1) := by decide +kernel
theorem dL_law_914 : decode code 914 = .ok (.iadd, 1) := by decide +kernel
theorem dL_law_915 : decode code 915 = .ok (.iaload, 1) := by decide +kernel
theorem dL_law_916 : decode code 916 = .ok (.aload_n 3, 1) := by decide +kernel
theorem dL_law_917 : decode code 917 = .ok (.invokestatic 195, 3) := by decide +kernel
theorem dL_law_920 : decode code 920 = .ok (.istore 6, 2) := by decide +kernel
theorem dL_law_922 : decode code 922 = .ok (.aload_n 2, 1) := by decide +kernel
theorem dL_law_923 : decode code 923 = .ok (.aload_n 0, 1) := by decide +kernel
theorem dL_law_924 : decode code 924 = .ok (.iload 5, 2) := by decide +kernel
theorem dL_law_926 : decode code 926 = .ok (.iconst 1, 1) := by decide +kernel
theorem dL_law_927 : decode code 927 = .ok (.iadd, 1) := by decide +kernel
theorem dL_law_928 : decode code 928 = .ok (.iaload, 1) := by decide +kernel
theorem dL_law_929 : decode code 929 = .ok (.invokevirtual 197, 3) := by decide +kernel
theorem dL_law_932 : decode code 932 = .ok (.istore 7, 2) := by decide +kernel
theorem dL_law_934 : decode code 934 = .ok (.aload_n 2, 1) := by decide +kernel
theorem dL_law_935 : decode code 935 = .ok (.invokevirtual 169, 3) := by decide +kernel
theorem dL_law_938 : decode code 938 = .ok (.iload 6, 2) := by decide +kernel
theorem dL_law_940 : decode code 940 = .ok (.if_icmp .eq 5, 3) := by decide +kernel
theorem dL_law_943 : decode code 943 = .ok (.iconst 0, 1) := by decide +kernel
theorem dL_law_944 : decode code 944 = .ok (.ireturn, 1) := by decide +kernel
theorem dL_law_945 : decode code 945 = .ok (.iload 6, 2) := by decide +kernel
theorem dL_law_947 : decode code 947 = .ok (.ifCond .ne 15, 3) := by decide +kernel
theorem dL_law_950 : decode code 950 = .ok (.aload_n 3, 1) := by decide +kernel
theorem dL_law_951 : decode code 951 = .ok (.iconst 0, 1) := by decide +kernel
theorem dL_law_952 : decode code 952 = .ok (.laload, 1) := by decide +kernel
theorem dL_law_953 : decode code 953 = .ok (.iload 7, 2) := by decide +kernel
theorem dL_law_955 : decode code 955 = .ok (.i2l, 1) := by decide +kernel
theorem dL_law_956 : decode code 956 = .ok (.lcmp, 1) := by decide +kernel
theorem dL_law_957 : decode code 957 = .ok (.ifCond .eq 5, 3) := by decide +kernel
theorem dL_law_960 : decode code 960 = .ok (.iconst 0, 1) := by decide +kernel
theorem dL_law_961 : decode code 961 = .ok (.ireturn, 1) := by decide +kernel
theorem dL_law_962 : decode code 962 = .ok (.goto 1951, 3) := by decide +kernel
theorem dL_law_965 : decode code 965 = .ok (.aload_n 1, 1) := by decide +kernel
theorem dL_law_966 : decode code 966 = .ok (.aload_n 0, 1) := by decide +kernel
