theorem d_Lw_law_734 : decode code 734 = .ok (.ireturn, 1) := by decide +kernel
theorem d_Lw_law_735 : decode code 735 = .ok (.iload 5, 2) := by decide +kernel
theorem d_Lw_law_737 : decode code 737 = .ok (.ifCond .ne 14, 3) := by decide +kernel
theorem d_Lw_law_740 : decode code 740 = .ok (.aload_n 3, 1) := by decide +kernel
theorem d_Lw_law_741 : decode code 741 = .ok (.iconst 0, 1) := by decide +kernel
theorem d_Lw_law_742 : decode code 742 = .ok (.laload, 1) := by decide +kernel
theorem d_Lw_law_743 : decode code 743 = .ok (.lload 6, 2) := by decide +kernel
theorem d_Lw_law_745 : decode code 745 = .ok (.lcmp, 1) := by decide +kernel
theorem d_Lw_law_746 : decode code 746 = .ok (.ifCond .eq 5, 3) := by decide +kernel
theorem d_Lw_law_749 : decode code 749 = .ok (.iconst 0, 1) := by decide +kernel
theorem d_Lw_law_750 : decode code 750 = .ok (.ireturn, 1) := by decide +kernel
theorem d_Lw_law_751 : decode code 751 = .ok (.goto 188, 3) := by decide +kernel
theorem d_Lw_law_754 : decode code 754 = .ok (.aload_n 1, 1) := by decide +kernel
theorem d_Lw_law_755 : decode code 755 = .ok (.aload_n 0, 1) := by decide +kernel
theorem d_Lw_law_756 : decode code 756 = .ok (.iload 4, 2) := by decide +kernel
theorem d_Lw_law_758 : decode code 758 = .ok (.iconst 1, 1) := by decide +kernel
theorem d_Lw_law_759 : decode code 759 = .ok (.iadd, 1) := by decide +kernel
theorem d_Lw_law_760 : decode code 760 = .ok (.iaload, 1) := by decide +kernel
theorem d_Lw_law_761 : decode code 761 = .ok (.aload_n 0, 1) := by decide +kernel
theorem d_Lw_law_762 : decode code 762 = .ok (.iload 4, 2) := by decide +kernel
theorem d_Lw_law_764 : decode code 764 = .ok (.iconst 2, 1) := by decide +kernel
theorem d_Lw_law_765 : decode code 765 = .ok (.iadd, 1) := by decide +kernel
theorem d_Lw_law_766 : decode code 766 = .ok (.iaload, 1) := by decide +kernel
theorem d_Lw_law_767 : decode code 767 = .ok (.aload_n 0, 1) := by decide +kernel
theorem d_Lw_law_768 : decode code 768 = .ok (.iload 4, 2) := by decide +kernel
theorem d_Lw_law_770 : decode code 770 = .ok (.iconst 3, 1) := by decide +kernel
theorem d_Lw_law_771 : decode code 771 = .ok (.iadd, 1) := by decide +kernel
theorem d_Lw_law_772 : decode code 772 = .ok (.iaload, 1) := by decide +kernel
theorem d_Lw_law_773 : decode code 773 = .ok (.aload_n 3, 1) := by decide +kernel
theorem d_Lw_law_774 : decode code 774 = .ok (.invokestatic 112, 3) := by decide +kernel
theorem d_Lw_law_777 : decode code 777 = .ok (.istore 5, 2) := by decide +kernel
theorem d_Lw_law_779 : decode code 779 = .ok (.aload_n 2, 1) := by decide +kernel
theorem d_Lw_law_780 : decode code 780 = .ok (.aload_n 0, 1) := by decide +kernel
theorem d_Lw_law_781 : decode code 781 = .ok (.iload 4, 2) := by decide +kernel
theorem d_Lw_law_783 : decode code 783 = .ok (.iconst 1, 1) := by decide +kernel
theorem d_Lw_law_784 : decode code 784 = .ok (.iadd, 1) := by decide +kernel
theorem d_Lw_law_785 : decode code 785 = .ok (.iaload, 1) := by decide +kernel
theorem d_Lw_law_786 : decode code 786 = .ok (.aload_n 0, 1) := by decide +kernel
theorem d_Lw_law_787 : decode code 787 = .ok (.iload 4, 2) := by decide +kernel
theorem d_Lw_law_789 : decode code 789 = .ok (.iconst 2, 1) := by decide +kernel
theorem d_Lw_law_790 : decode code 790 = .ok (.iadd, 1) := by decide +kernel
theorem d_Lw_law_791 : decode code 791 = .ok (.iaload, 1) := by decide +kernel
theorem d_Lw_law_792 : decode code 792 = .ok (.aload_n 0, 1) := by decide +kernel
theorem d_Lw_law_793 : decode code 793 = .ok (.iload 4, 2) := by decide +kernel
theorem d_Lw_law_795 : decode code 795 = .ok (.iconst 3, 1) := by decide +kernel
theorem d_Lw_law_796 : decode code 796 = .ok (.iadd, 1) := by decide +kernel
theorem d_Lw_law_797 : decode code 797 = .ok (.iaload, 1) := by decide +kernel
theorem d_Lw_law_798 : decode code 798 = .ok (.invokevirtual 115, 3) := by decide +kernel
theorem d_Lw_law_801 : decode code 801 = .ok (.istore 6, 2) := by decide +kernel
theorem d_Lw_law_803 : decode code 803 = .ok (.aload_n 2, 1) := by decide +kernel
theorem d_Lw_law_804 : decode code 804 = .ok (.invokevirtual 79, 3) := by decide +kernel
theorem d_Lw_law_807 : decode code 807 = .ok (.iload 5, 2) := by decide +kernel
theorem d_Lw_law_809 : decode code 809 = .ok (.if_icmp .eq 5, 3) := by decide +kernel
theorem d_Lw_law_812 : decode code 812 = .ok (.iconst 0, 1) := by decide +kernel
theorem d_Lw_law_813 : decode code 813 = .ok (.ireturn, 1) := by decide +kernel
theorem d_Lw_law_814 : decode code 814 = .ok (.iload 5, 2) := by decide +kernel
theorem d_Lw_law_816 : decode code 816 = .ok (.ifCond .ne 15, 3) := by decide +kernel
theorem d_Lw_law_819 : decode code 819 = .ok (.aload_n 3, 1) := by decide +kernel
theorem d_Lw_law_820 : decode code 820 = .ok (.iconst 0, 1) := by decide +kernel
theorem d_Lw_law_821 : decode code 821 = .ok (.laload, 1) := by decide +kernel
theorem d_Lw_law_822 : decode code 822 = .ok (.iload 6, 2) := by decide +kernel
theorem d_Lw_law_824 : decode code 824 = .ok (.i2l, 1) := by decide +kernel
theorem d_Lw_law_825 : decode code 825 = .ok (.lcmp, 1) := by decide +kernel
theorem d_Lw_law_826 : decode code 826 = .ok (.ifCond .eq 5, 3) := by decide +kernel
theorem d_Lw_law_829 : decode code 829 = .ok (.iconst 0, 1) := by decide +kernel
theorem d_Lw_law_830 : decode code 830 = .ok (.ireturn, 1) := by decide +kernel
theorem d_Lw_law_831 : decode code 831 = .ok (.goto 108, 3) := by decide +kernel
theorem d_Lw_law_834 : decode code 834 = .ok (.aload_n 1, 1) := by decide +kernel
theorem d_Lw_law_835 : decode code 835 = .ok (.aload_n 0, 1) := by decide +kernel
theorem d_Lw_law_836 : decode code 836 = .ok (.iload 4, 2) := by decide +kernel
theorem d_Lw_law_838 : decode code 838 = .ok (.iconst 1, 1) := by decide +kernel
theorem d_Lw_law_839 : decode code 839 = .ok (.iadd, 1) := by decide +kernel
theorem d_Lw_law_840 : decode code 840 = .ok (.iaload, 1) := by decide +kernel
theorem d_Lw_law_841 : decode code 841 = .ok (.aload_n 0, 1) := by decide +kernel
theorem d_Lw_law_842 : decode code 842 = .ok (.iload 4, 2) := by decide +kernel
theorem d_Lw_law_844 : decode code 844 = .ok (.iconst 2, 1) := by decide +kernel
theorem d_Lw_law_845 : decode code 845 = .ok (.iadd, 1) := by decide +kernel
theorem d_Lw_law_846 : decode code 846 = .ok (.iaload, 1) := by decide +kernel
theorem d_Lw_law_847 : decode code 847 = .ok (.aload_n 0, 1) := by decide +kernel
theorem d_Lw_law_848 : decode code 848 = .ok (.iload 4, 2) := by decide +kernel
theorem d_Lw_law_850 : decode code 850 = .ok (.iconst 3, 1) := by decide +kernel
theorem d_Lw_law_851 : decode code 851 = .ok (.iadd, 1) := by decide +kernel
theorem d_Lw_law_852 : decode code 852 = .ok (.iaload, 1) := by decide +kernel
theorem d_Lw_law_853 : decode code 853 = .ok (.aload_n 3, 1) := by decide +kernel
theorem d_Lw_law_854 : decode code 854 = .ok (.invokestatic 116, 3) := by decide +kernel
theorem d_Lw_law_857 : decode code 857 = .ok (.istore 5, 2) := by decide +kernel
theorem d_Lw_law_859 : decode code 859 = .ok (.aload_n 2, 1) := by decide +kernel
theorem d_Lw_law_860 : decode code 860 = .ok (.aload_n 0, 1) := by decide +kernel
theorem d_Lw_law_861 : decode code 861 = .ok (.iload 4, 2) := by decide +kernel
theorem d_Lw_law_863 : decode code 863 = .ok (.iconst 1, 1) := by decide +kernel
theorem d_Lw_law_864 : decode code 864 = .ok (.iadd, 1) := by decide +kernel
theorem d_Lw_law_865 : decode code 865 = .ok (.iaload, 1) := by decide +kernel
theorem d_Lw_law_866 : decode code 866 = .ok (.aload_n 0, 1) := by decide +kernel
theorem d_Lw_law_867 : decode code 867 = .ok (.iload 4, 2) := by decide +kernel
theorem d_Lw_law_869 : decode code 869 = .ok (.iconst 2, 1) := by decide +kernel
theorem d_Lw_law_870 : decode code 870 = .ok (.iadd, 1) := by decide +kernel
theorem d_Lw_law_871 : decode code 871 = .ok (.iaload, 1) := by decide +kernel
theorem d_Lw_law_872 : decode code 872 = .ok (.aload_n 0, 1) := by decide +kernel
theorem d_Lw_law_873 : decode code 873 = .ok (.iload 4, 2) := by decide +kernel
theorem d_Lw_law_875 : decode code 875 = .ok (.iconst 3, 1) := by decide +kernel
theorem d_Lw_law_876 : decode code 876 = .ok (.iadd, 1) := by decide +kernel
theorem d_Lw_law_877 : decode code 877 = .ok (.iaload, 1) := by decide +kernel
theorem d_Lw_law_878 : decode code 878 = .ok (.invokevirtual 118, 3) := by decide +kernel
theorem d_Lw_law_881 : decode code 881 = .ok (.istore 6, 2) := by decide +kernel
theorem d_Lw_law_883 : decode code 883 = .ok (.aload_n 2, 1) := by decide +kernel
theorem d_Lw_law_884 : decode code 884 = .ok (.invokevirtual 79, 3) := by decide +kernel
theorem d_Lw_law_887 : decode code 887 = .ok (.iload 5, 2) := by decide +kernel
theorem d_Lw_law_889 : decode code 889 = .ok (.if_icmp .eq 5, 3) := by decide +kernel
theorem d_Lw_law_892 : decode code 892 = .ok (.iconst 0, 1) := by decide +kernel
theorem d_Lw_law_893 : decode code 893 = .ok (.ireturn, 1) := by decide +kernel
theorem d_Lw_law_894 : decode code 894 = .ok (.iload 5, 2) := by decide +kernel
theorem d_Lw_law_896 : decode code 896 = .ok (.ifCond .ne 15, 3) := by decide +kernel
theorem d_Lw_law_899 : decode code 899 = .ok (.aload_n 3, 1) := by decide +kernel
theorem d_Lw_law_900 : decode code 900 = .ok (.iconst 0, 1) := by decide +kernel
theorem d_Lw_law_901 : decode code 901 = .ok (.laload, 1) := by decide +kernel
theorem d_Lw_law_902 : decode code 902 = .ok (.iload 6, 2) := by decide +kernel
theorem d_Lw_law_904 : decode code 904 = .ok (.i2l, 1) := by decide +kernel
theorem d_Lw_law_905 : decode code 905 = .ok (.lcmp, 1) := by decide +kernel
theorem d_Lw_law_906 : decode code 906 = .ok (.ifCond .eq 5, 3) := by decide +kernel
theorem d_Lw_law_909 : decode code 909 = .ok (.iconst 0, 1) := by decide +kernel
theorem d_Lw_law_910 : decode code 910 = .ok (.ireturn, 1) := by decide +kernel
theorem d_Lw_law_911 : decode code 911 = .ok (.goto 28, 3) := by decide +kernel
theorem d_Lw_law_914 : decode code 914 = .ok (.aload_n 1, 1) := by decide +kernel
theorem d_Lw_law_915 : decode code 915 = .ok (.aload_n 0, 1) := by decide +kernel
theorem d_Lw_law_916 : decode code 916 = .ok (.iload 4, 2) := by decide +kernel
theorem d_Lw_law_918 : decode code 918 = .ok (.iconst 1, 1) := by decide +kernel
theorem d_Lw_law_919 : decode code 919 = .ok (.iadd, 1) := by decide +kernel
theorem d_Lw_law_920 : decode code 920 = .ok (.iaload, 1) := by decide +kernel
theorem d_Lw_law_921 : decode code 921 = .ok (.invokevirtual 119, 3) := by decide +kernel
theorem d_Lw_law_924 : decode code 924 = .ok (.aload_n 2, 1) := by decide +kernel
theorem d_Lw_law_925 : decode code 925 = .ok (.aload_n 0, 1) := by decide +kernel
theorem d_Lw_law_926 : decode code 926 = .ok (.iload 4, 2) := by decide +kernel
theorem d_Lw_law_928 : decode code 928 = .ok (.iconst 1, 1) := by decide +kernel
theorem d_Lw_law_929 : decode code 929 = .ok (.iadd, 1) := by decide +kernel
theorem d_Lw_law_930 : decode code 930 = .ok (.iaload, 1) := by decide +kernel
theorem d_Lw_law_931 : decode code 931 = .ok (.invokevirtual 122, 3) := by decide +kernel
theorem d_Lw_law_934 : decode code 934 = .ok (.if_icmp .eq 5, 3) := by decide +kernel
theorem d_Lw_law_937 : decode code 937 = .ok (.iconst 0, 1) := by decide +kernel
theorem d_Lw_law_938 : decode code 938 = .ok (.ireturn, 1) := by decide +kernel
theorem d_Lw_law_939 : decode code 939 = .ok (.iinc 4 6, 3) := by decide +kernel
theorem d_Lw_law_942 : decode code 942 = .ok (.goto (-919), 3) := by decide +kernel
theorem d_Lw_law_945 : decode code 945 = .ok (.iconst 1, 1) := by decide +kernel
theorem d_Lw_law_946 : decode code 946 = .ok (.ireturn, 1) := by decide +kernel
