theorem d_Lw_law_798 : decode code 798 = .ok (.aload_n 3, 1) := by decide +kernel
theorem d_Lw_law_799 : decode code 799 = .ok (.iconst 0, 1) := by decide +kernel
theorem d_Lw_law_800 : decode code 800 = .ok (.laload, 1) := by decide +kernel
theorem d_Lw_law_801 : decode code 801 = .ok (.iload 6, 2) := by decide +kernel
theorem d_Lw_law_803 : decode code 803 = .ok (.i2l, 1) := by decide +kernel
theorem d_Lw_law_804 : decode code 804 = .ok (.lcmp, 1) := by decide +kernel
theorem d_Lw_law_805 : decode code 805 = .ok (.ifCond .eq 5, 3) := by decide +kernel
theorem d_Lw_law_808 : decode code 808 = .ok (.iconst 0, 1) := by decide +kernel
theorem d_Lw_law_809 : decode code 809 = .ok (.ireturn, 1) := by decide +kernel
theorem d_Lw_law_810 : decode code 810 = .ok (.goto 195, 3) := by decide +kernel
theorem d_Lw_law_813 : decode code 813 = .ok (.aload_n 1, 1) := by decide +kernel
theorem d_Lw_law_814 : decode code 814 = .ok (.aload_n 0, 1) := by decide +kernel
theorem d_Lw_law_815 : decode code 815 = .ok (.iload 4, 2) := by decide +kernel
theorem d_Lw_law_817 : decode code 817 = .ok (.iconst 1, 1) := by decide +kernel
theorem d_Lw_law_818 : decode code 818 = .ok (.iadd, 1) := by decide +kernel
theorem d_Lw_law_819 : decode code 819 = .ok (.iaload, 1) := by decide +kernel
theorem d_Lw_law_820 : decode code 820 = .ok (.aload_n 0, 1) := by decide +kernel
theorem d_Lw_law_821 : decode code 821 = .ok (.iload 4, 2) := by decide +kernel
theorem d_Lw_law_823 : decode code 823 = .ok (.iconst 2, 1) := by decide +kernel
theorem d_Lw_law_824 : decode code 824 = .ok (.iadd, 1) := by decide +kernel
theorem d_Lw_law_825 : decode code 825 = .ok (.iaload, 1) := by decide +kernel
theorem d_Lw_law_826 : decode code 826 = .ok (.aload_n 3, 1) := by decide +kernel
theorem d_Lw_law_827 : decode code 827 = .ok (.invokestatic 120, 3) := by decide +kernel
theorem d_Lw_law_830 : decode code 830 = .ok (.istore 5, 2) := by decide +kernel
theorem d_Lw_law_832 : decode code 832 = .ok (.aload_n 2, 1) := by decide +kernel
theorem d_Lw_law_833 : decode code 833 = .ok (.aload_n 0, 1) := by decide +kernel
theorem d_Lw_law_834 : decode code 834 = .ok (.iload 4, 2) := by decide +kernel
theorem d_Lw_law_836 : decode code 836 = .ok (.iconst 1, 1) := by decide +kernel
theorem d_Lw_law_837 : decode code 837 = .ok (.iadd, 1) := by decide +kernel
theorem d_Lw_law_838 : decode code 838 = .ok (.iaload, 1) := by decide +kernel
theorem d_Lw_law_839 : decode code 839 = .ok (.aload_n 0, 1) := by decide +kernel
theorem d_Lw_law_840 : decode code 840 = .ok (.iload 4, 2) := by decide +kernel
theorem d_Lw_law_842 : decode code 842 = .ok (.iconst 2, 1) := by decide +kernel
theorem d_Lw_law_843 : decode code 843 = .ok (.iadd, 1) := by decide +kernel
theorem d_Lw_law_844 : decode code 844 = .ok (.iaload, 1) := by decide +kernel
theorem d_Lw_law_845 : decode code 845 = .ok (.invokevirtual 122, 3) := by decide +kernel
theorem d_Lw_law_848 : decode code 848 = .ok (.istore 6, 2) := by decide +kernel
theorem d_Lw_law_850 : decode code 850 = .ok (.aload_n 2, 1) := by decide +kernel
theorem d_Lw_law_851 : decode code 851 = .ok (.invokevirtual 85, 3) := by decide +kernel
theorem d_Lw_law_854 : decode code 854 = .ok (.iload 5, 2) := by decide +kernel
theorem d_Lw_law_856 : decode code 856 = .ok (.if_icmp .eq 5, 3) := by decide +kernel
theorem d_Lw_law_859 : decode code 859 = .ok (.iconst 0, 1) := by decide +kernel
theorem d_Lw_law_860 : decode code 860 = .ok (.ireturn, 1) := by decide +kernel
theorem d_Lw_law_861 : decode code 861 = .ok (.iload 5, 2) := by decide +kernel
theorem d_Lw_law_863 : decode code 863 = .ok (.ifCond .ne 15, 3) := by decide +kernel
theorem d_Lw_law_866 : decode code 866 = .ok (.aload_n 3, 1) := by decide +kernel
theorem d_Lw_law_867 : decode code 867 = .ok (.iconst 0, 1) := by decide +kernel
theorem d_Lw_law_868 : decode code 868 = .ok (.laload, 1) := by decide +kernel
theorem d_Lw_law_869 : decode code 869 = .ok (.iload 6, 2) := by decide +kernel
theorem d_Lw_law_871 : decode code 871 = .ok (.i2l, 1) := by decide +kernel
theorem d_Lw_law_872 : decode code 872 = .ok (.lcmp, 1) := by decide +kernel
theorem d_Lw_law_873 : decode code 873 = .ok (.ifCond .eq 5, 3) := by decide +kernel
theorem d_Lw_law_876 : decode code 876 = .ok (.iconst 0, 1) := by decide +kernel
theorem d_Lw_law_877 : decode code 877 = .ok (.ireturn, 1) := by decide +kernel
theorem d_Lw_law_878 : decode code 878 = .ok (.goto 127, 3) := by decide +kernel
theorem d_Lw_law_881 : decode code 881 = .ok (.aload_n 1, 1) := by decide +kernel
theorem d_Lw_law_882 : decode code 882 = .ok (.aload_n 0, 1) := by decide +kernel
theorem d_Lw_law_883 : decode code 883 = .ok (.iload 4, 2) := by decide +kernel
theorem d_Lw_law_885 : decode code 885 = .ok (.iconst 1, 1) := by decide +kernel
theorem d_Lw_law_886 : decode code 886 = .ok (.iadd, 1) := by decide +kernel
theorem d_Lw_law_887 : decode code 887 = .ok (.iaload, 1) := by decide +kernel
theorem d_Lw_law_888 : decode code 888 = .ok (.aload_n 3, 1) := by decide +kernel
theorem d_Lw_law_889 : decode code 889 = .ok (.invokestatic 123, 3) := by decide +kernel
theorem d_Lw_law_892 : decode code 892 = .ok (.istore 5, 2) := by decide +kernel
theorem d_Lw_law_894 : decode code 894 = .ok (.aload_n 2, 1) := by decide +kernel
theorem d_Lw_law_895 : decode code 895 = .ok (.aload_n 0, 1) := by decide +kernel
theorem d_Lw_law_896 : decode code 896 = .ok (.iload 4, 2) := by decide +kernel
theorem d_Lw_law_898 : decode code 898 = .ok (.iconst 1, 1) := by decide +kernel
theorem d_Lw_law_899 : decode code 899 = .ok (.iadd, 1) := by decide +kernel
theorem d_Lw_law_900 : decode code 900 = .ok (.iaload, 1) := by decide +kernel
theorem d_Lw_law_901 : decode code 901 = .ok (.invokevirtual 125, 3) := by decide +kernel
theorem d_Lw_law_904 : decode code 904 = .ok (.istore 6, 2) := by decide +kernel
theorem d_Lw_law_906 : decode code 906 = .ok (.aload_n 2, 1) := by decide +kernel
theorem d_Lw_law_907 : decode code 907 = .ok (.invokevirtual 85, 3) := by decide +kernel
theorem d_Lw_law_910 : decode code 910 = .ok (.iload 5, 2) := by decide +kernel
theorem d_Lw_law_912 : decode code 912 = .ok (.if_icmp .eq 5, 3) := by decide +kernel
theorem d_Lw_law_915 : decode code 915 = .ok (.iconst 0, 1) := by decide +kernel
theorem d_Lw_law_916 : decode code 916 = .ok (.ireturn, 1) := by decide +kernel
theorem d_Lw_law_917 : decode code 917 = .ok (.iload 5, 2) := by decide +kernel
theorem d_Lw_law_919 : decode code 919 = .ok (.ifCond .ne 15, 3) := by decide +kernel
theorem d_Lw_law_922 : decode code 922 = .ok (.aload_n 3, 1) := by decide +kernel
theorem d_Lw_law_923 : decode code 923 = .ok (.iconst 0, 1) := by decide +kernel
theorem d_Lw_law_924 : decode code 924 = .ok (.laload, 1) := by decide +kernel
theorem d_Lw_law_925 : decode code 925 = .ok (.iload 6, 2) := by decide +kernel
theorem d_Lw_law_927 : decode code 927 = .ok (.i2l, 1) := by decide +kernel
theorem d_Lw_law_928 : decode code 928 = .ok (.lcmp, 1) := by decide +kernel
theorem d_Lw_law_929 : decode code 929 = .ok (.ifCond .eq 5, 3) := by decide +kernel
theorem d_Lw_law_932 : decode code 932 = .ok (.iconst 0, 1) := by decide +kernel
theorem d_Lw_law_933 : decode code 933 = .ok (.ireturn, 1) := by decide +kernel
theorem d_Lw_law_934 : decode code 934 = .ok (.goto 71, 3) := by decide +kernel
theorem d_Lw_law_937 : decode code 937 = .ok (.aload_n 1, 1) := by decide +kernel
theorem d_Lw_law_938 : decode code 938 = .ok (.aload_n 0, 1) := by decide +kernel
theorem d_Lw_law_939 : decode code 939 = .ok (.iload 4, 2) := by decide +kernel
theorem d_Lw_law_941 : decode code 941 = .ok (.iconst 1, 1) := by decide +kernel
theorem d_Lw_law_942 : decode code 942 = .ok (.iadd, 1) := by decide +kernel
theorem d_Lw_law_943 : decode code 943 = .ok (.iaload, 1) := by decide +kernel
theorem d_Lw_law_944 : decode code 944 = .ok (.aload_n 0, 1) := by decide +kernel
theorem d_Lw_law_945 : decode code 945 = .ok (.iload 4, 2) := by decide +kernel
theorem d_Lw_law_947 : decode code 947 = .ok (.iconst 2, 1) := by decide +kernel
theorem d_Lw_law_948 : decode code 948 = .ok (.iadd, 1) := by decide +kernel
theorem d_Lw_law_949 : decode code 949 = .ok (.iaload, 1) := by decide +kernel
theorem d_Lw_law_950 : decode code 950 = .ok (.aload_n 3, 1) := by decide +kernel
theorem d_Lw_law_951 : decode code 951 = .ok (.invokestatic 126, 3) := by decide +kernel
theorem d_Lw_law_954 : decode code 954 = .ok (.istore 5, 2) := by decide +kernel
theorem d_Lw_law_956 : decode code 956 = .ok (.aload_n 2, 1) := by decide +kernel
theorem d_Lw_law_957 : decode code 957 = .ok (.aload_n 0, 1) := by decide +kernel
theorem d_Lw_law_958 : decode code 958 = .ok (.iload 4, 2) := by decide +kernel
theorem d_Lw_law_960 : decode code 960 = .ok (.iconst 1, 1) := by decide +kernel
theorem d_Lw_law_961 : decode code 961 = .ok (.iadd, 1) := by decide +kernel
theorem d_Lw_law_962 : decode code 962 = .ok (.iaload, 1) := by decide +kernel
theorem d_Lw_law_963 : decode code 963 = .ok (.aload_n 0, 1) := by decide +kernel
theorem d_Lw_law_964 : decode code 964 = .ok (.iload 4, 2) := by decide +kernel
theorem d_Lw_law_966 : decode code 966 = .ok (.iconst 2, 1) := by decide +kernel
theorem d_Lw_law_967 : decode code 967 = .ok (.iadd, 1) := by decide +kernel
theorem d_Lw_law_968 : decode code 968 = .ok (.iaload, 1) := by decide +kernel
theorem d_Lw_law_969 : decode code 969 = .ok (.invokevirtual 128, 3) := by decide +kernel
theorem d_Lw_law_972 : decode code 972 = .ok (.istore 6, 2) := by decide +kernel
theorem d_Lw_law_974 : decode code 974 = .ok (.aload_n 2, 1) := by decide +kernel
theorem d_Lw_law_975 : decode code 975 = .ok (.invokevirtual 85, 3) := by decide +kernel
theorem d_Lw_law_978 : decode code 978 = .ok (.iload 5, 2) := by decide +kernel
theorem d_Lw_law_980 : decode code 980 = .ok (.if_icmp .eq 5, 3) := by decide +kernel
theorem d_Lw_law_983 : decode code 983 = .ok (.iconst 0, 1) := by decide +kernel
theorem d_Lw_law_984 : decode code 984 = .ok (.ireturn, 1) := by decide +kernel
theorem d_Lw_law_985 : decode code 985 = .ok (.iload 5, 2) := by decide +kernel
theorem d_Lw_law_987 : decode code 987 = .ok (.ifCond .ne 15, 3) := by decide +kernel
theorem d_Lw_law_990 : decode code 990 = .ok (.aload_n 3, 1) := by decide +kernel
theorem d_Lw_law_991 : decode code 991 = .ok (.iconst 0, 1) := by decide +kernel
theorem d_Lw_law_992 : decode code 992 = .ok (.laload, 1) := by decide +kernel
theorem d_Lw_law_993 : decode code 993 = .ok (.iload 6, 2) := by decide +kernel
theorem d_Lw_law_995 : decode code 995 = .ok (.i2l, 1) := by decide +kernel
theorem d_Lw_law_996 : decode code 996 = .ok (.lcmp, 1) := by decide +kernel
theorem d_Lw_law_997 : decode code 997 = .ok (.ifCond .eq 5, 3) := by decide +kernel
theorem d_Lw_law_1000 : decode code 1000 = .ok (.iconst 0, 1) := by decide +kernel
theorem d_Lw_law_1001 : decode code 1001 = .ok (.ireturn, 1) := by decide +kernel
theorem d_Lw_law_1002 : decode code 1002 = .ok (.goto 3, 3) := by decide +kernel
theorem d_Lw_law_1005 : decode code 1005 = .ok (.iinc 4 4, 3) := by decide +kernel
theorem d_Lw_law_1008 : decode code 1008 = .ok (.goto (-985), 3) := by decide +kernel
theorem d_Lw_law_1011 : decode code 1011 = .ok (.iconst 1, 1) := by decide +kernel
theorem d_Lw_law_1012 : decode code 1012 = .ok (.ireturn, 1) := by decide +kernel
