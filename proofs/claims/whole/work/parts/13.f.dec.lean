/-! DECODE ROWS of the law -/
theorem dL_law__733 : decode cL_law_ 733 = .ok (.iconst 0, 1) := by decide +kernel
theorem dL_law__734 : decode cL_law_ 734 = .ok (.ireturn, 1) := by decide +kernel
theorem dL_law__735 : decode cL_law_ 735 = .ok (.iload 5, 2) := by decide +kernel
theorem dL_law__737 : decode cL_law_ 737 = .ok (.ifCond .ne 15, 3) := by decide +kernel
theorem dL_law__740 : decode cL_law_ 740 = .ok (.aload_n 3, 1) := by decide +kernel
theorem dL_law__741 : decode cL_law_ 741 = .ok (.iconst 0, 1) := by decide +kernel
theorem dL_law__742 : decode cL_law_ 742 = .ok (.laload, 1) := by decide +kernel
theorem dL_law__743 : decode cL_law_ 743 = .ok (.iload 6, 2) := by decide +kernel
theorem dL_law__745 : decode cL_law_ 745 = .ok (.i2l, 1) := by decide +kernel
theorem dL_law__746 : decode cL_law_ 746 = .ok (.lcmp, 1) := by decide +kernel
theorem dL_law__747 : decode cL_law_ 747 = .ok (.ifCond .eq 5, 3) := by decide +kernel
theorem dL_law__750 : decode cL_law_ 750 = .ok (.iconst 0, 1) := by decide +kernel
theorem dL_law__751 : decode cL_law_ 751 = .ok (.ireturn, 1) := by decide +kernel
theorem dL_law__752 : decode cL_law_ 752 = .ok (.goto 2066, 3) := by decide +kernel
theorem dL_law__755 : decode cL_law_ 755 = .ok (.aload_n 1, 1) := by decide +kernel
theorem dL_law__756 : decode cL_law_ 756 = .ok (.aload_n 0, 1) := by decide +kernel
theorem dL_law__757 : decode cL_law_ 757 = .ok (.iload 4, 2) := by decide +kernel
theorem dL_law__759 : decode cL_law_ 759 = .ok (.iconst 1, 1) := by decide +kernel
theorem dL_law__760 : decode cL_law_ 760 = .ok (.iadd, 1) := by decide +kernel
theorem dL_law__761 : decode cL_law_ 761 = .ok (.iaload, 1) := by decide +kernel
theorem dL_law__762 : decode cL_law_ 762 = .ok (.aload_n 0, 1) := by decide +kernel
theorem dL_law__763 : decode cL_law_ 763 = .ok (.iload 4, 2) := by decide +kernel
theorem dL_law__765 : decode cL_law_ 765 = .ok (.iconst 2, 1) := by decide +kernel
theorem dL_law__766 : decode cL_law_ 766 = .ok (.iadd, 1) := by decide +kernel
theorem dL_law__767 : decode cL_law_ 767 = .ok (.iaload, 1) := by decide +kernel
theorem dL_law__768 : decode cL_law_ 768 = .ok (.aload_n 0, 1) := by decide +kernel
theorem dL_law__769 : decode cL_law_ 769 = .ok (.iload 4, 2) := by decide +kernel
theorem dL_law__771 : decode cL_law_ 771 = .ok (.iconst 3, 1) := by decide +kernel
theorem dL_law__772 : decode cL_law_ 772 = .ok (.iadd, 1) := by decide +kernel
theorem dL_law__773 : decode cL_law_ 773 = .ok (.iaload, 1) := by decide +kernel
theorem dL_law__774 : decode cL_law_ 774 = .ok (.ifCond .eq 7, 3) := by decide +kernel
theorem dL_law__777 : decode cL_law_ 777 = .ok (.iconst 1, 1) := by decide +kernel
theorem dL_law__778 : decode cL_law_ 778 = .ok (.goto 4, 3) := by decide +kernel
theorem dL_law__781 : decode cL_law_ 781 = .ok (.iconst 0, 1) := by decide +kernel
theorem dL_law__782 : decode cL_law_ 782 = .ok (.aload_n 3, 1) := by decide +kernel
theorem dL_law__783 : decode cL_law_ 783 = .ok (.invokestatic 168, 3) := by decide +kernel
theorem dL_law__786 : decode cL_law_ 786 = .ok (.istore 5, 2) := by decide +kernel
theorem dL_law__788 : decode cL_law_ 788 = .ok (.aload_n 2, 1) := by decide +kernel
theorem dL_law__789 : decode cL_law_ 789 = .ok (.aload_n 0, 1) := by decide +kernel
theorem dL_law__790 : decode cL_law_ 790 = .ok (.iload 4, 2) := by decide +kernel
theorem dL_law__792 : decode cL_law_ 792 = .ok (.iconst 1, 1) := by decide +kernel
theorem dL_law__793 : decode cL_law_ 793 = .ok (.iadd, 1) := by decide +kernel
theorem dL_law__794 : decode cL_law_ 794 = .ok (.iaload, 1) := by decide +kernel
theorem dL_law__795 : decode cL_law_ 795 = .ok (.aload_n 0, 1) := by decide +kernel
theorem dL_law__796 : decode cL_law_ 796 = .ok (.iload 4, 2) := by decide +kernel
theorem dL_law__798 : decode cL_law_ 798 = .ok (.iconst 2, 1) := by decide +kernel
theorem dL_law__799 : decode cL_law_ 799 = .ok (.iadd, 1) := by decide +kernel
theorem dL_law__800 : decode cL_law_ 800 = .ok (.iaload, 1) := by decide +kernel
theorem dL_law__801 : decode cL_law_ 801 = .ok (.aload_n 0, 1) := by decide +kernel
theorem dL_law__802 : decode cL_law_ 802 = .ok (.iload 4, 2) := by decide +kernel
theorem dL_law__804 : decode cL_law_ 804 = .ok (.iconst 3, 1) := by decide +kernel
theorem dL_law__805 : decode cL_law_ 805 = .ok (.iadd, 1) := by decide +kernel
theorem dL_law__806 : decode cL_law_ 806 = .ok (.iaload, 1) := by decide +kernel
theorem dL_law__807 : decode cL_law_ 807 = .ok (.ifCond .eq 7, 3) := by decide +kernel
theorem dL_law__810 : decode cL_law_ 810 = .ok (.iconst 1, 1) := by decide +kernel
theorem dL_law__811 : decode cL_law_ 811 = .ok (.goto 4, 3) := by decide +kernel
theorem dL_law__814 : decode cL_law_ 814 = .ok (.iconst 0, 1) := by decide +kernel
theorem dL_law__815 : decode cL_law_ 815 = .ok (.invokevirtual 170, 3) := by decide +kernel
theorem dL_law__818 : decode cL_law_ 818 = .ok (.istore 6, 2) := by decide +kernel
theorem dL_law__820 : decode cL_law_ 820 = .ok (.aload_n 2, 1) := by decide +kernel
theorem dL_law__821 : decode cL_law_ 821 = .ok (.invokevirtual 144, 3) := by decide +kernel
theorem dL_law__824 : decode cL_law_ 824 = .ok (.iload 5, 2) := by decide +kernel
theorem dL_law__826 : decode cL_law_ 826 = .ok (.if_icmp .eq 5, 3) := by decide +kernel
theorem dL_law__829 : decode cL_law_ 829 = .ok (.iconst 0, 1) := by decide +kernel
theorem dL_law__830 : decode cL_law_ 830 = .ok (.ireturn, 1) := by decide +kernel
theorem dL_law__831 : decode cL_law_ 831 = .ok (.iload 5, 2) := by decide +kernel
theorem dL_law__833 : decode cL_law_ 833 = .ok (.ifCond .ne 15, 3) := by decide +kernel
theorem dL_law__836 : decode cL_law_ 836 = .ok (.aload_n 3, 1) := by decide +kernel
theorem dL_law__837 : decode cL_law_ 837 = .ok (.iconst 0, 1) := by decide +kernel
theorem dL_law__838 : decode cL_law_ 838 = .ok (.laload, 1) := by decide +kernel
theorem dL_law__839 : decode cL_law_ 839 = .ok (.iload 6, 2) := by decide +kernel
theorem dL_law__841 : decode cL_law_ 841 = .ok (.i2l, 1) := by decide +kernel
theorem dL_law__842 : decode cL_law_ 842 = .ok (.lcmp, 1) := by decide +kernel
theorem dL_law__843 : decode cL_law_ 843 = .ok (.ifCond .eq 5, 3) := by decide +kernel
theorem dL_law__846 : decode cL_law_ 846 = .ok (.iconst 0, 1) := by decide +kernel
theorem dL_law__847 : decode cL_law_ 847 = .ok (.ireturn, 1) := by decide +kernel
theorem dL_law__848 : decode cL_law_ 848 = .ok (.goto 1970, 3) := by decide +kernel
theorem dL_law__851 : decode cL_law_ 851 = .ok (.aload_n 1, 1) := by decide +kernel
theorem dL_law__852 : decode cL_law_ 852 = .ok (.aload_n 0, 1) := by decide +kernel
theorem dL_law__853 : decode cL_law_ 853 = .ok (.iload 4, 2) := by decide +kernel
theorem dL_law__855 : decode cL_law_ 855 = .ok (.iconst 1, 1) := by decide +kernel
theorem dL_law__856 : decode cL_law_ 856 = .ok (.iadd, 1) := by decide +kernel
theorem dL_law__857 : decode cL_law_ 857 = .ok (.iaload, 1) := by decide +kernel
theorem dL_law__858 : decode cL_law_ 858 = .ok (.aload_n 0, 1) := by decide +kernel
theorem dL_law__859 : decode cL_law_ 859 = .ok (.iload 4, 2) := by decide +kernel
theorem dL_law__861 : decode cL_law_ 861 = .ok (.iconst 2, 1) := by decide +kernel
theorem dL_law__862 : decode cL_law_ 862 = .ok (.iadd, 1) := by decide +kernel
theorem dL_law__863 : decode cL_law_ 863 = .ok (.iaload, 1) := by decide +kernel
theorem dL_law__864 : decode cL_law_ 864 = .ok (.aload_n 3, 1) := by decide +kernel
theorem dL_law__865 : decode cL_law_ 865 = .ok (.invokestatic 171, 3) := by decide +kernel
theorem dL_law__868 : decode cL_law_ 868 = .ok (.istore 5, 2) := by decide +kernel
theorem dL_law__870 : decode cL_law_ 870 = .ok (.aload_n 2, 1) := by decide +kernel
theorem dL_law__871 : decode cL_law_ 871 = .ok (.aload_n 0, 1) := by decide +kernel
theorem dL_law__872 : decode cL_law_ 872 = .ok (.iload 4, 2) := by decide +kernel
theorem dL_law__874 : decode cL_law_ 874 = .ok (.iconst 1, 1) := by decide +kernel
theorem dL_law__875 : decode cL_law_ 875 = .ok (.iadd, 1) := by decide +kernel
theorem dL_law__876 : decode cL_law_ 876 = .ok (.iaload, 1) := by decide +kernel
theorem dL_law__877 : decode cL_law_ 877 = .ok (.aload_n 0, 1) := by decide +kernel
theorem dL_law__878 : decode cL_law_ 878 = .ok (.iload 4, 2) := by decide +kernel
theorem dL_law__880 : decode cL_law_ 880 = .ok (.iconst 2, 1) := by decide +kernel
theorem dL_law__881 : decode cL_law_ 881 = .ok (.iadd, 1) := by decide +kernel
theorem dL_law__882 : decode cL_law_ 882 = .ok (.iaload, 1) := by decide +kernel
theorem dL_law__883 : decode cL_law_ 883 = .ok (.invokevirtual 173, 3) := by decide +kernel
theorem dL_law__886 : decode cL_law_ 886 = .ok (.istore 6, 2) := by decide +kernel
theorem dL_law__888 : decode cL_law_ 888 = .ok (.aload_n 2, 1) := by decide +kernel
theorem dL_law__889 : decode cL_law_ 889 = .ok (.invokevirtual 144, 3) := by decide +kernel
theorem dL_law__892 : decode cL_law_ 892 = .ok (.iload 5, 2) := by decide +kernel
theorem dL_law__894 : decode cL_law_ 894 = .ok (.if_icmp .eq 5, 3) := by decide +kernel
theorem dL_law__897 : decode cL_law_ 897 = .ok (.iconst 0, 1) := by decide +kernel
theorem dL_law__898 : decode cL_law_ 898 = .ok (.ireturn, 1) := by decide +kernel
theorem dL_law__899 : decode cL_law_ 899 = .ok (.iload 5, 2) := by decide +kernel
theorem dL_law__901 : decode cL_law_ 901 = .ok (.ifCond .ne 15, 3) := by decide +kernel
theorem dL_law__904 : decode cL_law_ 904 = .ok (.aload_n 3, 1) := by decide +kernel
theorem dL_law__905 : decode cL_law_ 905 = .ok (.iconst 0, 1) := by decide +kernel
theorem dL_law__906 : decode cL_law_ 906 = .ok (.laload, 1) := by decide +kernel
theorem dL_law__907 : decode cL_law_ 907 = .ok (.iload 6, 2) := by decide +kernel
theorem dL_law__909 : decode cL_law_ 909 = .ok (.i2l, 1) := by decide +kernel
theorem dL_law__910 : decode cL_law_ 910 = .ok (.lcmp, 1) := by decide +kernel
theorem dL_law__911 : decode cL_law_ 911 = .ok (.ifCond .eq 5, 3) := by decide +kernel
theorem dL_law__914 : decode cL_law_ 914 = .ok (.iconst 0, 1) := by decide +kernel
theorem dL_law__915 : decode cL_law_ 915 = .ok (.ireturn, 1) := by decide +kernel
theorem dL_law__916 : decode cL_law_ 916 = .ok (.goto 1902, 3) := by decide +kernel
theorem dL_law__919 : decode cL_law_ 919 = .ok (.aload_n 1, 1) := by decide +kernel
theorem dL_law__920 : decode cL_law_ 920 = .ok (.aload_n 0, 1) := by decide +kernel
theorem dL_law__921 : decode cL_law_ 921 = .ok (.iload 4, 2) := by decide +kernel
theorem dL_law__923 : decode cL_law_ 923 = .ok (.iconst 1, 1) := by decide +kernel
theorem dL_law__924 : decode cL_law_ 924 = .ok (.iadd, 1) := by decide +kernel
theorem dL_law__925 : decode cL_law_ 925 = .ok (.iaload, 1) := by decide +kernel
theorem dL_law__926 : decode cL_law_ 926 = .ok (.aload_n 0, 1) := by decide +kernel
theorem dL_law__927 : decode cL_law_ 927 = .ok (.iload 4, 2) := by decide +kernel
theorem dL_law__929 : decode cL_law_ 929 = .ok (.iconst 2, 1) := by decide +kernel
theorem dL_law__930 : decode cL_law_ 930 = .ok (.iadd, 1) := by decide +kernel
theorem dL_law__931 : decode cL_law_ 931 = .ok (.iaload, 1) := by decide +kernel
theorem dL_law__932 : decode cL_law_ 932 = .ok (.aload_n 3, 1) := by decide +kernel
theorem dL_law__933 : decode cL_law_ 933 = .ok (.invokestatic 174, 3) := by decide +kernel
theorem dL_law__936 : decode cL_law_ 936 = .ok (.istore 5, 2) := by decide +kernel
theorem dL_law__938 : decode cL_law_ 938 = .ok (.aload_n 2, 1) := by decide +kernel
theorem dL_law__939 : decode cL_law_ 939 = .ok (.aload_n 0, 1) := by decide +kernel
theorem dL_law__940 : decode cL_law_ 940 = .ok (.iload 4, 2) := by decide +kernel
theorem dL_law__942 : decode cL_law_ 942 = .ok (.iconst 1, 1) := by decide +kernel
theorem dL_law__943 : decode cL_law_ 943 = .ok (.iadd, 1) := by decide +kernel
theorem dL_law__944 : decode cL_law_ 944 = .ok (.iaload, 1) := by decide +kernel
theorem dL_law__945 : decode cL_law_ 945 = .ok (.aload_n 0, 1) := by decide +kernel
theorem dL_law__946 : decode cL_law_ 946 = .ok (.iload 4, 2) := by decide +kernel
theorem dL_law__948 : decode cL_law_ 948 = .ok (.iconst 2, 1) := by decide +kernel
theorem dL_law__949 : decode cL_law_ 949 = .ok (.iadd, 1) := by decide +kernel
theorem dL_law__950 : decode cL_law_ 950 = .ok (.iaload, 1) := by decide +kernel
theorem dL_law__951 : decode cL_law_ 951 = .ok (.invokevirtual 176, 3) := by decide +kernel
theorem dL_law__954 : decode cL_law_ 954 = .ok (.istore 6, 2) := by decide +kernel
theorem dL_law__956 : decode cL_law_ 956 = .ok (.aload_n 2, 1) := by decide +kernel
theorem dL_law__957 : decode cL_law_ 957 = .ok (.invokevirtual 144, 3) := by decide +kernel
theorem dL_law__960 : decode cL_law_ 960 = .ok (.iload 5, 2) := by decide +kernel
theorem dL_law__962 : decode cL_law_ 962 = .ok (.if_icmp .eq 5, 3) := by decide +kernel
theorem dL_law__965 : decode cL_law_ 965 = .ok (.iconst 0, 1) := by decide +kernel
theorem dL_law__966 : decode cL_law_ 966 = .ok (.ireturn, 1) := by decide +kernel
theorem dL_law__967 : decode cL_law_ 967 = .ok (.iload 5, 2) := by decide +kernel
theorem dL_law__969 : decode cL_law_ 969 = .ok (.ifCond .ne 15, 3) := by decide +kernel
theorem dL_law__972 : decode cL_law_ 972 = .ok (.aload_n 3, 1) := by decide +kernel
theorem dL_law__973 : decode cL_law_ 973 = .ok (.iconst 0, 1) := by decide +kernel
theorem dL_law__974 : decode cL_law_ 974 = .ok (.laload, 1) := by decide +kernel
theorem dL_law__975 : decode cL_law_ 975 = .ok (.iload 6, 2) := by decide +kernel
theorem dL_law__977 : decode cL_law_ 977 = .ok (.i2l, 1) := by decide +kernel
theorem dL_law__978 : decode cL_law_ 978 = .ok (.lcmp, 1) := by decide +kernel
theorem dL_law__979 : decode cL_law_ 979 = .ok (.ifCond .eq 5, 3) := by decide +kernel
theorem dL_law__982 : decode cL_law_ 982 = .ok (.iconst 0, 1) := by decide +kernel
theorem dL_law__983 : decode cL_law_ 983 = .ok (.ireturn, 1) := by decide +kernel
theorem dL_law__984 : decode cL_law_ 984 = .ok (.goto 1834, 3) := by decide +kernel
theorem dL_law__987 : decode cL_law_ 987 = .ok (.aload_n 1, 1) := by decide +kernel
theorem dL_law__988 : decode cL_law_ 988 = .ok (.aload_n 0, 1) := by decide +kernel
theorem dL_law__989 : decode cL_law_ 989 = .ok (.iload 4, 2) := by decide +kernel
theorem dL_law__991 : decode cL_law_ 991 = .ok (.iconst 1, 1) := by decide +kernel
theorem dL_law__992 : decode cL_law_ 992 = .ok (.iadd, 1) := by decide +kernel
theorem dL_law__993 : decode cL_law_ 993 = .ok (.iaload, 1) := by decide +kernel
theorem dL_law__994 : decode cL_law_ 994 = .ok (.aload_n 0, 1) := by decide +kernel
theorem dL_law__995 : decode cL_law_ 995 = .ok (.iload 4, 2) := by decide +kernel
theorem dL_law__997 : decode cL_law_ 997 = .ok (.iconst 2, 1) := by decide +kernel
theorem dL_law__998 : decode cL_law_ 998 = .ok (.iadd, 1) := by decide +kernel
theorem dL_law__999 : decode cL_law_ 999 = .ok (.iaload, 1) := by decide +kernel
theorem dL_law__1000 : decode cL_law_ 1000 = .ok (.aload_n 3, 1) := by decide +kernel
theorem dL_law__1001 : decode cL_law_ 1001 = .ok (.invokestatic 177, 3) := by decide +kernel
theorem dL_law__1004 : decode cL_law_ 1004 = .ok (.istore 5, 2) := by decide +kernel
theorem dL_law__1006 : decode cL_law_ 1006 = .ok (.aload_n 2, 1) := by decide +kernel
theorem dL_law__1007 : decode cL_law_ 1007 = .ok (.aload_n 0, 1) := by decide +kernel
theorem dL_law__1008 : decode cL_law_ 1008 = .ok (.iload 4, 2) := by decide +kernel
theorem dL_law__1010 : decode cL_law_ 1010 = .ok (.iconst 1, 1) := by decide +kernel
theorem dL_law__1011 : decode cL_law_ 1011 = .ok (.iadd, 1) := by decide +kernel
theorem dL_law__1012 : decode cL_law_ 1012 = .ok (.iaload, 1) := by decide +kernel
theorem dL_law__1013 : decode cL_law_ 1013 = .ok (.aload_n 0, 1) := by decide +kernel
theorem dL_law__1014 : decode cL_law_ 1014 = .ok (.iload 4, 2) := by decide +kernel
theorem dL_law__1016 : decode cL_law_ 1016 = .ok (.iconst 2, 1) := by decide +kernel
theorem dL_law__1017 : decode cL_law_ 1017 = .ok (.iadd, 1) := by decide +kernel
theorem dL_law__1018 : decode cL_law_ 1018 = .ok (.iaload, 1) := by decide +kernel
theorem dL_law__1019 : decode cL_law_ 1019 = .ok (.invokevirtual 179, 3) := by decide +kernel
theorem dL_law__1022 : decode cL_law_ 1022 = .ok (.istore 6, 2) := by decide +kernel
theorem dL_law__1024 : decode cL_law_ 1024 = .ok (.aload_n 2, 1) := by decide +kernel
theorem dL_law__1025 : decode cL_law_ 1025 = .ok (.invokevirtual 144, 3) := by decide +kernel
theorem dL_law__1028 : decode cL_law_ 1028 = .ok (.iload 5, 2) := by decide +kernel
theorem dL_law__1030 : decode cL_law_ 1030 = .ok (.if_icmp .eq 5, 3) := by decide +kernel
theorem dL_law__1033 : decode cL_law_ 1033 = .ok (.iconst 0, 1) := by decide +kernel
theorem dL_law__1034 : decode cL_law_ 1034 = .ok (.ireturn, 1) := by decide +kernel
theorem dL_law__1035 : decode cL_law_ 1035 = .ok (.iload 5, 2) := by decide +kernel
theorem dL_law__1037 : decode cL_law_ 1037 = .ok (.ifCond .ne 15, 3) := by decide +kernel
theorem dL_law__1040 : decode cL_law_ 1040 = .ok (.aload_n 3, 1) := by decide +kernel
theorem dL_law__1041 : decode cL_law_ 1041 = .ok (.iconst 0, 1) := by decide +kernel
theorem dL_law__1042 : decode cL_law_ 1042 = .ok (.laload, 1) := by decide +kernel
theorem dL_law__1043 : decode cL_law_ 1043 = .ok (.iload 6, 2) := by decide +kernel
theorem dL_law__1045 : decode cL_law_ 1045 = .ok (.i2l, 1) := by decide +kernel
theorem dL_law__1046 : decode cL_law_ 1046 = .ok (.lcmp, 1) := by decide +kernel
theorem dL_law__1047 : decode cL_law_ 1047 = .ok (.ifCond .eq 5, 3) := by decide +kernel
theorem dL_law__1050 : decode cL_law_ 1050 = .ok (.iconst 0, 1) := by decide +kernel
theorem dL_law__1051 : decode cL_law_ 1051 = .ok (.ireturn, 1) := by decide +kernel
theorem dL_law__1052 : decode cL_law_ 1052 = .ok (.goto 1766, 3) := by decide +kernel
theorem dL_law__1055 : decode cL_law_ 1055 = .ok (.aload_n 1, 1) := by decide +kernel
theorem dL_law__1056 : decode cL_law_ 1056 = .ok (.aload_n 0, 1) := by decide +kernel
theorem dL_law__1057 : decode cL_law_ 1057 = .ok (.iload 4, 2) := by decide +kernel
theorem dL_law__1059 : decode cL_law_ 1059 = .ok (.iconst 1, 1) := by decide +kernel
theorem dL_law__1060 : decode cL_law_ 1060 = .ok (.iadd, 1) := by decide +kernel
theorem dL_law__1061 : decode cL_law_ 1061 = .ok (.iaload, 1) := by decide +kernel
theorem dL_law__1062 : decode cL_law_ 1062 = .ok (.aload_n 3, 1) := by decide +kernel
theorem dL_law__1063 : decode cL_law_ 1063 = .ok (.invokestatic 180, 3) := by decide +kernel
theorem dL_law__1066 : decode cL_law_ 1066 = .ok (.istore 5, 2) := by decide +kernel
theorem dL_law__1068 : decode cL_law_ 1068 = .ok (.aload_n 2, 1) := by decide +kernel
theorem dL_law__1069 : decode cL_law_ 1069 = .ok (.aload_n 0, 1) := by decide +kernel
theorem dL_law__1070 : decode cL_law_ 1070 = .ok (.iload 4, 2) := by decide +kernel
theorem dL_law__1072 : decode cL_law_ 1072 = .ok (.iconst 1, 1) := by decide +kernel
theorem dL_law__1073 : decode cL_law_ 1073 = .ok (.iadd, 1) := by decide +kernel
theorem dL_law__1074 : decode cL_law_ 1074 = .ok (.iaload, 1) := by decide +kernel
theorem dL_law__1075 : decode cL_law_ 1075 = .ok (.invokevirtual 183, 3) := by decide +kernel
theorem dL_law__1078 : decode cL_law_ 1078 = .ok (.istore 6, 2) := by decide +kernel
theorem dL_law__1080 : decode cL_law_ 1080 = .ok (.aload_n 2, 1) := by decide +kernel
theorem dL_law__1081 : decode cL_law_ 1081 = .ok (.invokevirtual 144, 3) := by decide +kernel
theorem dL_law__1084 : decode cL_law_ 1084 = .ok (.iload 5, 2) := by decide +kernel
theorem dL_law__1086 : decode cL_law_ 1086 = .ok (.if_icmp .eq 5, 3) := by decide +kernel
theorem dL_law__1089 : decode cL_law_ 1089 = .ok (.iconst 0, 1) := by decide +kernel
theorem dL_law__1090 : decode cL_law_ 1090 = .ok (.ireturn, 1) := by decide +kernel
theorem dL_law__1091 : decode cL_law_ 1091 = .ok (.iload 5, 2) := by decide +kernel
theorem dL_law__1093 : decode cL_law_ 1093 = .ok (.ifCond .ne 15, 3) := by decide +kernel
theorem dL_law__1096 : decode cL_law_ 1096 = .ok (.aload_n 3, 1) := by decide +kernel
theorem dL_law__1097 : decode cL_law_ 1097 = .ok (.iconst 0, 1) := by decide +kernel
theorem dL_law__1098 : decode cL_law_ 1098 = .ok (.laload, 1) := by decide +kernel
theorem dL_law__1099 : decode cL_law_ 1099 = .ok (.iload 6, 2) := by decide +kernel
theorem dL_law__1101 : decode cL_law_ 1101 = .ok (.i2l, 1) := by decide +kernel
theorem dL_law__1102 : decode cL_law_ 1102 = .ok (.lcmp, 1) := by decide +kernel
theorem dL_law__1103 : decode cL_law_ 1103 = .ok (.ifCond .eq 5, 3) := by decide +kernel
theorem dL_law__1106 : decode cL_law_ 1106 = .ok (.iconst 0, 1) := by decide +kernel
theorem dL_law__1107 : decode cL_law_ 1107 = .ok (.ireturn, 1) := by decide +kernel
theorem dL_law__1108 : decode cL_law_ 1108 = .ok (.goto 1710, 3) := by decide +kernel
theorem dL_law__1111 : decode cL_law_ 1111 = .ok (.aload_n 1, 1) := by decide +kernel
theorem dL_law__1112 : decode cL_law_ 1112 = .ok (.aload_n 0, 1) := by decide +kernel
theorem dL_law__1113 : decode cL_law_ 1113 = .ok (.iload 4, 2) := by decide +kernel
theorem dL_law__1115 : decode cL_law_ 1115 = .ok (.iconst 1, 1) := by decide +kernel
theorem dL_law__1116 : decode cL_law_ 1116 = .ok (.iadd, 1) := by decide +kernel
theorem dL_law__1117 : decode cL_law_ 1117 = .ok (.iaload, 1) := by decide +kernel
theorem dL_law__1118 : decode cL_law_ 1118 = .ok (.aload_n 3, 1) := by decide +kernel
theorem dL_law__1119 : decode cL_law_ 1119 = .ok (.invokestatic 184, 3) := by decide +kernel
theorem dL_law__1122 : decode cL_law_ 1122 = .ok (.istore 5, 2) := by decide +kernel
theorem dL_law__1124 : decode cL_law_ 1124 = .ok (.aload_n 2, 1) := by decide +kernel
theorem dL_law__1125 : decode cL_law_ 1125 = .ok (.aload_n 0, 1) := by decide +kernel
theorem dL_law__1126 : decode cL_law_ 1126 = .ok (.iload 4, 2) := by decide +kernel
theorem dL_law__1128 : decode cL_law_ 1128 = .ok (.iconst 1, 1) := by decide +kernel
theorem dL_law__1129 : decode cL_law_ 1129 = .ok (.iadd, 1) := by decide +kernel
theorem dL_law__1130 : decode cL_law_ 1130 = .ok (.iaload, 1) := by decide +kernel
theorem dL_law__1131 : decode cL_law_ 1131 = .ok (.invokevirtual 186, 3) := by decide +kernel
theorem dL_law__1134 : decode cL_law_ 1134 = .ok (.istore 6, 2) := by decide +kernel
theorem dL_law__1136 : decode cL_law_ 1136 = .ok (.aload_n 2, 1) := by decide +kernel
theorem dL_law__1137 : decode cL_law_ 1137 = .ok (.invokevirtual 144, 3) := by decide +kernel
theorem dL_law__1140 : decode cL_law_ 1140 = .ok (.iload 5, 2) := by decide +kernel
theorem dL_law__1142 : decode cL_law_ 1142 = .ok (.if_icmp .eq 5, 3) := by decide +kernel
theorem dL_law__1145 : decode cL_law_ 1145 = .ok (.iconst 0, 1) := by decide +kernel
theorem dL_law__1146 : decode cL_law_ 1146 = .ok (.ireturn, 1) := by decide +kernel
theorem dL_law__1147 : decode cL_law_ 1147 = .ok (.iload 5, 2) := by decide +kernel
theorem dL_law__1149 : decode cL_law_ 1149 = .ok (.ifCond .ne 15, 3) := by decide +kernel
theorem dL_law__1152 : decode cL_law_ 1152 = .ok (.aload_n 3, 1) := by decide +kernel
theorem dL_law__1153 : decode cL_law_ 1153 = .ok (.iconst 0, 1) := by decide +kernel
theorem dL_law__1154 : decode cL_law_ 1154 = .ok (.laload, 1) := by decide +kernel
theorem dL_law__1155 : decode cL_law_ 1155 = .ok (.iload 6, 2) := by decide +kernel
theorem dL_law__1157 : decode cL_law_ 1157 = .ok (.i2l, 1) := by decide +kernel
theorem dL_law__1158 : decode cL_law_ 1158 = .ok (.lcmp, 1) := by decide +kernel
theorem dL_law__1159 : decode cL_law_ 1159 = .ok (.ifCond .eq 5, 3) := by decide +kernel
theorem dL_law__1162 : decode cL_law_ 1162 = .ok (.iconst 0, 1) := by decide +kernel
theorem dL_law__1163 : decode cL_law_ 1163 = .ok (.ireturn, 1) := by decide +kernel
theorem dL_law__1164 : decode cL_law_ 1164 = .ok (.goto 1654, 3) := by decide +kernel
theorem dL_law__1167 : decode cL_law_ 1167 = .ok (.aload_n 1, 1) := by decide +kernel
theorem dL_law__1168 : decode cL_law_ 1168 = .ok (.aload_n 0, 1) := by decide +kernel
theorem dL_law__1169 : decode cL_law_ 1169 = .ok (.iload 4, 2) := by decide +kernel
theorem dL_law__1171 : decode cL_law_ 1171 = .ok (.iconst 1, 1) := by decide +kernel
theorem dL_law__1172 : decode cL_law_ 1172 = .ok (.iadd, 1) := by decide +kernel
theorem dL_law__1173 : decode cL_law_ 1173 = .ok (.iaload, 1) := by decide +kernel
theorem dL_law__1174 : decode cL_law_ 1174 = .ok (.aload_n 3, 1) := by decide +kernel
theorem dL_law__1175 : decode cL_law_ 1175 = .ok (.invokestatic 187, 3) := by decide +kernel
theorem dL_law__1178 : decode cL_law_ 1178 = .ok (.istore 5, 2) := by decide +kernel
theorem dL_law__1180 : decode cL_law_ 1180 = .ok (.aload_n 2, 1) := by decide +kernel
theorem dL_law__1181 : decode cL_law_ 1181 = .ok (.aload_n 0, 1) := by decide +kernel
theorem dL_law__1182 : decode cL_law_ 1182 = .ok (.iload 4, 2) := by decide +kernel
theorem dL_law__1184 : decode cL_law_ 1184 = .ok (.iconst 1, 1) := by decide +kernel
theorem dL_law__1185 : decode cL_law_ 1185 = .ok (.iadd, 1) := by decide +kernel
theorem dL_law__1186 : decode cL_law_ 1186 = .ok (.iaload, 1) := by decide +kernel
theorem dL_law__1187 : decode cL_law_ 1187 = .ok (.invokevirtual 189, 3) := by decide +kernel
theorem dL_law__1190 : decode cL_law_ 1190 = .ok (.istore 6, 2) := by decide +kernel
theorem dL_law__1192 : decode cL_law_ 1192 = .ok (.aload_n 2, 1) := by decide +kernel
theorem dL_law__1193 : decode cL_law_ 1193 = .ok (.invokevirtual 144, 3) := by decide +kernel
theorem dL_law__1196 : decode cL_law_ 1196 = .ok (.iload 5, 2) := by decide +kernel
theorem dL_law__1198 : decode cL_law_ 1198 = .ok (.if_icmp .eq 5, 3) := by decide +kernel
theorem dL_law__1201 : decode cL_law_ 1201 = .ok (.iconst 0, 1) := by decide +kernel
theorem dL_law__1202 : decode cL_law_ 1202 = .ok (.ireturn, 1) := by decide +kernel
theorem dL_law__1203 : decode cL_law_ 1203 = .ok (.iload 5, 2) := by decide +kernel
theorem dL_law__1205 : decode cL_law_ 1205 = .ok (.ifCond .ne 15, 3) := by decide +kernel
theorem dL_law__1208 : decode cL_law_ 1208 = .ok (.aload_n 3, 1) := by decide +kernel
theorem dL_law__1209 : decode cL_law_ 1209 = .ok (.iconst 0, 1) := by decide +kernel
theorem dL_law__1210 : decode cL_law_ 1210 = .ok (.laload, 1) := by decide +kernel
theorem dL_law__1211 : decode cL_law_ 1211 = .ok (.iload 6, 2) := by decide +kernel
theorem dL_law__1213 : decode cL_law_ 1213 = .ok (.i2l, 1) := by decide +kernel
theorem dL_law__1214 : decode cL_law_ 1214 = .ok (.lcmp, 1) := by decide +kernel
theorem dL_law__1215 : decode cL_law_ 1215 = .ok (.ifCond .eq 5, 3) := by decide +kernel
theorem dL_law__1218 : decode cL_law_ 1218 = .ok (.iconst 0, 1) := by decide +kernel
theorem dL_law__1219 : decode cL_law_ 1219 = .ok (.ireturn, 1) := by decide +kernel
theorem dL_law__1220 : decode cL_law_ 1220 = .ok (.goto 1598, 3) := by decide +kernel
theorem dL_law__1223 : decode cL_law_ 1223 = .ok (.aload_n 1, 1) := by decide +kernel
theorem dL_law__1224 : decode cL_law_ 1224 = .ok (.invokevirtual 190, 3) := by decide +kernel
theorem dL_law__1227 : decode cL_law_ 1227 = .ok (.aload_n 2, 1) := by decide +kernel
theorem dL_law__1228 : decode cL_law_ 1228 = .ok (.invokevirtual 193, 3) := by decide +kernel
theorem dL_law__1231 : decode cL_law_ 1231 = .ok (.if_icmp .eq 1587, 3) := by decide +kernel
theorem dL_law__1234 : decode cL_law_ 1234 = .ok (.iconst 0, 1) := by decide +kernel
theorem dL_law__1235 : decode cL_law_ 1235 = .ok (.ireturn, 1) := by decide +kernel
theorem dL_law__1236 : decode cL_law_ 1236 = .ok (.aload_n 1, 1) := by decide +kernel
theorem dL_law__1237 : decode cL_law_ 1237 = .ok (.aload_n 0, 1) := by decide +kernel
theorem dL_law__1238 : decode cL_law_ 1238 = .ok (.iload 4, 2) := by decide +kernel
theorem dL_law__1240 : decode cL_law_ 1240 = .ok (.iconst 1, 1) := by decide +kernel
theorem dL_law__1241 : decode cL_law_ 1241 = .ok (.iadd, 1) := by decide +kernel
theorem dL_law__1242 : decode cL_law_ 1242 = .ok (.iaload, 1) := by decide +kernel
theorem dL_law__1243 : decode cL_law_ 1243 = .ok (.aload_n 3, 1) := by decide +kernel
theorem dL_law__1244 : decode cL_law_ 1244 = .ok (.invokestatic 194, 3) := by decide +kernel
theorem dL_law__1247 : decode cL_law_ 1247 = .ok (.istore 5, 2) := by decide +kernel
theorem dL_law__1249 : decode cL_law_ 1249 = .ok (.aload_n 2, 1) := by decide +kernel
theorem dL_law__1250 : decode cL_law_ 1250 = .ok (.aload_n 0, 1) := by decide +kernel
theorem dL_law__1251 : decode cL_law_ 1251 = .ok (.iload 4, 2) := by decide +kernel
theorem dL_law__1253 : decode cL_law_ 1253 = .ok (.iconst 1, 1) := by decide +kernel
theorem dL_law__1254 : decode cL_law_ 1254 = .ok (.iadd, 1) := by decide +kernel
theorem dL_law__1255 : decode cL_law_ 1255 = .ok (.iaload, 1) := by decide +kernel
theorem dL_law__1256 : decode cL_law_ 1256 = .ok (.invokevirtual 196, 3) := by decide +kernel
