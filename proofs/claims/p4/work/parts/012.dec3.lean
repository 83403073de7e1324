theorem dX11_init_808 : decode cX11_init 808 = .ok (.dup, 1) := by decide +kernel
theorem dX11_init_809 : decode cX11_init 809 = .ok (.bipush 94, 2) := by decide +kernel
theorem dX11_init_811 : decode cX11_init 811 = .ok (.iconst 0, 1) := by decide +kernel
theorem dX11_init_812 : decode cX11_init 812 = .ok (.iastore, 1) := by decide +kernel
theorem dX11_init_813 : decode cX11_init 813 = .ok (.dup, 1) := by decide +kernel
theorem dX11_init_814 : decode cX11_init 814 = .ok (.bipush 95, 2) := by decide +kernel
theorem dX11_init_816 : decode cX11_init 816 = .ok (.iconst 0, 1) := by decide +kernel
theorem dX11_init_817 : decode cX11_init 817 = .ok (.iastore, 1) := by decide +kernel
theorem dX11_init_818 : decode cX11_init 818 = .ok (.dup, 1) := by decide +kernel
theorem dX11_init_819 : decode cX11_init 819 = .ok (.bipush 96, 2) := by decide +kernel
theorem dX11_init_821 : decode cX11_init 821 = .ok (.iconst 0, 1) := by decide +kernel
theorem dX11_init_822 : decode cX11_init 822 = .ok (.iastore, 1) := by decide +kernel
theorem dX11_init_823 : decode cX11_init 823 = .ok (.dup, 1) := by decide +kernel
theorem dX11_init_824 : decode cX11_init 824 = .ok (.bipush 97, 2) := by decide +kernel
theorem dX11_init_826 : decode cX11_init 826 = .ok (.iconst 0, 1) := by decide +kernel
theorem dX11_init_827 : decode cX11_init 827 = .ok (.iastore, 1) := by decide +kernel
theorem dX11_init_828 : decode cX11_init 828 = .ok (.dup, 1) := by decide +kernel
theorem dX11_init_829 : decode cX11_init 829 = .ok (.bipush 98, 2) := by decide +kernel
theorem dX11_init_831 : decode cX11_init 831 = .ok (.iconst 0, 1) := by decide +kernel
theorem dX11_init_832 : decode cX11_init 832 = .ok (.iastore, 1) := by decide +kernel
theorem dX11_init_833 : decode cX11_init 833 = .ok (.dup, 1) := by decide +kernel
theorem dX11_init_834 : decode cX11_init 834 = .ok (.bipush 99, 2) := by decide +kernel
theorem dX11_init_836 : decode cX11_init 836 = .ok (.iconst 0, 1) := by decide +kernel
theorem dX11_init_837 : decode cX11_init 837 = .ok (.iastore, 1) := by decide +kernel
theorem dX11_init_838 : decode cX11_init 838 = .ok (.putfield 19, 3) := by decide +kernel
theorem dX11_init_841 : decode cX11_init 841 = .ok (.aload_n 0, 1) := by decide +kernel
theorem dX11_init_842 : decode cX11_init 842 = .ok (.bipush 100, 2) := by decide +kernel
theorem dX11_init_844 : decode cX11_init 844 = .ok (.newarray .int, 2) := by decide +kernel
theorem dX11_init_846 : decode cX11_init 846 = .ok (.putfield 22, 3) := by decide +kernel
theorem dX11_init_849 : decode cX11_init 849 = .ok (.aload_n 0, 1) := by decide +kernel
theorem dX11_init_850 : decode cX11_init 850 = .ok (.sipush 384, 3) := by decide +kernel
theorem dX11_init_853 : decode cX11_init 853 = .ok (.newarray .int, 2) := by decide +kernel
theorem dX11_init_855 : decode cX11_init 855 = .ok (.putfield 25, 3) := by decide +kernel
theorem dX11_init_858 : decode cX11_init 858 = .ok (.aload_n 0, 1) := by decide +kernel
theorem dX11_init_859 : decode cX11_init 859 = .ok (.iconst 2, 1) := by decide +kernel
theorem dX11_init_860 : decode cX11_init 860 = .ok (.newarray .boolean, 2) := by decide +kernel
theorem dX11_init_862 : decode cX11_init 862 = .ok (.putfield 28, 3) := by decide +kernel
theorem dX11_init_865 : decode cX11_init 865 = .ok (.aload_n 0, 1) := by decide +kernel
theorem dX11_init_866 : decode cX11_init 866 = .ok (.iconst 5, 1) := by decide +kernel
theorem dX11_init_867 : decode cX11_init 867 = .ok (.newarray .int, 2) := by decide +kernel
theorem dX11_init_869 : decode cX11_init 869 = .ok (.putfield 32, 3) := by decide +kernel
theorem dX11_init_872 : decode cX11_init 872 = .ok (.aload_n 0, 1) := by decide +kernel
theorem dX11_init_873 : decode cX11_init 873 = .ok (.iconst 5, 1) := by decide +kernel
theorem dX11_init_874 : decode cX11_init 874 = .ok (.newarray .int, 2) := by decide +kernel
theorem dX11_init_876 : decode cX11_init 876 = .ok (.putfield 35, 3) := by decide +kernel
theorem dX11_init_879 : decode cX11_init 879 = .ok (.aload_n 0, 1) := by decide +kernel
theorem dX11_init_880 : decode cX11_init 880 = .ok (.sipush 3000, 3) := by decide +kernel
theorem dX11_init_883 : decode cX11_init 883 = .ok (.newarray .int, 2) := by decide +kernel
theorem dX11_init_885 : decode cX11_init 885 = .ok (.putfield 38, 3) := by decide +kernel
theorem dX11_init_888 : decode cX11_init 888 = .ok (.aload_n 0, 1) := by decide +kernel
theorem dX11_init_889 : decode cX11_init 889 = .ok (.bipush 8, 2) := by decide +kernel
theorem dX11_init_891 : decode cX11_init 891 = .ok (.newarray .int, 2) := by decide +kernel
theorem dX11_init_893 : decode cX11_init 893 = .ok (.putfield 41, 3) := by decide +kernel
theorem dX11_init_896 : decode cX11_init 896 = .ok (.aload_n 0, 1) := by decide +kernel
theorem dX11_init_897 : decode cX11_init 897 = .ok (.sipush 9600, 3) := by decide +kernel
theorem dX11_init_900 : decode cX11_init 900 = .ok (.newarray .int, 2) := by decide +kernel
theorem dX11_init_902 : decode cX11_init 902 = .ok (.putfield 44, 3) := by decide +kernel
theorem dX11_init_905 : decode cX11_init 905 = .ok (.aload_n 0, 1) := by decide +kernel
theorem dX11_init_906 : decode cX11_init 906 = .ok (.bipush 120, 2) := by decide +kernel
theorem dX11_init_908 : decode cX11_init 908 = .ok (.newarray .int, 2) := by decide +kernel
theorem dX11_init_910 : decode cX11_init 910 = .ok (.putfield 47, 3) := by decide +kernel
theorem dX11_init_913 : decode cX11_init 913 = .ok (.aload_n 0, 1) := by decide +kernel
theorem dX11_init_914 : decode cX11_init 914 = .ok (.bipush 120, 2) := by decide +kernel
theorem dX11_init_916 : decode cX11_init 916 = .ok (.newarray .int, 2) := by decide +kernel
theorem dX11_init_918 : decode cX11_init 918 = .ok (.putfield 50, 3) := by decide +kernel
theorem dX11_init_921 : decode cX11_init 921 = .ok (.aload_n 0, 1) := by decide +kernel
theorem dX11_init_922 : decode cX11_init 922 = .ok (.iconst 5, 1) := by decide +kernel
theorem dX11_init_923 : decode cX11_init 923 = .ok (.newarray .int, 2) := by decide +kernel
theorem dX11_init_925 : decode cX11_init 925 = .ok (.putfield 53, 3) := by decide +kernel
theorem dX11_init_928 : decode cX11_init 928 = .ok (.aload_n 0, 1) := by decide +kernel
theorem dX11_init_929 : decode cX11_init 929 = .ok (.iconst 4, 1) := by decide +kernel
theorem dX11_init_930 : decode cX11_init 930 = .ok (.newarray .int, 2) := by decide +kernel
theorem dX11_init_932 : decode cX11_init 932 = .ok (.dup, 1) := by decide +kernel
theorem dX11_init_933 : decode cX11_init 933 = .ok (.iconst 0, 1) := by decide +kernel
theorem dX11_init_934 : decode cX11_init 934 = .ok (.bipush (-4), 2) := by decide +kernel
theorem dX11_init_936 : decode cX11_init 936 = .ok (.iastore, 1) := by decide +kernel
theorem dX11_init_937 : decode cX11_init 937 = .ok (.dup, 1) := by decide +kernel
theorem dX11_init_938 : decode cX11_init 938 = .ok (.iconst 1, 1) := by decide +kernel
theorem dX11_init_939 : decode cX11_init 939 = .ok (.bipush (-4), 2) := by decide +kernel
theorem dX11_init_941 : decode cX11_init 941 = .ok (.iastore, 1) := by decide +kernel
theorem dX11_init_942 : decode cX11_init 942 = .ok (.dup, 1) := by decide +kernel
theorem dX11_init_943 : decode cX11_init 943 = .ok (.iconst 2, 1) := by decide +kernel
theorem dX11_init_944 : decode cX11_init 944 = .ok (.bipush (-4), 2) := by decide +kernel
theorem dX11_init_946 : decode cX11_init 946 = .ok (.iastore, 1) := by decide +kernel
theorem dX11_init_947 : decode cX11_init 947 = .ok (.dup, 1) := by decide +kernel
theorem dX11_init_948 : decode cX11_init 948 = .ok (.iconst 3, 1) := by decide +kernel
theorem dX11_init_949 : decode cX11_init 949 = .ok (.bipush (-4), 2) := by decide +kernel
theorem dX11_init_951 : decode cX11_init 951 = .ok (.iastore, 1) := by decide +kernel
theorem dX11_init_952 : decode cX11_init 952 = .ok (.putfield 56, 3) := by decide +kernel
theorem dX11_init_955 : decode cX11_init 955 = .ok (.aload_n 0, 1) := by decide +kernel
theorem dX11_init_956 : decode cX11_init 956 = .ok (.iconst 4, 1) := by decide +kernel
theorem dX11_init_957 : decode cX11_init 957 = .ok (.newarray .int, 2) := by decide +kernel
theorem dX11_init_959 : decode cX11_init 959 = .ok (.putfield 59, 3) := by decide +kernel
theorem dX11_init_962 : decode cX11_init 962 = .ok (.aload_n 0, 1) := by decide +kernel
theorem dX11_init_963 : decode cX11_init 963 = .ok (.sipush 160, 3) := by decide +kernel
theorem dX11_init_966 : decode cX11_init 966 = .ok (.newarray .int, 2) := by decide +kernel
theorem dX11_init_968 : decode cX11_init 968 = .ok (.putfield 62, 3) := by decide +kernel
theorem dX11_init_971 : decode cX11_init 971 = .ok (.return_, 1) := by decide +kernel
theorem dX11_in_0 : decode cX11_in 0 = .ok (.lload_n 0, 1) := by decide +kernel
theorem dX11_in_1 : decode cX11_in 1 = .ok (.lload_n 2, 1) := by decide +kernel
theorem dX11_in_2 : decode cX11_in 2 = .ok (.lcmp, 1) := by decide +kernel
theorem dX11_in_3 : decode cX11_in 3 = .ok (.ifCond .lt 14, 3) := by decide +kernel
theorem dX11_in_6 : decode cX11_in 6 = .ok (.lload_n 0, 1) := by decide +kernel
theorem dX11_in_7 : decode cX11_in 7 = .ok (.lload 4, 2) := by decide +kernel
theorem dX11_in_9 : decode cX11_in 9 = .ok (.lcmp, 1) := by decide +kernel
theorem dX11_in_10 : decode cX11_in 10 = .ok (.ifCond .gt 7, 3) := by decide +kernel
theorem dX11_in_13 : decode cX11_in 13 = .ok (.iconst 1, 1) := by decide +kernel
theorem dX11_in_14 : decode cX11_in 14 = .ok (.goto 4, 3) := by decide +kernel
theorem dX11_in_17 : decode cX11_in 17 = .ok (.iconst 0, 1) := by decide +kernel
theorem dX11_in_18 : decode cX11_in 18 = .ok (.ireturn, 1) := by decide +kernel
theorem dX11_feed_0 : decode cX11_feed 0 = .ok (.aload_n 0, 1) := by decide +kernel
theorem dX11_feed_1 : decode cX11_feed 1 = .ok (.getfield 65, 3) := by decide +kernel
theorem dX11_feed_4 : decode cX11_feed 4 = .ok (.bipush 8, 2) := by decide +kernel
theorem dX11_feed_6 : decode cX11_feed 6 = .ok (.iadd, 1) := by decide +kernel
theorem dX11_feed_7 : decode cX11_feed 7 = .ok (.sipush 400, 3) := by decide +kernel
theorem dX11_feed_10 : decode cX11_feed 10 = .ok (.if_icmp .le 6, 3) := by decide +kernel
theorem dX11_feed_13 : decode cX11_feed 13 = .ok (.bipush (-3), 2) := by decide +kernel
theorem dX11_feed_15 : decode cX11_feed 15 = .ok (.ireturn, 1) := by decide +kernel
theorem dX11_feed_16 : decode cX11_feed 16 = .ok (.bipush 56, 2) := by decide +kernel
theorem dX11_feed_18 : decode cX11_feed 18 = .ok (.istore_n 3, 1) := by decide +kernel
theorem dX11_feed_19 : decode cX11_feed 19 = .ok (.iload_n 3, 1) := by decide +kernel
theorem dX11_feed_20 : decode cX11_feed 20 = .ok (.ifCond .lt 36, 3) := by decide +kernel
theorem dX11_feed_23 : decode cX11_feed 23 = .ok (.aload_n 0, 1) := by decide +kernel
theorem dX11_feed_24 : decode cX11_feed 24 = .ok (.getfield 7, 3) := by decide +kernel
theorem dX11_feed_27 : decode cX11_feed 27 = .ok (.aload_n 0, 1) := by decide +kernel
theorem dX11_feed_28 : decode cX11_feed 28 = .ok (.getfield 65, 3) := by decide +kernel
theorem dX11_feed_31 : decode cX11_feed 31 = .ok (.lload_n 1, 1) := by decide +kernel
theorem dX11_feed_32 : decode cX11_feed 32 = .ok (.iload_n 3, 1) := by decide +kernel
theorem dX11_feed_33 : decode cX11_feed 33 = .ok (.lshr, 1) := by decide +kernel
theorem dX11_feed_34 : decode cX11_feed 34 = .ok (.l2i, 1) := by decide +kernel
theorem dX11_feed_35 : decode cX11_feed 35 = .ok (.sipush 255, 3) := by decide +kernel
theorem dX11_feed_38 : decode cX11_feed 38 = .ok (.iand, 1) := by decide +kernel
theorem dX11_feed_39 : decode cX11_feed 39 = .ok (.iastore, 1) := by decide +kernel
theorem dX11_feed_40 : decode cX11_feed 40 = .ok (.aload_n 0, 1) := by decide +kernel
theorem dX11_feed_41 : decode cX11_feed 41 = .ok (.dup, 1) := by decide +kernel
theorem dX11_feed_42 : decode cX11_feed 42 = .ok (.getfield 65, 3) := by decide +kernel
theorem dX11_feed_45 : decode cX11_feed 45 = .ok (.iconst 1, 1) := by decide +kernel
theorem dX11_feed_46 : decode cX11_feed 46 = .ok (.iadd, 1) := by decide +kernel
theorem dX11_feed_47 : decode cX11_feed 47 = .ok (.putfield 65, 3) := by decide +kernel
theorem dX11_feed_50 : decode cX11_feed 50 = .ok (.iinc 3 (-8), 3) := by decide +kernel
theorem dX11_feed_53 : decode cX11_feed 53 = .ok (.goto (-34), 3) := by decide +kernel
theorem dX11_feed_56 : decode cX11_feed 56 = .ok (.aload_n 0, 1) := by decide +kernel
theorem dX11_feed_57 : decode cX11_feed 57 = .ok (.getfield 65, 3) := by decide +kernel
theorem dX11_feed_60 : decode cX11_feed 60 = .ok (.ireturn, 1) := by decide +kernel
theorem dX11_end_0 : decode cX11_end 0 = .ok (.iload_n 1, 1) := by decide +kernel
theorem dX11_end_1 : decode cX11_end 1 = .ok (.i2l, 1) := by decide +kernel
theorem dX11_end_2 : decode cX11_end 2 = .ok (.lconst 0, 1) := by decide +kernel
theorem dX11_end_3 : decode cX11_end 3 = .ok (.aload_n 0, 1) := by decide +kernel
theorem dX11_end_4 : decode cX11_end 4 = .ok (.getfield 65, 3) := by decide +kernel
theorem dX11_end_7 : decode cX11_end 7 = .ok (.i2l, 1) := by decide +kernel
theorem dX11_end_8 : decode cX11_end 8 = .ok (.invokestatic 69, 3) := by decide +kernel
theorem dX11_end_11 : decode cX11_end 11 = .ok (.ifCond .ne 5, 3) := by decide +kernel
theorem dX11_end_14 : decode cX11_end 14 = .ok (.iconst (-1), 1) := by decide +kernel
theorem dX11_end_15 : decode cX11_end 15 = .ok (.ireturn, 1) := by decide +kernel
theorem dX11_end_16 : decode cX11_end 16 = .ok (.aload_n 0, 1) := by decide +kernel
theorem dX11_end_17 : decode cX11_end 17 = .ok (.getfield 65, 3) := by decide +kernel
theorem dX11_end_20 : decode cX11_end 20 = .ok (.istore_n 2, 1) := by decide +kernel
theorem dX11_end_21 : decode cX11_end 21 = .ok (.aload_n 0, 1) := by decide +kernel
theorem dX11_end_22 : decode cX11_end 22 = .ok (.iload_n 1, 1) := by decide +kernel
theorem dX11_end_23 : decode cX11_end 23 = .ok (.putfield 65, 3) := by decide +kernel
theorem dX11_end_26 : decode cX11_end 26 = .ok (.iload_n 2, 1) := by decide +kernel
theorem dX11_end_27 : decode cX11_end 27 = .ok (.ireturn, 1) := by decide +kernel
theorem dX11_byteAt_0 : decode cX11_byteAt 0 = .ok (.iload_n 1, 1) := by decide +kernel
theorem dX11_byteAt_1 : decode cX11_byteAt 1 = .ok (.aload_n 0, 1) := by decide +kernel
theorem dX11_byteAt_2 : decode cX11_byteAt 2 = .ok (.getfield 65, 3) := by decide +kernel
theorem dX11_byteAt_5 : decode cX11_byteAt 5 = .ok (.if_icmp .ge 12, 3) := by decide +kernel
theorem dX11_byteAt_8 : decode cX11_byteAt 8 = .ok (.aload_n 0, 1) := by decide +kernel
theorem dX11_byteAt_9 : decode cX11_byteAt 9 = .ok (.getfield 7, 3) := by decide +kernel
theorem dX11_byteAt_12 : decode cX11_byteAt 12 = .ok (.iload_n 1, 1) := by decide +kernel
theorem dX11_byteAt_13 : decode cX11_byteAt 13 = .ok (.iaload, 1) := by decide +kernel
theorem dX11_byteAt_14 : decode cX11_byteAt 14 = .ok (.goto 5, 3) := by decide +kernel
theorem dX11_byteAt_17 : decode cX11_byteAt 17 = .ok (.bipush (-4), 2) := by decide +kernel
theorem dX11_byteAt_19 : decode cX11_byteAt 19 = .ok (.ireturn, 1) := by decide +kernel
theorem dX11_fails_0 : decode cX11_fails 0 = .ok (.aload_n 0, 1) := by decide +kernel
theorem dX11_fails_1 : decode cX11_fails 1 = .ok (.getfield 73, 3) := by decide +kernel
theorem dX11_fails_4 : decode cX11_fails 4 = .ok (.ifCond .ne 16, 3) := by decide +kernel
theorem dX11_fails_7 : decode cX11_fails 7 = .ok (.aload_n 0, 1) := by decide +kernel
theorem dX11_fails_8 : decode cX11_fails 8 = .ok (.iload_n 1, 1) := by decide +kernel
theorem dX11_fails_9 : decode cX11_fails 9 = .ok (.putfield 73, 3) := by decide +kernel
theorem dX11_fails_12 : decode cX11_fails 12 = .ok (.aload_n 0, 1) := by decide +kernel
theorem dX11_fails_13 : decode cX11_fails 13 = .ok (.aload_n 0, 1) := by decide +kernel
theorem dX11_fails_14 : decode cX11_fails 14 = .ok (.getfield 76, 3) := by decide +kernel
theorem dX11_fails_17 : decode cX11_fails 17 = .ok (.putfield 79, 3) := by decide +kernel
theorem dX11_fails_20 : decode cX11_fails 20 = .ok (.return_, 1) := by decide +kernel
theorem dX11_nameAt_0 : decode cX11_nameAt 0 = .ok (.iconst 0, 1) := by decide +kernel
theorem dX11_nameAt_1 : decode cX11_nameAt 1 = .ok (.istore_n 3, 1) := by decide +kernel
theorem dX11_nameAt_2 : decode cX11_nameAt 2 = .ok (.iload_n 3, 1) := by decide +kernel
theorem dX11_nameAt_3 : decode cX11_nameAt 3 = .ok (.bipush 10, 2) := by decide +kernel
theorem dX11_nameAt_5 : decode cX11_nameAt 5 = .ok (.if_icmp .ge 98, 3) := by decide +kernel
theorem dX11_nameAt_8 : decode cX11_nameAt 8 = .ok (.iload_n 2, 1) := by decide +kernel
theorem dX11_nameAt_9 : decode cX11_nameAt 9 = .ok (.iload_n 1, 1) := by decide +kernel
theorem dX11_nameAt_10 : decode cX11_nameAt 10 = .ok (.isub, 1) := by decide +kernel
theorem dX11_nameAt_11 : decode cX11_nameAt 11 = .ok (.aload_n 0, 1) := by decide +kernel
theorem dX11_nameAt_12 : decode cX11_nameAt 12 = .ok (.getfield 13, 3) := by decide +kernel
theorem dX11_nameAt_15 : decode cX11_nameAt 15 = .ok (.iload_n 3, 1) := by decide +kernel
theorem dX11_nameAt_16 : decode cX11_nameAt 16 = .ok (.iconst 1, 1) := by decide +kernel
theorem dX11_nameAt_17 : decode cX11_nameAt 17 = .ok (.iadd, 1) := by decide +kernel
theorem dX11_nameAt_18 : decode cX11_nameAt 18 = .ok (.iaload, 1) := by decide +kernel
theorem dX11_nameAt_19 : decode cX11_nameAt 19 = .ok (.aload_n 0, 1) := by decide +kernel
theorem dX11_nameAt_20 : decode cX11_nameAt 20 = .ok (.getfield 13, 3) := by decide +kernel
theorem dX11_nameAt_23 : decode cX11_nameAt 23 = .ok (.iload_n 3, 1) := by decide +kernel
theorem dX11_nameAt_24 : decode cX11_nameAt 24 = .ok (.iaload, 1) := by decide +kernel
theorem dX11_nameAt_25 : decode cX11_nameAt 25 = .ok (.isub, 1) := by decide +kernel
theorem dX11_nameAt_26 : decode cX11_nameAt 26 = .ok (.if_icmp .ne 7, 3) := by decide +kernel
theorem dX11_nameAt_29 : decode cX11_nameAt 29 = .ok (.iconst 1, 1) := by decide +kernel
theorem dX11_nameAt_30 : decode cX11_nameAt 30 = .ok (.goto 4, 3) := by decide +kernel
theorem dX11_nameAt_33 : decode cX11_nameAt 33 = .ok (.iconst 0, 1) := by decide +kernel
theorem dX11_nameAt_34 : decode cX11_nameAt 34 = .ok (.istore 4, 2) := by decide +kernel
theorem dX11_nameAt_36 : decode cX11_nameAt 36 = .ok (.iconst 0, 1) := by decide +kernel
theorem dX11_nameAt_37 : decode cX11_nameAt 37 = .ok (.istore 5, 2) := by decide +kernel
theorem dX11_nameAt_39 : decode cX11_nameAt 39 = .ok (.iload 4, 2) := by decide +kernel
theorem dX11_nameAt_41 : decode cX11_nameAt 41 = .ok (.ifCond .eq 49, 3) := by decide +kernel
theorem dX11_nameAt_44 : decode cX11_nameAt 44 = .ok (.iload 5, 2) := by decide +kernel
theorem dX11_nameAt_46 : decode cX11_nameAt 46 = .ok (.iload_n 2, 1) := by decide +kernel
theorem dX11_nameAt_47 : decode cX11_nameAt 47 = .ok (.iload_n 1, 1) := by decide +kernel
theorem dX11_nameAt_48 : decode cX11_nameAt 48 = .ok (.isub, 1) := by decide +kernel
theorem dX11_nameAt_49 : decode cX11_nameAt 49 = .ok (.if_icmp .ge 41, 3) := by decide +kernel
theorem dX11_nameAt_52 : decode cX11_nameAt 52 = .ok (.aload_n 0, 1) := by decide +kernel
theorem dX11_nameAt_53 : decode cX11_nameAt 53 = .ok (.iload_n 1, 1) := by decide +kernel
theorem dX11_nameAt_54 : decode cX11_nameAt 54 = .ok (.iload 5, 2) := by decide +kernel
theorem dX11_nameAt_56 : decode cX11_nameAt 56 = .ok (.iadd, 1) := by decide +kernel
theorem dX11_nameAt_57 : decode cX11_nameAt 57 = .ok (.invokevirtual 82, 3) := by decide +kernel
theorem dX11_nameAt_60 : decode cX11_nameAt 60 = .ok (.aload_n 0, 1) := by decide +kernel
theorem dX11_nameAt_61 : decode cX11_nameAt 61 = .ok (.getfield 16, 3) := by decide +kernel
theorem dX11_nameAt_64 : decode cX11_nameAt 64 = .ok (.aload_n 0, 1) := by decide +kernel
theorem dX11_nameAt_65 : decode cX11_nameAt 65 = .ok (.getfield 13, 3) := by decide +kernel
theorem dX11_nameAt_68 : decode cX11_nameAt 68 = .ok (.iload_n 3, 1) := by decide +kernel
theorem dX11_nameAt_69 : decode cX11_nameAt 69 = .ok (.iaload, 1) := by decide +kernel
theorem dX11_nameAt_70 : decode cX11_nameAt 70 = .ok (.iload 5, 2) := by decide +kernel
theorem dX11_nameAt_72 : decode cX11_nameAt 72 = .ok (.iadd, 1) := by decide +kernel
theorem dX11_nameAt_73 : decode cX11_nameAt 73 = .ok (.iaload, 1) := by decide +kernel
theorem dX11_nameAt_74 : decode cX11_nameAt 74 = .ok (.if_icmp .ne 7, 3) := by decide +kernel
theorem dX11_nameAt_77 : decode cX11_nameAt 77 = .ok (.iconst 1, 1) := by decide +kernel
theorem dX11_nameAt_78 : decode cX11_nameAt 78 = .ok (.goto 4, 3) := by decide +kernel
theorem dX11_nameAt_81 : decode cX11_nameAt 81 = .ok (.iconst 0, 1) := by decide +kernel
theorem dX11_nameAt_82 : decode cX11_nameAt 82 = .ok (.istore 4, 2) := by decide +kernel
theorem dX11_nameAt_84 : decode cX11_nameAt 84 = .ok (.iinc 5 1, 3) := by decide +kernel
theorem dX11_nameAt_87 : decode cX11_nameAt 87 = .ok (.goto (-48), 3) := by decide +kernel
theorem dX11_nameAt_90 : decode cX11_nameAt 90 = .ok (.iload 4, 2) := by decide +kernel
theorem dX11_nameAt_92 : decode cX11_nameAt 92 = .ok (.ifCond .eq 5, 3) := by decide +kernel
theorem dX11_nameAt_95 : decode cX11_nameAt 95 = .ok (.iload_n 3, 1) := by decide +kernel
theorem dX11_nameAt_96 : decode cX11_nameAt 96 = .ok (.ireturn, 1) := by decide +kernel
theorem dX11_nameAt_97 : decode cX11_nameAt 97 = .ok (.iinc 3 1, 3) := by decide +kernel
theorem dX11_nameAt_100 : decode cX11_nameAt 100 = .ok (.goto (-98), 3) := by decide +kernel
theorem dX11_nameAt_103 : decode cX11_nameAt 103 = .ok (.bipush (-4), 2) := by decide +kernel
theorem dX11_nameAt_105 : decode cX11_nameAt 105 = .ok (.ireturn, 1) := by decide +kernel
theorem dX11_next_0 : decode cX11_next 0 = .ok (.aload_n 0, 1) := by decide +kernel
theorem dX11_next_1 : decode cX11_next 1 = .ok (.getfield 73, 3) := by decide +kernel
theorem dX11_next_4 : decode cX11_next 4 = .ok (.ifCond .le 4, 3) := by decide +kernel
theorem dX11_next_7 : decode cX11_next 7 = .ok (.return_, 1) := by decide +kernel
theorem dX11_next_8 : decode cX11_next 8 = .ok (.aload_n 0, 1) := by decide +kernel
theorem dX11_next_9 : decode cX11_next 9 = .ok (.aload_n 0, 1) := by decide +kernel
theorem dX11_next_10 : decode cX11_next 10 = .ok (.getfield 86, 3) := by decide +kernel
theorem dX11_next_13 : decode cX11_next 13 = .ok (.invokevirtual 82, 3) := by decide +kernel
theorem dX11_next_16 : decode cX11_next 16 = .ok (.bipush 32, 2) := by decide +kernel
theorem dX11_next_18 : decode cX11_next 18 = .ok (.if_icmp .ne 16, 3) := by decide +kernel
theorem dX11_next_21 : decode cX11_next 21 = .ok (.aload_n 0, 1) := by decide +kernel
theorem dX11_next_22 : decode cX11_next 22 = .ok (.dup, 1) := by decide +kernel
theorem dX11_next_23 : decode cX11_next 23 = .ok (.getfield 86, 3) := by decide +kernel
theorem dX11_next_26 : decode cX11_next 26 = .ok (.iconst 1, 1) := by decide +kernel
theorem dX11_next_27 : decode cX11_next 27 = .ok (.iadd, 1) := by decide +kernel
theorem dX11_next_28 : decode cX11_next 28 = .ok (.putfield 86, 3) := by decide +kernel
theorem dX11_next_31 : decode cX11_next 31 = .ok (.goto (-23), 3) := by decide +kernel
theorem dX11_next_34 : decode cX11_next 34 = .ok (.aload_n 0, 1) := by decide +kernel
theorem dX11_next_35 : decode cX11_next 35 = .ok (.aload_n 0, 1) := by decide +kernel
theorem dX11_next_36 : decode cX11_next 36 = .ok (.getfield 86, 3) := by decide +kernel
theorem dX11_next_39 : decode cX11_next 39 = .ok (.putfield 76, 3) := by decide +kernel
theorem dX11_next_42 : decode cX11_next 42 = .ok (.aload_n 0, 1) := by decide +kernel
theorem dX11_next_43 : decode cX11_next 43 = .ok (.aload_n 0, 1) := by decide +kernel
theorem dX11_next_44 : decode cX11_next 44 = .ok (.getfield 86, 3) := by decide +kernel
theorem dX11_next_47 : decode cX11_next 47 = .ok (.invokevirtual 82, 3) := by decide +kernel
theorem dX11_next_50 : decode cX11_next 50 = .ok (.istore_n 1, 1) := by decide +kernel
theorem dX11_next_51 : decode cX11_next 51 = .ok (.aload_n 0, 1) := by decide +kernel
theorem dX11_next_52 : decode cX11_next 52 = .ok (.iconst 0, 1) := by decide +kernel
theorem dX11_next_53 : decode cX11_next 53 = .ok (.putfield 89, 3) := by decide +kernel
theorem dX11_next_56 : decode cX11_next 56 = .ok (.iload_n 1, 1) := by decide +kernel
theorem dX11_next_57 : decode cX11_next 57 = .ok (.bipush (-4), 2) := by decide +kernel
theorem dX11_next_59 : decode cX11_next 59 = .ok (.if_icmp .ne 11, 3) := by decide +kernel
theorem dX11_next_62 : decode cX11_next 62 = .ok (.aload_n 0, 1) := by decide +kernel
theorem dX11_next_63 : decode cX11_next 63 = .ok (.iconst 0, 1) := by decide +kernel
theorem dX11_next_64 : decode cX11_next 64 = .ok (.putfield 92, 3) := by decide +kernel
theorem dX11_next_67 : decode cX11_next 67 = .ok (.goto 232, 3) := by decide +kernel
theorem dX11_next_70 : decode cX11_next 70 = .ok (.iload_n 1, 1) := by decide +kernel
theorem dX11_next_71 : decode cX11_next 71 = .ok (.i2l, 1) := by decide +kernel
theorem dX11_next_72 : decode cX11_next 72 = .ok (.ldc2_w 95, 3) := by decide +kernel
theorem dX11_next_75 : decode cX11_next 75 = .ok (.ldc2_w 97, 3) := by decide +kernel
theorem dX11_next_78 : decode cX11_next 78 = .ok (.invokestatic 69, 3) := by decide +kernel
theorem dX11_next_81 : decode cX11_next 81 = .ok (.ifCond .eq 75, 3) := by decide +kernel
theorem dX11_next_84 : decode cX11_next 84 = .ok (.aload_n 0, 1) := by decide +kernel
theorem dX11_next_85 : decode cX11_next 85 = .ok (.aload_n 0, 1) := by decide +kernel
theorem dX11_next_86 : decode cX11_next 86 = .ok (.getfield 86, 3) := by decide +kernel
theorem dX11_next_89 : decode cX11_next 89 = .ok (.invokevirtual 82, 3) := by decide +kernel
theorem dX11_next_92 : decode cX11_next 92 = .ok (.i2l, 1) := by decide +kernel
theorem dX11_next_93 : decode cX11_next 93 = .ok (.ldc2_w 95, 3) := by decide +kernel
theorem dX11_next_96 : decode cX11_next 96 = .ok (.ldc2_w 97, 3) := by decide +kernel
theorem dX11_next_99 : decode cX11_next 99 = .ok (.invokestatic 69, 3) := by decide +kernel
theorem dX11_next_102 : decode cX11_next 102 = .ok (.ifCond .eq 16, 3) := by decide +kernel
theorem dX11_next_105 : decode cX11_next 105 = .ok (.aload_n 0, 1) := by decide +kernel
theorem dX11_next_106 : decode cX11_next 106 = .ok (.dup, 1) := by decide +kernel
theorem dX11_next_107 : decode cX11_next 107 = .ok (.getfield 86, 3) := by decide +kernel
theorem dX11_next_110 : decode cX11_next 110 = .ok (.iconst 1, 1) := by decide +kernel
theorem dX11_next_111 : decode cX11_next 111 = .ok (.iadd, 1) := by decide +kernel
theorem dX11_next_112 : decode cX11_next 112 = .ok (.putfield 86, 3) := by decide +kernel
theorem dX11_next_115 : decode cX11_next 115 = .ok (.goto (-31), 3) := by decide +kernel
theorem dX11_next_118 : decode cX11_next 118 = .ok (.aload_n 0, 1) := by decide +kernel
theorem dX11_next_119 : decode cX11_next 119 = .ok (.iconst 1, 1) := by decide +kernel
theorem dX11_next_120 : decode cX11_next 120 = .ok (.putfield 92, 3) := by decide +kernel
theorem dX11_next_123 : decode cX11_next 123 = .ok (.aload_n 0, 1) := by decide +kernel
theorem dX11_next_124 : decode cX11_next 124 = .ok (.aload_n 0, 1) := by decide +kernel
theorem dX11_next_125 : decode cX11_next 125 = .ok (.aload_n 0, 1) := by decide +kernel
theorem dX11_next_126 : decode cX11_next 126 = .ok (.getfield 76, 3) := by decide +kernel
theorem dX11_next_129 : decode cX11_next 129 = .ok (.aload_n 0, 1) := by decide +kernel
theorem dX11_next_130 : decode cX11_next 130 = .ok (.getfield 86, 3) := by decide +kernel
theorem dX11_next_133 : decode cX11_next 133 = .ok (.invokevirtual 99, 3) := by decide +kernel
theorem dX11_next_136 : decode cX11_next 136 = .ok (.putfield 89, 3) := by decide +kernel
theorem dX11_next_139 : decode cX11_next 139 = .ok (.aload_n 0, 1) := by decide +kernel
theorem dX11_next_140 : decode cX11_next 140 = .ok (.getfield 89, 3) := by decide +kernel
theorem dX11_next_143 : decode cX11_next 143 = .ok (.bipush (-4), 2) := by decide +kernel
theorem dX11_next_145 : decode cX11_next 145 = .ok (.if_icmp .ne 154, 3) := by decide +kernel
theorem dX11_next_148 : decode cX11_next 148 = .ok (.aload_n 0, 1) := by decide +kernel
theorem dX11_next_149 : decode cX11_next 149 = .ok (.iconst 1, 1) := by decide +kernel
theorem dX11_next_150 : decode cX11_next 150 = .ok (.invokevirtual 103, 3) := by decide +kernel
theorem dX11_next_153 : decode cX11_next 153 = .ok (.goto 146, 3) := by decide +kernel
theorem dX11_next_156 : decode cX11_next 156 = .ok (.iload_n 1, 1) := by decide +kernel
theorem dX11_next_157 : decode cX11_next 157 = .ok (.i2l, 1) := by decide +kernel
theorem dX11_next_158 : decode cX11_next 158 = .ok (.ldc2_w 107, 3) := by decide +kernel
theorem dX11_next_161 : decode cX11_next 161 = .ok (.ldc2_w 109, 3) := by decide +kernel
theorem dX11_next_164 : decode cX11_next 164 = .ok (.invokestatic 69, 3) := by decide +kernel
theorem dX11_next_167 : decode cX11_next 167 = .ok (.ifCond .eq 106, 3) := by decide +kernel
theorem dX11_next_170 : decode cX11_next 170 = .ok (.aload_n 0, 1) := by decide +kernel
theorem dX11_next_171 : decode cX11_next 171 = .ok (.aload_n 0, 1) := by decide +kernel
theorem dX11_next_172 : decode cX11_next 172 = .ok (.getfield 86, 3) := by decide +kernel
theorem dX11_next_175 : decode cX11_next 175 = .ok (.invokevirtual 82, 3) := by decide +kernel
theorem dX11_next_178 : decode cX11_next 178 = .ok (.i2l, 1) := by decide +kernel
theorem dX11_next_179 : decode cX11_next 179 = .ok (.ldc2_w 107, 3) := by decide +kernel
theorem dX11_next_182 : decode cX11_next 182 = .ok (.ldc2_w 109, 3) := by decide +kernel
theorem dX11_next_185 : decode cX11_next 185 = .ok (.invokestatic 69, 3) := by decide +kernel
theorem dX11_next_188 : decode cX11_next 188 = .ok (.ifCond .eq 59, 3) := by decide +kernel
theorem dX11_next_191 : decode cX11_next 191 = .ok (.aload_n 0, 1) := by decide +kernel
theorem dX11_next_192 : decode cX11_next 192 = .ok (.aload_n 0, 1) := by decide +kernel
theorem dX11_next_193 : decode cX11_next 193 = .ok (.getfield 86, 3) := by decide +kernel
theorem dX11_next_196 : decode cX11_next 196 = .ok (.aload_n 0, 1) := by decide +kernel
theorem dX11_next_197 : decode cX11_next 197 = .ok (.getfield 76, 3) := by decide +kernel
theorem dX11_next_200 : decode cX11_next 200 = .ok (.isub, 1) := by decide +kernel
theorem dX11_next_201 : decode cX11_next 201 = .ok (.iconst 2, 1) := by decide +kernel
theorem dX11_next_202 : decode cX11_next 202 = .ok (.if_icmp .ge 25, 3) := by decide +kernel
theorem dX11_next_205 : decode cX11_next 205 = .ok (.bipush 10, 2) := by decide +kernel
theorem dX11_next_207 : decode cX11_next 207 = .ok (.aload_n 0, 1) := by decide +kernel
theorem dX11_next_208 : decode cX11_next 208 = .ok (.getfield 89, 3) := by decide +kernel
theorem dX11_next_211 : decode cX11_next 211 = .ok (.imul, 1) := by decide +kernel
theorem dX11_next_212 : decode cX11_next 212 = .ok (.aload_n 0, 1) := by decide +kernel
theorem dX11_next_213 : decode cX11_next 213 = .ok (.aload_n 0, 1) := by decide +kernel
theorem dX11_next_214 : decode cX11_next 214 = .ok (.getfield 86, 3) := by decide +kernel
theorem dX11_next_217 : decode cX11_next 217 = .ok (.invokevirtual 82, 3) := by decide +kernel
theorem dX11_next_220 : decode cX11_next 220 = .ok (.iadd, 1) := by decide +kernel
theorem dX11_next_221 : decode cX11_next 221 = .ok (.bipush 48, 2) := by decide +kernel
theorem dX11_next_223 : decode cX11_next 223 = .ok (.isub, 1) := by decide +kernel
theorem dX11_next_224 : decode cX11_next 224 = .ok (.goto 7, 3) := by decide +kernel
theorem dX11_next_227 : decode cX11_next 227 = .ok (.aload_n 0, 1) := by decide +kernel
theorem dX11_next_228 : decode cX11_next 228 = .ok (.getfield 89, 3) := by decide +kernel
theorem dX11_next_231 : decode cX11_next 231 = .ok (.putfield 89, 3) := by decide +kernel
theorem dX11_next_234 : decode cX11_next 234 = .ok (.aload_n 0, 1) := by decide +kernel
theorem dX11_next_235 : decode cX11_next 235 = .ok (.dup, 1) := by decide +kernel
theorem dX11_next_236 : decode cX11_next 236 = .ok (.getfield 86, 3) := by decide +kernel
theorem dX11_next_239 : decode cX11_next 239 = .ok (.iconst 1, 1) := by decide +kernel
theorem dX11_next_240 : decode cX11_next 240 = .ok (.iadd, 1) := by decide +kernel
theorem dX11_next_241 : decode cX11_next 241 = .ok (.putfield 86, 3) := by decide +kernel
theorem dX11_next_244 : decode cX11_next 244 = .ok (.goto (-74), 3) := by decide +kernel
theorem dX11_next_247 : decode cX11_next 247 = .ok (.aload_n 0, 1) := by decide +kernel
theorem dX11_next_248 : decode cX11_next 248 = .ok (.iconst 2, 1) := by decide +kernel
theorem dX11_next_249 : decode cX11_next 249 = .ok (.putfield 92, 3) := by decide +kernel
theorem dX11_next_252 : decode cX11_next 252 = .ok (.aload_n 0, 1) := by decide +kernel
theorem dX11_next_253 : decode cX11_next 253 = .ok (.getfield 86, 3) := by decide +kernel
theorem dX11_next_256 : decode cX11_next 256 = .ok (.aload_n 0, 1) := by decide +kernel
theorem dX11_next_257 : decode cX11_next 257 = .ok (.getfield 76, 3) := by decide +kernel
theorem dX11_next_260 : decode cX11_next 260 = .ok (.isub, 1) := by decide +kernel
theorem dX11_next_261 : decode cX11_next 261 = .ok (.iconst 2, 1) := by decide +kernel
theorem dX11_next_262 : decode cX11_next 262 = .ok (.if_icmp .le 37, 3) := by decide +kernel
theorem dX11_next_265 : decode cX11_next 265 = .ok (.aload_n 0, 1) := by decide +kernel
theorem dX11_next_266 : decode cX11_next 266 = .ok (.iconst 1, 1) := by decide +kernel
theorem dX11_next_267 : decode cX11_next 267 = .ok (.invokevirtual 103, 3) := by decide +kernel
theorem dX11_next_270 : decode cX11_next 270 = .ok (.goto 29, 3) := by decide +kernel
theorem dX11_next_273 : decode cX11_next 273 = .ok (.aload_n 0, 1) := by decide +kernel
theorem dX11_next_274 : decode cX11_next 274 = .ok (.iconst 3, 1) := by decide +kernel
theorem dX11_next_275 : decode cX11_next 275 = .ok (.putfield 92, 3) := by decide +kernel
theorem dX11_next_278 : decode cX11_next 278 = .ok (.aload_n 0, 1) := by decide +kernel
theorem dX11_next_279 : decode cX11_next 279 = .ok (.dup, 1) := by decide +kernel
theorem dX11_next_280 : decode cX11_next 280 = .ok (.getfield 86, 3) := by decide +kernel
theorem dX11_next_283 : decode cX11_next 283 = .ok (.iconst 1, 1) := by decide +kernel
theorem dX11_next_284 : decode cX11_next 284 = .ok (.iadd, 1) := by decide +kernel
theorem dX11_next_285 : decode cX11_next 285 = .ok (.putfield 86, 3) := by decide +kernel
theorem dX11_next_288 : decode cX11_next 288 = .ok (.iload_n 1, 1) := by decide +kernel
theorem dX11_next_289 : decode cX11_next 289 = .ok (.bipush 59, 2) := by decide +kernel
theorem dX11_next_291 : decode cX11_next 291 = .ok (.if_icmp .eq 8, 3) := by decide +kernel
theorem dX11_next_294 : decode cX11_next 294 = .ok (.aload_n 0, 1) := by decide +kernel
theorem dX11_next_295 : decode cX11_next 295 = .ok (.iconst 1, 1) := by decide +kernel
theorem dX11_next_296 : decode cX11_next 296 = .ok (.invokevirtual 103, 3) := by decide +kernel
theorem dX11_next_299 : decode cX11_next 299 = .ok (.return_, 1) := by decide +kernel
theorem dX11_number_0 : decode cX11_number 0 = .ok (.aload_n 0, 1) := by decide +kernel
theorem dX11_number_1 : decode cX11_number 1 = .ok (.getfield 73, 3) := by decide +kernel
theorem dX11_number_4 : decode cX11_number 4 = .ok (.ifCond .ne 16, 3) := by decide +kernel
theorem dX11_number_7 : decode cX11_number 7 = .ok (.aload_n 0, 1) := by decide +kernel
theorem dX11_number_8 : decode cX11_number 8 = .ok (.getfield 92, 3) := by decide +kernel
theorem dX11_number_11 : decode cX11_number 11 = .ok (.iconst 2, 1) := by decide +kernel
theorem dX11_number_12 : decode cX11_number 12 = .ok (.if_icmp .eq 8, 3) := by decide +kernel
theorem dX11_number_15 : decode cX11_number 15 = .ok (.aload_n 0, 1) := by decide +kernel
theorem dX11_number_16 : decode cX11_number 16 = .ok (.iconst 2, 1) := by decide +kernel
theorem dX11_number_17 : decode cX11_number 17 = .ok (.invokevirtual 103, 3) := by decide +kernel
theorem dX11_number_20 : decode cX11_number 20 = .ok (.aload_n 0, 1) := by decide +kernel
theorem dX11_number_21 : decode cX11_number 21 = .ok (.getfield 73, 3) := by decide +kernel
theorem dX11_number_24 : decode cX11_number 24 = .ok (.ifCond .ne 23, 3) := by decide +kernel
theorem dX11_number_27 : decode cX11_number 27 = .ok (.aload_n 0, 1) := by decide +kernel
theorem dX11_number_28 : decode cX11_number 28 = .ok (.getfield 89, 3) := by decide +kernel
theorem dX11_number_31 : decode cX11_number 31 = .ok (.i2l, 1) := by decide +kernel
theorem dX11_number_32 : decode cX11_number 32 = .ok (.iload_n 1, 1) := by decide +kernel
theorem dX11_number_33 : decode cX11_number 33 = .ok (.i2l, 1) := by decide +kernel
theorem dX11_number_34 : decode cX11_number 34 = .ok (.iload_n 2, 1) := by decide +kernel
theorem dX11_number_35 : decode cX11_number 35 = .ok (.i2l, 1) := by decide +kernel
theorem dX11_number_36 : decode cX11_number 36 = .ok (.invokestatic 69, 3) := by decide +kernel
theorem dX11_number_39 : decode cX11_number 39 = .ok (.ifCond .ne 8, 3) := by decide +kernel
theorem dX11_number_42 : decode cX11_number 42 = .ok (.aload_n 0, 1) := by decide +kernel
theorem dX11_number_43 : decode cX11_number 43 = .ok (.iconst 3, 1) := by decide +kernel
theorem dX11_number_44 : decode cX11_number 44 = .ok (.invokevirtual 103, 3) := by decide +kernel
theorem dX11_number_47 : decode cX11_number 47 = .ok (.aload_n 0, 1) := by decide +kernel
theorem dX11_number_48 : decode cX11_number 48 = .ok (.getfield 73, 3) := by decide +kernel
theorem dX11_number_51 : decode cX11_number 51 = .ok (.ifCond .ne 10, 3) := by decide +kernel
theorem dX11_number_54 : decode cX11_number 54 = .ok (.aload_n 0, 1) := by decide +kernel
theorem dX11_number_55 : decode cX11_number 55 = .ok (.getfield 89, 3) := by decide +kernel
theorem dX11_number_58 : decode cX11_number 58 = .ok (.goto 4, 3) := by decide +kernel
theorem dX11_number_61 : decode cX11_number 61 = .ok (.iload_n 1, 1) := by decide +kernel
theorem dX11_number_62 : decode cX11_number 62 = .ok (.ireturn, 1) := by decide +kernel
theorem dX11_numbers_0 : decode cX11_numbers 0 = .ok (.iconst 0, 1) := by decide +kernel
theorem dX11_numbers_1 : decode cX11_numbers 1 = .ok (.istore 5, 2) := by decide +kernel
theorem dX11_numbers_3 : decode cX11_numbers 3 = .ok (.iload 5, 2) := by decide +kernel
theorem dX11_numbers_5 : decode cX11_numbers 5 = .ok (.iload_n 2, 1) := by decide +kernel
theorem dX11_numbers_6 : decode cX11_numbers 6 = .ok (.if_icmp .ge 29, 3) := by decide +kernel
theorem dX11_numbers_9 : decode cX11_numbers 9 = .ok (.aload_n 0, 1) := by decide +kernel
theorem dX11_numbers_10 : decode cX11_numbers 10 = .ok (.getfield 22, 3) := by decide +kernel
theorem dX11_numbers_13 : decode cX11_numbers 13 = .ok (.iload_n 1, 1) := by decide +kernel
theorem dX11_numbers_14 : decode cX11_numbers 14 = .ok (.iload 5, 2) := by decide +kernel
theorem dX11_numbers_16 : decode cX11_numbers 16 = .ok (.iadd, 1) := by decide +kernel
theorem dX11_numbers_17 : decode cX11_numbers 17 = .ok (.aload_n 0, 1) := by decide +kernel
theorem dX11_numbers_18 : decode cX11_numbers 18 = .ok (.iload_n 3, 1) := by decide +kernel
theorem dX11_numbers_19 : decode cX11_numbers 19 = .ok (.iload 4, 2) := by decide +kernel
theorem dX11_numbers_21 : decode cX11_numbers 21 = .ok (.invokevirtual 111, 3) := by decide +kernel
theorem dX11_numbers_24 : decode cX11_numbers 24 = .ok (.iastore, 1) := by decide +kernel
theorem dX11_numbers_25 : decode cX11_numbers 25 = .ok (.aload_n 0, 1) := by decide +kernel
theorem dX11_numbers_26 : decode cX11_numbers 26 = .ok (.invokevirtual 114, 3) := by decide +kernel
theorem dX11_numbers_29 : decode cX11_numbers 29 = .ok (.iinc 5 1, 3) := by decide +kernel
theorem dX11_numbers_32 : decode cX11_numbers 32 = .ok (.goto (-29), 3) := by decide +kernel
theorem dX11_numbers_35 : decode cX11_numbers 35 = .ok (.return_, 1) := by decide +kernel
theorem dX11_readPiece_0 : decode cX11_readPiece 0 = .ok (.aload_n 0, 1) := by decide +kernel
theorem dX11_readPiece_1 : decode cX11_readPiece 1 = .ok (.getfield 22, 3) := by decide +kernel
theorem dX11_readPiece_4 : decode cX11_readPiece 4 = .ok (.iconst 0, 1) := by decide +kernel
theorem dX11_readPiece_5 : decode cX11_readPiece 5 = .ok (.iaload, 1) := by decide +kernel
theorem dX11_readPiece_6 : decode cX11_readPiece 6 = .ok (.bipush 8, 2) := by decide +kernel
theorem dX11_readPiece_8 : decode cX11_readPiece 8 = .ok (.if_icmp .eq 26, 3) := by decide +kernel
theorem dX11_readPiece_11 : decode cX11_readPiece 11 = .ok (.aload_n 0, 1) := by decide +kernel
theorem dX11_readPiece_12 : decode cX11_readPiece 12 = .ok (.getfield 117, 3) := by decide +kernel
theorem dX11_readPiece_15 : decode cX11_readPiece 15 = .ok (.ifCond .ne 19, 3) := by decide +kernel
theorem dX11_readPiece_18 : decode cX11_readPiece 18 = .ok (.aload_n 0, 1) := by decide +kernel
theorem dX11_readPiece_19 : decode cX11_readPiece 19 = .ok (.getfield 22, 3) := by decide +kernel
theorem dX11_readPiece_22 : decode cX11_readPiece 22 = .ok (.iconst 1, 1) := by decide +kernel
theorem dX11_readPiece_23 : decode cX11_readPiece 23 = .ok (.iaload, 1) := by decide +kernel
theorem dX11_readPiece_24 : decode cX11_readPiece 24 = .ok (.ifCond .gt 10, 3) := by decide +kernel
theorem dX11_readPiece_27 : decode cX11_readPiece 27 = .ok (.aload_n 0, 1) := by decide +kernel
theorem dX11_readPiece_28 : decode cX11_readPiece 28 = .ok (.getfield 120, 3) := by decide +kernel
theorem dX11_readPiece_31 : decode cX11_readPiece 31 = .ok (.ifCond .eq 8, 3) := by decide +kernel
theorem dX11_readPiece_34 : decode cX11_readPiece 34 = .ok (.aload_n 0, 1) := by decide +kernel
theorem dX11_readPiece_35 : decode cX11_readPiece 35 = .ok (.iconst 5, 1) := by decide +kernel
theorem dX11_readPiece_36 : decode cX11_readPiece 36 = .ok (.invokevirtual 103, 3) := by decide +kernel
theorem dX11_readPiece_39 : decode cX11_readPiece 39 = .ok (.aload_n 0, 1) := by decide +kernel
theorem dX11_readPiece_40 : decode cX11_readPiece 40 = .ok (.invokevirtual 114, 3) := by decide +kernel
theorem dX11_readPiece_43 : decode cX11_readPiece 43 = .ok (.aload_n 0, 1) := by decide +kernel
theorem dX11_readPiece_44 : decode cX11_readPiece 44 = .ok (.iconst 0, 1) := by decide +kernel
theorem dX11_readPiece_45 : decode cX11_readPiece 45 = .ok (.bipush 6, 2) := by decide +kernel
theorem dX11_readPiece_47 : decode cX11_readPiece 47 = .ok (.invokevirtual 111, 3) := by decide +kernel
theorem dX11_readPiece_50 : decode cX11_readPiece 50 = .ok (.istore_n 1, 1) := by decide +kernel
theorem dX11_readPiece_51 : decode cX11_readPiece 51 = .ok (.aload_n 0, 1) := by decide +kernel
theorem dX11_readPiece_52 : decode cX11_readPiece 52 = .ok (.getfield 73, 3) := by decide +kernel
theorem dX11_readPiece_55 : decode cX11_readPiece 55 = .ok (.ifCond .ne 28, 3) := by decide +kernel
theorem dX11_readPiece_58 : decode cX11_readPiece 58 = .ok (.aload_n 0, 1) := by decide +kernel
theorem dX11_readPiece_59 : decode cX11_readPiece 59 = .ok (.getfield 22, 3) := by decide +kernel
theorem dX11_readPiece_62 : decode cX11_readPiece 62 = .ok (.bipush 30, 2) := by decide +kernel
theorem dX11_readPiece_64 : decode cX11_readPiece 64 = .ok (.aload_n 0, 1) := by decide +kernel
theorem dX11_readPiece_65 : decode cX11_readPiece 65 = .ok (.getfield 22, 3) := by decide +kernel
theorem dX11_readPiece_68 : decode cX11_readPiece 68 = .ok (.iconst 0, 1) := by decide +kernel
theorem dX11_readPiece_69 : decode cX11_readPiece 69 = .ok (.iaload, 1) := by decide +kernel
theorem dX11_readPiece_70 : decode cX11_readPiece 70 = .ok (.iadd, 1) := by decide +kernel
theorem dX11_readPiece_71 : decode cX11_readPiece 71 = .ok (.iload_n 1, 1) := by decide +kernel
theorem dX11_readPiece_72 : decode cX11_readPiece 72 = .ok (.iastore, 1) := by decide +kernel
theorem dX11_readPiece_73 : decode cX11_readPiece 73 = .ok (.aload_n 0, 1) := by decide +kernel
theorem dX11_readPiece_74 : decode cX11_readPiece 74 = .ok (.getfield 22, 3) := by decide +kernel
theorem dX11_readPiece_77 : decode cX11_readPiece 77 = .ok (.iconst 0, 1) := by decide +kernel
theorem dX11_readPiece_78 : decode cX11_readPiece 78 = .ok (.dup2, 1) := by decide +kernel
theorem dX11_readPiece_79 : decode cX11_readPiece 79 = .ok (.iaload, 1) := by decide +kernel
theorem dX11_readPiece_80 : decode cX11_readPiece 80 = .ok (.iconst 1, 1) := by decide +kernel
theorem dX11_readPiece_81 : decode cX11_readPiece 81 = .ok (.iadd, 1) := by decide +kernel
theorem dX11_readPiece_82 : decode cX11_readPiece 82 = .ok (.iastore, 1) := by decide +kernel
theorem dX11_readPiece_83 : decode cX11_readPiece 83 = .ok (.aload_n 0, 1) := by decide +kernel
theorem dX11_readPiece_84 : decode cX11_readPiece 84 = .ok (.invokevirtual 114, 3) := by decide +kernel
theorem dX11_readPiece_87 : decode cX11_readPiece 87 = .ok (.return_, 1) := by decide +kernel
theorem dX11_readWhole_0 : decode cX11_readWhole 0 = .ok (.aload_n 0, 1) := by decide +kernel
theorem dX11_readWhole_1 : decode cX11_readWhole 1 = .ok (.invokevirtual 114, 3) := by decide +kernel
theorem dX11_readWhole_4 : decode cX11_readWhole 4 = .ok (.aload_n 0, 1) := by decide +kernel
theorem dX11_readWhole_5 : decode cX11_readWhole 5 = .ok (.iconst 0, 1) := by decide +kernel
theorem dX11_readWhole_6 : decode cX11_readWhole 6 = .ok (.aload_n 0, 1) := by decide +kernel
theorem dX11_readWhole_7 : decode cX11_readWhole 7 = .ok (.getfield 22, 3) := by decide +kernel
theorem dX11_readWhole_10 : decode cX11_readWhole 10 = .ok (.iconst 0, 1) := by decide +kernel
theorem dX11_readWhole_11 : decode cX11_readWhole 11 = .ok (.iaload, 1) := by decide +kernel
theorem dX11_readWhole_12 : decode cX11_readWhole 12 = .ok (.iconst 1, 1) := by decide +kernel
theorem dX11_readWhole_13 : decode cX11_readWhole 13 = .ok (.isub, 1) := by decide +kernel
theorem dX11_readWhole_14 : decode cX11_readWhole 14 = .ok (.invokevirtual 111, 3) := by decide +kernel
theorem dX11_readWhole_17 : decode cX11_readWhole 17 = .ok (.istore_n 1, 1) := by decide +kernel
theorem dX11_readWhole_18 : decode cX11_readWhole 18 = .ok (.aload_n 0, 1) := by decide +kernel
theorem dX11_readWhole_19 : decode cX11_readWhole 19 = .ok (.getfield 73, 3) := by decide +kernel
theorem dX11_readWhole_22 : decode cX11_readWhole 22 = .ok (.ifCond .ne 22, 3) := by decide +kernel
theorem dX11_readWhole_25 : decode cX11_readWhole 25 = .ok (.aload_n 0, 1) := by decide +kernel
theorem dX11_readWhole_26 : decode cX11_readWhole 26 = .ok (.getfield 22, 3) := by decide +kernel
theorem dX11_readWhole_29 : decode cX11_readWhole 29 = .ok (.iconst 5, 1) := by decide +kernel
theorem dX11_readWhole_30 : decode cX11_readWhole 30 = .ok (.iaload, 1) := by decide +kernel
theorem dX11_readWhole_31 : decode cX11_readWhole 31 = .ok (.iload_n 1, 1) := by decide +kernel
theorem dX11_readWhole_32 : decode cX11_readWhole 32 = .ok (.ishr, 1) := by decide +kernel
theorem dX11_readWhole_33 : decode cX11_readWhole 33 = .ok (.iconst 1, 1) := by decide +kernel
theorem dX11_readWhole_34 : decode cX11_readWhole 34 = .ok (.iand, 1) := by decide +kernel
theorem dX11_readWhole_35 : decode cX11_readWhole 35 = .ok (.iconst 1, 1) := by decide +kernel
theorem dX11_readWhole_36 : decode cX11_readWhole 36 = .ok (.if_icmp .ne 8, 3) := by decide +kernel
theorem dX11_readWhole_39 : decode cX11_readWhole 39 = .ok (.aload_n 0, 1) := by decide +kernel
theorem dX11_readWhole_40 : decode cX11_readWhole 40 = .ok (.iconst 4, 1) := by decide +kernel
theorem dX11_readWhole_41 : decode cX11_readWhole 41 = .ok (.invokevirtual 103, 3) := by decide +kernel
theorem dX11_readWhole_44 : decode cX11_readWhole 44 = .ok (.aload_n 0, 1) := by decide +kernel
theorem dX11_readWhole_45 : decode cX11_readWhole 45 = .ok (.getfield 22, 3) := by decide +kernel
theorem dX11_readWhole_48 : decode cX11_readWhole 48 = .ok (.iconst 5, 1) := by decide +kernel
theorem dX11_readWhole_49 : decode cX11_readWhole 49 = .ok (.dup2, 1) := by decide +kernel
theorem dX11_readWhole_50 : decode cX11_readWhole 50 = .ok (.iaload, 1) := by decide +kernel
theorem dX11_readWhole_51 : decode cX11_readWhole 51 = .ok (.aload_n 0, 1) := by decide +kernel
theorem dX11_readWhole_52 : decode cX11_readWhole 52 = .ok (.getfield 73, 3) := by decide +kernel
theorem dX11_readWhole_55 : decode cX11_readWhole 55 = .ok (.ifCond .ne 9, 3) := by decide +kernel
theorem dX11_readWhole_58 : decode cX11_readWhole 58 = .ok (.iconst 1, 1) := by decide +kernel
theorem dX11_readWhole_59 : decode cX11_readWhole 59 = .ok (.iload_n 1, 1) := by decide +kernel
theorem dX11_readWhole_60 : decode cX11_readWhole 60 = .ok (.ishl, 1) := by decide +kernel
theorem dX11_readWhole_61 : decode cX11_readWhole 61 = .ok (.goto 4, 3) := by decide +kernel
theorem dX11_readWhole_64 : decode cX11_readWhole 64 = .ok (.iconst 0, 1) := by decide +kernel
theorem dX11_readWhole_65 : decode cX11_readWhole 65 = .ok (.ior, 1) := by decide +kernel
theorem dX11_readWhole_66 : decode cX11_readWhole 66 = .ok (.iastore, 1) := by decide +kernel
theorem dX11_readWhole_67 : decode cX11_readWhole 67 = .ok (.aload_n 0, 1) := by decide +kernel
theorem dX11_readWhole_68 : decode cX11_readWhole 68 = .ok (.invokevirtual 114, 3) := by decide +kernel
theorem dX11_readWhole_71 : decode cX11_readWhole 71 = .ok (.return_, 1) := by decide +kernel
theorem dX11_readSort_0 : decode cX11_readSort 0 = .ok (.aload_n 0, 1) := by decide +kernel
theorem dX11_readSort_1 : decode cX11_readSort 1 = .ok (.invokevirtual 114, 3) := by decide +kernel
theorem dX11_readSort_4 : decode cX11_readSort 4 = .ok (.aload_n 0, 1) := by decide +kernel
theorem dX11_readSort_5 : decode cX11_readSort 5 = .ok (.iconst 1, 1) := by decide +kernel
theorem dX11_readSort_6 : decode cX11_readSort 6 = .ok (.iconst 2, 1) := by decide +kernel
theorem dX11_readSort_7 : decode cX11_readSort 7 = .ok (.invokevirtual 111, 3) := by decide +kernel
theorem dX11_readSort_10 : decode cX11_readSort 10 = .ok (.istore_n 1, 1) := by decide +kernel
theorem dX11_readSort_11 : decode cX11_readSort 11 = .ok (.aload_n 0, 1) := by decide +kernel
theorem dX11_readSort_12 : decode cX11_readSort 12 = .ok (.getfield 73, 3) := by decide +kernel
theorem dX11_readSort_15 : decode cX11_readSort 15 = .ok (.ifCond .ne 20, 3) := by decide +kernel
theorem dX11_readSort_18 : decode cX11_readSort 18 = .ok (.aload_n 0, 1) := by decide +kernel
theorem dX11_readSort_19 : decode cX11_readSort 19 = .ok (.getfield 117, 3) := by decide +kernel
theorem dX11_readSort_22 : decode cX11_readSort 22 = .ok (.iload_n 1, 1) := by decide +kernel
theorem dX11_readSort_23 : decode cX11_readSort 23 = .ok (.ishr, 1) := by decide +kernel
theorem dX11_readSort_24 : decode cX11_readSort 24 = .ok (.iconst 1, 1) := by decide +kernel
theorem dX11_readSort_25 : decode cX11_readSort 25 = .ok (.iand, 1) := by decide +kernel
theorem dX11_readSort_26 : decode cX11_readSort 26 = .ok (.iconst 1, 1) := by decide +kernel
theorem dX11_readSort_27 : decode cX11_readSort 27 = .ok (.if_icmp .ne 8, 3) := by decide +kernel
theorem dX11_readSort_30 : decode cX11_readSort 30 = .ok (.aload_n 0, 1) := by decide +kernel
theorem dX11_readSort_31 : decode cX11_readSort 31 = .ok (.iconst 4, 1) := by decide +kernel
theorem dX11_readSort_32 : decode cX11_readSort 32 = .ok (.invokevirtual 103, 3) := by decide +kernel
theorem dX11_readSort_35 : decode cX11_readSort 35 = .ok (.aload_n 0, 1) := by decide +kernel
theorem dX11_readSort_36 : decode cX11_readSort 36 = .ok (.dup, 1) := by decide +kernel
theorem dX11_readSort_37 : decode cX11_readSort 37 = .ok (.getfield 117, 3) := by decide +kernel
theorem dX11_readSort_40 : decode cX11_readSort 40 = .ok (.aload_n 0, 1) := by decide +kernel
theorem dX11_readSort_41 : decode cX11_readSort 41 = .ok (.getfield 73, 3) := by decide +kernel
theorem dX11_readSort_44 : decode cX11_readSort 44 = .ok (.ifCond .ne 9, 3) := by decide +kernel
theorem dX11_readSort_47 : decode cX11_readSort 47 = .ok (.iconst 1, 1) := by decide +kernel
theorem dX11_readSort_48 : decode cX11_readSort 48 = .ok (.iload_n 1, 1) := by decide +kernel
theorem dX11_readSort_49 : decode cX11_readSort 49 = .ok (.ishl, 1) := by decide +kernel
theorem dX11_readSort_50 : decode cX11_readSort 50 = .ok (.goto 4, 3) := by decide +kernel
theorem dX11_readSort_53 : decode cX11_readSort 53 = .ok (.iconst 0, 1) := by decide +kernel
theorem dX11_readSort_54 : decode cX11_readSort 54 = .ok (.ior, 1) := by decide +kernel
theorem dX11_readSort_55 : decode cX11_readSort 55 = .ok (.putfield 117, 3) := by decide +kernel
theorem dX11_readSort_58 : decode cX11_readSort 58 = .ok (.aload_n 0, 1) := by decide +kernel
theorem dX11_readSort_59 : decode cX11_readSort 59 = .ok (.invokevirtual 114, 3) := by decide +kernel
theorem dX11_readSort_62 : decode cX11_readSort 62 = .ok (.aload_n 0, 1) := by decide +kernel
theorem dX11_readSort_63 : decode cX11_readSort 63 = .ok (.bipush 30, 2) := by decide +kernel
theorem dX11_readSort_65 : decode cX11_readSort 65 = .ok (.bipush 8, 2) := by decide +kernel
theorem dX11_readSort_67 : decode cX11_readSort 67 = .ok (.iload_n 1, 1) := by decide +kernel
theorem dX11_readSort_68 : decode cX11_readSort 68 = .ok (.imul, 1) := by decide +kernel
theorem dX11_readSort_69 : decode cX11_readSort 69 = .ok (.iadd, 1) := by decide +kernel
theorem dX11_readSort_70 : decode cX11_readSort 70 = .ok (.aload_n 0, 1) := by decide +kernel
theorem dX11_readSort_71 : decode cX11_readSort 71 = .ok (.getfield 22, 3) := by decide +kernel
theorem dX11_readSort_74 : decode cX11_readSort 74 = .ok (.iconst 0, 1) := by decide +kernel
theorem dX11_readSort_75 : decode cX11_readSort 75 = .ok (.iaload, 1) := by decide +kernel
theorem dX11_readSort_76 : decode cX11_readSort 76 = .ok (.iconst 0, 1) := by decide +kernel
theorem dX11_readSort_77 : decode cX11_readSort 77 = .ok (.bipush 6, 2) := by decide +kernel
theorem dX11_readSort_79 : decode cX11_readSort 79 = .ok (.invokevirtual 124, 3) := by decide +kernel
theorem dX11_readSort_82 : decode cX11_readSort 82 = .ok (.return_, 1) := by decide +kernel
theorem dX11_readRow_0 : decode cX11_readRow 0 = .ok (.aload_n 0, 1) := by decide +kernel
theorem dX11_readRow_1 : decode cX11_readRow 1 = .ok (.invokevirtual 114, 3) := by decide +kernel
theorem dX11_readRow_4 : decode cX11_readRow 4 = .ok (.aload_n 0, 1) := by decide +kernel
theorem dX11_readRow_5 : decode cX11_readRow 5 = .ok (.getfield 22, 3) := by decide +kernel
theorem dX11_readRow_8 : decode cX11_readRow 8 = .ok (.bipush 6, 2) := by decide +kernel
theorem dX11_readRow_10 : decode cX11_readRow 10 = .ok (.iconst 0, 1) := by decide +kernel
theorem dX11_readRow_11 : decode cX11_readRow 11 = .ok (.iastore, 1) := by decide +kernel
theorem dX11_readRow_12 : decode cX11_readRow 12 = .ok (.iconst 1, 1) := by decide +kernel
theorem dX11_readRow_13 : decode cX11_readRow 13 = .ok (.istore_n 1, 1) := by decide +kernel
theorem dX11_readRow_14 : decode cX11_readRow 14 = .ok (.iload_n 1, 1) := by decide +kernel
theorem dX11_readRow_15 : decode cX11_readRow 15 = .ok (.ifCond .eq 97, 3) := by decide +kernel
theorem dX11_readRow_18 : decode cX11_readRow 18 = .ok (.aload_n 0, 1) := by decide +kernel
theorem dX11_readRow_19 : decode cX11_readRow 19 = .ok (.getfield 73, 3) := by decide +kernel
theorem dX11_readRow_22 : decode cX11_readRow 22 = .ok (.ifCond .ne 90, 3) := by decide +kernel
theorem dX11_readRow_25 : decode cX11_readRow 25 = .ok (.aload_n 0, 1) := by decide +kernel
theorem dX11_readRow_26 : decode cX11_readRow 26 = .ok (.getfield 92, 3) := by decide +kernel
theorem dX11_readRow_29 : decode cX11_readRow 29 = .ok (.iconst 2, 1) := by decide +kernel
theorem dX11_readRow_30 : decode cX11_readRow 30 = .ok (.if_icmp .ne 20, 3) := by decide +kernel
theorem dX11_readRow_33 : decode cX11_readRow 33 = .ok (.aload_n 0, 1) := by decide +kernel
theorem dX11_readRow_34 : decode cX11_readRow 34 = .ok (.getfield 22, 3) := by decide +kernel
theorem dX11_readRow_37 : decode cX11_readRow 37 = .ok (.bipush 6, 2) := by decide +kernel
theorem dX11_readRow_39 : decode cX11_readRow 39 = .ok (.iaload, 1) := by decide +kernel
theorem dX11_readRow_40 : decode cX11_readRow 40 = .ok (.bipush 6, 2) := by decide +kernel
theorem dX11_readRow_42 : decode cX11_readRow 42 = .ok (.if_icmp .ne 8, 3) := by decide +kernel
theorem dX11_readRow_45 : decode cX11_readRow 45 = .ok (.aload_n 0, 1) := by decide +kernel
theorem dX11_readRow_46 : decode cX11_readRow 46 = .ok (.iconst 5, 1) := by decide +kernel
theorem dX11_readRow_47 : decode cX11_readRow 47 = .ok (.invokevirtual 103, 3) := by decide +kernel
theorem dX11_readRow_50 : decode cX11_readRow 50 = .ok (.aload_n 0, 1) := by decide +kernel
theorem dX11_readRow_51 : decode cX11_readRow 51 = .ok (.iconst 0, 1) := by decide +kernel
theorem dX11_readRow_52 : decode cX11_readRow 52 = .ok (.iconst 2, 1) := by decide +kernel
theorem dX11_readRow_53 : decode cX11_readRow 53 = .ok (.invokevirtual 111, 3) := by decide +kernel
theorem dX11_readRow_56 : decode cX11_readRow 56 = .ok (.istore_n 2, 1) := by decide +kernel
theorem dX11_readRow_57 : decode cX11_readRow 57 = .ok (.aload_n 0, 1) := by decide +kernel
theorem dX11_readRow_58 : decode cX11_readRow 58 = .ok (.getfield 73, 3) := by decide +kernel
theorem dX11_readRow_61 : decode cX11_readRow 61 = .ok (.ifCond .ne 30, 3) := by decide +kernel
theorem dX11_readRow_64 : decode cX11_readRow 64 = .ok (.aload_n 0, 1) := by decide +kernel
theorem dX11_readRow_65 : decode cX11_readRow 65 = .ok (.getfield 22, 3) := by decide +kernel
theorem dX11_readRow_68 : decode cX11_readRow 68 = .ok (.bipush 10, 2) := by decide +kernel
theorem dX11_readRow_70 : decode cX11_readRow 70 = .ok (.aload_n 0, 1) := by decide +kernel
theorem dX11_readRow_71 : decode cX11_readRow 71 = .ok (.getfield 22, 3) := by decide +kernel
theorem dX11_readRow_74 : decode cX11_readRow 74 = .ok (.bipush 6, 2) := by decide +kernel
theorem dX11_readRow_76 : decode cX11_readRow 76 = .ok (.iaload, 1) := by decide +kernel
theorem dX11_readRow_77 : decode cX11_readRow 77 = .ok (.iadd, 1) := by decide +kernel
theorem dX11_readRow_78 : decode cX11_readRow 78 = .ok (.iload_n 2, 1) := by decide +kernel
theorem dX11_readRow_79 : decode cX11_readRow 79 = .ok (.iastore, 1) := by decide +kernel
theorem dX11_readRow_80 : decode cX11_readRow 80 = .ok (.aload_n 0, 1) := by decide +kernel
theorem dX11_readRow_81 : decode cX11_readRow 81 = .ok (.getfield 22, 3) := by decide +kernel
theorem dX11_readRow_84 : decode cX11_readRow 84 = .ok (.bipush 6, 2) := by decide +kernel
theorem dX11_readRow_86 : decode cX11_readRow 86 = .ok (.dup2, 1) := by decide +kernel
theorem dX11_readRow_87 : decode cX11_readRow 87 = .ok (.iaload, 1) := by decide +kernel
theorem dX11_readRow_88 : decode cX11_readRow 88 = .ok (.iconst 1, 1) := by decide +kernel
theorem dX11_readRow_89 : decode cX11_readRow 89 = .ok (.iadd, 1) := by decide +kernel
theorem dX11_readRow_90 : decode cX11_readRow 90 = .ok (.iastore, 1) := by decide +kernel
theorem dX11_readRow_91 : decode cX11_readRow 91 = .ok (.aload_n 0, 1) := by decide +kernel
theorem dX11_readRow_92 : decode cX11_readRow 92 = .ok (.invokevirtual 114, 3) := by decide +kernel
theorem dX11_readRow_95 : decode cX11_readRow 95 = .ok (.aload_n 0, 1) := by decide +kernel
theorem dX11_readRow_96 : decode cX11_readRow 96 = .ok (.getfield 92, 3) := by decide +kernel
theorem dX11_readRow_99 : decode cX11_readRow 99 = .ok (.iconst 2, 1) := by decide +kernel
theorem dX11_readRow_100 : decode cX11_readRow 100 = .ok (.if_icmp .ne 7, 3) := by decide +kernel
theorem dX11_readRow_103 : decode cX11_readRow 103 = .ok (.iconst 1, 1) := by decide +kernel
theorem dX11_readRow_104 : decode cX11_readRow 104 = .ok (.goto 4, 3) := by decide +kernel
theorem dX11_readRow_107 : decode cX11_readRow 107 = .ok (.iconst 0, 1) := by decide +kernel
theorem dX11_readRow_108 : decode cX11_readRow 108 = .ok (.istore_n 1, 1) := by decide +kernel
theorem dX11_readRow_109 : decode cX11_readRow 109 = .ok (.goto (-95), 3) := by decide +kernel
theorem dX11_readRow_112 : decode cX11_readRow 112 = .ok (.return_, 1) := by decide +kernel
theorem dX11_readHand_0 : decode cX11_readHand 0 = .ok (.aload_n 0, 1) := by decide +kernel
theorem dX11_readHand_1 : decode cX11_readHand 1 = .ok (.getfield 22, 3) := by decide +kernel
theorem dX11_readHand_4 : decode cX11_readHand 4 = .ok (.iconst 1, 1) := by decide +kernel
theorem dX11_readHand_5 : decode cX11_readHand 5 = .ok (.iaload, 1) := by decide +kernel
theorem dX11_readHand_6 : decode cX11_readHand 6 = .ok (.iconst 5, 1) := by decide +kernel
theorem dX11_readHand_7 : decode cX11_readHand 7 = .ok (.if_icmp .eq 10, 3) := by decide +kernel
theorem dX11_readHand_10 : decode cX11_readHand 10 = .ok (.aload_n 0, 1) := by decide +kernel
theorem dX11_readHand_11 : decode cX11_readHand 11 = .ok (.getfield 120, 3) := by decide +kernel
theorem dX11_readHand_14 : decode cX11_readHand 14 = .ok (.ifCond .eq 8, 3) := by decide +kernel
theorem dX11_readHand_17 : decode cX11_readHand 17 = .ok (.aload_n 0, 1) := by decide +kernel
theorem dX11_readHand_18 : decode cX11_readHand 18 = .ok (.iconst 5, 1) := by decide +kernel
theorem dX11_readHand_19 : decode cX11_readHand 19 = .ok (.invokevirtual 103, 3) := by decide +kernel
theorem dX11_readHand_22 : decode cX11_readHand 22 = .ok (.aload_n 0, 1) := by decide +kernel
theorem dX11_readHand_23 : decode cX11_readHand 23 = .ok (.invokevirtual 114, 3) := by decide +kernel
theorem dX11_readHand_26 : decode cX11_readHand 26 = .ok (.aload_n 0, 1) := by decide +kernel
theorem dX11_readHand_27 : decode cX11_readHand 27 = .ok (.bipush 60, 2) := by decide +kernel
theorem dX11_readHand_29 : decode cX11_readHand 29 = .ok (.bipush 8, 2) := by decide +kernel
theorem dX11_readHand_31 : decode cX11_readHand 31 = .ok (.aload_n 0, 1) := by decide +kernel
theorem dX11_readHand_32 : decode cX11_readHand 32 = .ok (.getfield 22, 3) := by decide +kernel
theorem dX11_readHand_35 : decode cX11_readHand 35 = .ok (.iconst 1, 1) := by decide +kernel
theorem dX11_readHand_36 : decode cX11_readHand 36 = .ok (.iaload, 1) := by decide +kernel
theorem dX11_readHand_37 : decode cX11_readHand 37 = .ok (.iconst 5, 1) := by decide +kernel
theorem dX11_readHand_38 : decode cX11_readHand 38 = .ok (.if_icmp .ge 12, 3) := by decide +kernel
theorem dX11_readHand_41 : decode cX11_readHand 41 = .ok (.aload_n 0, 1) := by decide +kernel
theorem dX11_readHand_42 : decode cX11_readHand 42 = .ok (.getfield 22, 3) := by decide +kernel
theorem dX11_readHand_45 : decode cX11_readHand 45 = .ok (.iconst 1, 1) := by decide +kernel
theorem dX11_readHand_46 : decode cX11_readHand 46 = .ok (.iaload, 1) := by decide +kernel
theorem dX11_readHand_47 : decode cX11_readHand 47 = .ok (.goto 4, 3) := by decide +kernel
theorem dX11_readHand_50 : decode cX11_readHand 50 = .ok (.iconst 0, 1) := by decide +kernel
theorem dX11_readHand_51 : decode cX11_readHand 51 = .ok (.imul, 1) := by decide +kernel
theorem dX11_readHand_52 : decode cX11_readHand 52 = .ok (.iadd, 1) := by decide +kernel
theorem dX11_readHand_53 : decode cX11_readHand 53 = .ok (.aload_n 0, 1) := by decide +kernel
theorem dX11_readHand_54 : decode cX11_readHand 54 = .ok (.getfield 73, 3) := by decide +kernel
theorem dX11_readHand_57 : decode cX11_readHand 57 = .ok (.ifCond .ne 12, 3) := by decide +kernel
theorem dX11_readHand_60 : decode cX11_readHand 60 = .ok (.aload_n 0, 1) := by decide +kernel
theorem dX11_readHand_61 : decode cX11_readHand 61 = .ok (.getfield 22, 3) := by decide +kernel
theorem dX11_readHand_64 : decode cX11_readHand 64 = .ok (.iconst 0, 1) := by decide +kernel
theorem dX11_readHand_65 : decode cX11_readHand 65 = .ok (.iaload, 1) := by decide +kernel
theorem dX11_readHand_66 : decode cX11_readHand 66 = .ok (.goto 4, 3) := by decide +kernel
theorem dX11_readHand_69 : decode cX11_readHand 69 = .ok (.iconst 0, 1) := by decide +kernel
theorem dX11_readHand_70 : decode cX11_readHand 70 = .ok (.iconst 1, 1) := by decide +kernel
theorem dX11_readHand_71 : decode cX11_readHand 71 = .ok (.bipush 9, 2) := by decide +kernel
theorem dX11_readHand_73 : decode cX11_readHand 73 = .ok (.invokevirtual 124, 3) := by decide +kernel
theorem dX11_readHand_76 : decode cX11_readHand 76 = .ok (.aload_n 0, 1) := by decide +kernel
theorem dX11_readHand_77 : decode cX11_readHand 77 = .ok (.getfield 22, 3) := by decide +kernel
theorem dX11_readHand_80 : decode cX11_readHand 80 = .ok (.iconst 1, 1) := by decide +kernel
theorem dX11_readHand_81 : decode cX11_readHand 81 = .ok (.dup2, 1) := by decide +kernel
theorem dX11_readHand_82 : decode cX11_readHand 82 = .ok (.iaload, 1) := by decide +kernel
theorem dX11_readHand_83 : decode cX11_readHand 83 = .ok (.iconst 1, 1) := by decide +kernel
theorem dX11_readHand_84 : decode cX11_readHand 84 = .ok (.iadd, 1) := by decide +kernel
theorem dX11_readHand_85 : decode cX11_readHand 85 = .ok (.iastore, 1) := by decide +kernel
theorem dX11_readHand_86 : decode cX11_readHand 86 = .ok (.return_, 1) := by decide +kernel
theorem dX11_readEnds_0 : decode cX11_readEnds 0 = .ok (.aload_n 0, 1) := by decide +kernel
theorem dX11_readEnds_1 : decode cX11_readEnds 1 = .ok (.iconst 1, 1) := by decide +kernel
theorem dX11_readEnds_2 : decode cX11_readEnds 2 = .ok (.putfield 120, 3) := by decide +kernel
theorem dX11_readEnds_5 : decode cX11_readEnds 5 = .ok (.aload_n 0, 1) := by decide +kernel
theorem dX11_readEnds_6 : decode cX11_readEnds 6 = .ok (.invokevirtual 114, 3) := by decide +kernel
theorem dX11_readEnds_9 : decode cX11_readEnds 9 = .ok (.iconst 0, 1) := by decide +kernel
theorem dX11_readEnds_10 : decode cX11_readEnds 10 = .ok (.istore_n 1, 1) := by decide +kernel
theorem dX11_readEnds_11 : decode cX11_readEnds 11 = .ok (.iload_n 1, 1) := by decide +kernel
theorem dX11_readEnds_12 : decode cX11_readEnds 12 = .ok (.aload_n 0, 1) := by decide +kernel
theorem dX11_readEnds_13 : decode cX11_readEnds 13 = .ok (.getfield 22, 3) := by decide +kernel
theorem dX11_readEnds_16 : decode cX11_readEnds 16 = .ok (.iconst 1, 1) := by decide +kernel
theorem dX11_readEnds_17 : decode cX11_readEnds 17 = .ok (.iaload, 1) := by decide +kernel
theorem dX11_readEnds_18 : decode cX11_readEnds 18 = .ok (.iconst 1, 1) := by decide +kernel
theorem dX11_readEnds_19 : decode cX11_readEnds 19 = .ok (.isub, 1) := by decide +kernel
theorem dX11_readEnds_20 : decode cX11_readEnds 20 = .ok (.if_icmp .ge 53, 3) := by decide +kernel
theorem dX11_readEnds_23 : decode cX11_readEnds 23 = .ok (.iload_n 1, 1) := by decide +kernel
theorem dX11_readEnds_24 : decode cX11_readEnds 24 = .ok (.ifCond .ne 7, 3) := by decide +kernel
theorem dX11_readEnds_27 : decode cX11_readEnds 27 = .ok (.iconst 1, 1) := by decide +kernel
theorem dX11_readEnds_28 : decode cX11_readEnds 28 = .ok (.goto 14, 3) := by decide +kernel
theorem dX11_readEnds_31 : decode cX11_readEnds 31 = .ok (.aload_n 0, 1) := by decide +kernel
theorem dX11_readEnds_32 : decode cX11_readEnds 32 = .ok (.getfield 22, 3) := by decide +kernel
theorem dX11_readEnds_35 : decode cX11_readEnds 35 = .ok (.bipush 20, 2) := by decide +kernel
theorem dX11_readEnds_37 : decode cX11_readEnds 37 = .ok (.iload_n 1, 1) := by decide +kernel
theorem dX11_readEnds_38 : decode cX11_readEnds 38 = .ok (.iadd, 1) := by decide +kernel
theorem dX11_readEnds_39 : decode cX11_readEnds 39 = .ok (.iconst 1, 1) := by decide +kernel
theorem dX11_readEnds_40 : decode cX11_readEnds 40 = .ok (.isub, 1) := by decide +kernel
theorem dX11_readEnds_41 : decode cX11_readEnds 41 = .ok (.iaload, 1) := by decide +kernel
theorem dX11_readEnds_42 : decode cX11_readEnds 42 = .ok (.istore_n 2, 1) := by decide +kernel
theorem dX11_readEnds_43 : decode cX11_readEnds 43 = .ok (.aload_n 0, 1) := by decide +kernel
theorem dX11_readEnds_44 : decode cX11_readEnds 44 = .ok (.getfield 22, 3) := by decide +kernel
theorem dX11_readEnds_47 : decode cX11_readEnds 47 = .ok (.bipush 20, 2) := by decide +kernel
theorem dX11_readEnds_49 : decode cX11_readEnds 49 = .ok (.iload_n 1, 1) := by decide +kernel
theorem dX11_readEnds_50 : decode cX11_readEnds 50 = .ok (.iadd, 1) := by decide +kernel
theorem dX11_readEnds_51 : decode cX11_readEnds 51 = .ok (.aload_n 0, 1) := by decide +kernel
theorem dX11_readEnds_52 : decode cX11_readEnds 52 = .ok (.iload_n 2, 1) := by decide +kernel
theorem dX11_readEnds_53 : decode cX11_readEnds 53 = .ok (.aload_n 0, 1) := by decide +kernel
theorem dX11_readEnds_54 : decode cX11_readEnds 54 = .ok (.getfield 22, 3) := by decide +kernel
theorem dX11_readEnds_57 : decode cX11_readEnds 57 = .ok (.iconst 0, 1) := by decide +kernel
theorem dX11_readEnds_58 : decode cX11_readEnds 58 = .ok (.iaload, 1) := by decide +kernel
theorem dX11_readEnds_59 : decode cX11_readEnds 59 = .ok (.invokevirtual 111, 3) := by decide +kernel
theorem dX11_readEnds_62 : decode cX11_readEnds 62 = .ok (.iastore, 1) := by decide +kernel
theorem dX11_readEnds_63 : decode cX11_readEnds 63 = .ok (.aload_n 0, 1) := by decide +kernel
theorem dX11_readEnds_64 : decode cX11_readEnds 64 = .ok (.invokevirtual 114, 3) := by decide +kernel
theorem dX11_readEnds_67 : decode cX11_readEnds 67 = .ok (.iinc 1 1, 3) := by decide +kernel
theorem dX11_readEnds_70 : decode cX11_readEnds 70 = .ok (.goto (-59), 3) := by decide +kernel
theorem dX11_readEnds_73 : decode cX11_readEnds 73 = .ok (.return_, 1) := by decide +kernel
theorem dX11_readLine_0 : decode cX11_readLine 0 = .ok (.aload_n 0, 1) := by decide +kernel
theorem dX11_readLine_1 : decode cX11_readLine 1 = .ok (.getfield 89, 3) := by decide +kernel
theorem dX11_readLine_4 : decode cX11_readLine 4 = .ok (.istore_n 1, 1) := by decide +kernel
theorem dX11_readLine_5 : decode cX11_readLine 5 = .ok (.aload_n 0, 1) := by decide +kernel
theorem dX11_readLine_6 : decode cX11_readLine 6 = .ok (.getfield 92, 3) := by decide +kernel
theorem dX11_readLine_9 : decode cX11_readLine 9 = .ok (.iconst 1, 1) := by decide +kernel
theorem dX11_readLine_10 : decode cX11_readLine 10 = .ok (.if_icmp .eq 9, 3) := by decide +kernel
theorem dX11_readLine_13 : decode cX11_readLine 13 = .ok (.aload_n 0, 1) := by decide +kernel
theorem dX11_readLine_14 : decode cX11_readLine 14 = .ok (.iconst 2, 1) := by decide +kernel
theorem dX11_readLine_15 : decode cX11_readLine 15 = .ok (.invokevirtual 103, 3) := by decide +kernel
theorem dX11_readLine_18 : decode cX11_readLine 18 = .ok (.return_, 1) := by decide +kernel
theorem dX11_readLine_19 : decode cX11_readLine 19 = .ok (.iload_n 1, 1) := by decide +kernel
theorem dX11_readLine_20 : decode cX11_readLine 20 = .ok (.bipush 7, 2) := by decide +kernel
theorem dX11_readLine_22 : decode cX11_readLine 22 = .ok (.if_icmp .le 8, 3) := by decide +kernel
theorem dX11_readLine_25 : decode cX11_readLine 25 = .ok (.bipush 7, 2) := by decide +kernel
theorem dX11_readLine_27 : decode cX11_readLine 27 = .ok (.goto 4, 3) := by decide +kernel
theorem dX11_readLine_30 : decode cX11_readLine 30 = .ok (.iload_n 1, 1) := by decide +kernel
theorem dX11_readLine_31 : decode cX11_readLine 31 = .ok (.istore_n 2, 1) := by decide +kernel
theorem dX11_readLine_32 : decode cX11_readLine 32 = .ok (.iload_n 2, 1) := by decide +kernel
theorem dX11_readLine_33 : decode cX11_readLine 33 = .ok (.iconst 3, 1) := by decide +kernel
theorem dX11_readLine_34 : decode cX11_readLine 34 = .ok (.if_icmp .eq 8, 3) := by decide +kernel
theorem dX11_readLine_37 : decode cX11_readLine 37 = .ok (.iload_n 2, 1) := by decide +kernel
theorem dX11_readLine_38 : decode cX11_readLine 38 = .ok (.iconst 4, 1) := by decide +kernel
theorem dX11_readLine_39 : decode cX11_readLine 39 = .ok (.if_icmp .le 32, 3) := by decide +kernel
theorem dX11_readLine_42 : decode cX11_readLine 42 = .ok (.aload_n 0, 1) := by decide +kernel
theorem dX11_readLine_43 : decode cX11_readLine 43 = .ok (.getfield 128, 3) := by decide +kernel
theorem dX11_readLine_46 : decode cX11_readLine 46 = .ok (.iload_n 2, 1) := by decide +kernel
theorem dX11_readLine_47 : decode cX11_readLine 47 = .ok (.ishr, 1) := by decide +kernel
theorem dX11_readLine_48 : decode cX11_readLine 48 = .ok (.iconst 1, 1) := by decide +kernel
theorem dX11_readLine_49 : decode cX11_readLine 49 = .ok (.iand, 1) := by decide +kernel
theorem dX11_readLine_50 : decode cX11_readLine 50 = .ok (.iconst 1, 1) := by decide +kernel
theorem dX11_readLine_51 : decode cX11_readLine 51 = .ok (.if_icmp .ne 8, 3) := by decide +kernel
theorem dX11_readLine_54 : decode cX11_readLine 54 = .ok (.aload_n 0, 1) := by decide +kernel
theorem dX11_readLine_55 : decode cX11_readLine 55 = .ok (.iconst 4, 1) := by decide +kernel
theorem dX11_readLine_56 : decode cX11_readLine 56 = .ok (.invokevirtual 103, 3) := by decide +kernel
theorem dX11_readLine_59 : decode cX11_readLine 59 = .ok (.aload_n 0, 1) := by decide +kernel
theorem dX11_readLine_60 : decode cX11_readLine 60 = .ok (.dup, 1) := by decide +kernel
theorem dX11_readLine_61 : decode cX11_readLine 61 = .ok (.getfield 128, 3) := by decide +kernel
theorem dX11_readLine_64 : decode cX11_readLine 64 = .ok (.iconst 1, 1) := by decide +kernel
theorem dX11_readLine_65 : decode cX11_readLine 65 = .ok (.iload_n 2, 1) := by decide +kernel
theorem dX11_readLine_66 : decode cX11_readLine 66 = .ok (.ishl, 1) := by decide +kernel
theorem dX11_readLine_67 : decode cX11_readLine 67 = .ok (.ior, 1) := by decide +kernel
theorem dX11_readLine_68 : decode cX11_readLine 68 = .ok (.putfield 128, 3) := by decide +kernel
theorem dX11_readLine_71 : decode cX11_readLine 71 = .ok (.iload_n 1, 1) := by decide +kernel
theorem dX11_readLine_72 : decode cX11_readLine 72 = .ok (.tableswitch 132 0 7 #[48, 55, 62, 69, 76, 83, 83, 125], 48) := by decide +kernel
theorem dX11_readLine_120 : decode cX11_readLine 120 = .ok (.aload_n 0, 1) := by decide +kernel
theorem dX11_readLine_121 : decode cX11_readLine 121 = .ok (.invokevirtual 131, 3) := by decide +kernel
theorem dX11_readLine_124 : decode cX11_readLine 124 = .ok (.goto 94, 3) := by decide +kernel
theorem dX11_readLine_127 : decode cX11_readLine 127 = .ok (.aload_n 0, 1) := by decide +kernel
theorem dX11_readLine_128 : decode cX11_readLine 128 = .ok (.invokevirtual 134, 3) := by decide +kernel
theorem dX11_readLine_131 : decode cX11_readLine 131 = .ok (.goto 87, 3) := by decide +kernel
theorem dX11_readLine_134 : decode cX11_readLine 134 = .ok (.aload_n 0, 1) := by decide +kernel
theorem dX11_readLine_135 : decode cX11_readLine 135 = .ok (.invokevirtual 137, 3) := by decide +kernel
theorem dX11_readLine_138 : decode cX11_readLine 138 = .ok (.goto 80, 3) := by decide +kernel
theorem dX11_readLine_141 : decode cX11_readLine 141 = .ok (.aload_n 0, 1) := by decide +kernel
theorem dX11_readLine_142 : decode cX11_readLine 142 = .ok (.invokevirtual 140, 3) := by decide +kernel
theorem dX11_readLine_145 : decode cX11_readLine 145 = .ok (.goto 73, 3) := by decide +kernel
theorem dX11_readLine_148 : decode cX11_readLine 148 = .ok (.aload_n 0, 1) := by decide +kernel
theorem dX11_readLine_149 : decode cX11_readLine 149 = .ok (.invokevirtual 143, 3) := by decide +kernel
theorem dX11_readLine_152 : decode cX11_readLine 152 = .ok (.goto 66, 3) := by decide +kernel
theorem dX11_readLine_155 : decode cX11_readLine 155 = .ok (.aload_n 0, 1) := by decide +kernel
theorem dX11_readLine_156 : decode cX11_readLine 156 = .ok (.invokevirtual 114, 3) := by decide +kernel
theorem dX11_readLine_159 : decode cX11_readLine 159 = .ok (.aload_n 0, 1) := by decide +kernel
theorem dX11_readLine_160 : decode cX11_readLine 160 = .ok (.getfield 22, 3) := by decide +kernel
theorem dX11_readLine_163 : decode cX11_readLine 163 = .ok (.iload_n 1, 1) := by decide +kernel
theorem dX11_readLine_164 : decode cX11_readLine 164 = .ok (.iconst 5, 1) := by decide +kernel
theorem dX11_readLine_165 : decode cX11_readLine 165 = .ok (.if_icmp .ne 7, 3) := by decide +kernel
theorem dX11_readLine_168 : decode cX11_readLine 168 = .ok (.iconst 2, 1) := by decide +kernel
theorem dX11_readLine_169 : decode cX11_readLine 169 = .ok (.goto 4, 3) := by decide +kernel
theorem dX11_readLine_172 : decode cX11_readLine 172 = .ok (.iconst 3, 1) := by decide +kernel
theorem dX11_readLine_173 : decode cX11_readLine 173 = .ok (.aload_n 0, 1) := by decide +kernel
theorem dX11_readLine_174 : decode cX11_readLine 174 = .ok (.iconst 0, 1) := by decide +kernel
theorem dX11_readLine_175 : decode cX11_readLine 175 = .ok (.iload_n 1, 1) := by decide +kernel
theorem dX11_readLine_176 : decode cX11_readLine 176 = .ok (.iconst 5, 1) := by decide +kernel
theorem dX11_readLine_177 : decode cX11_readLine 177 = .ok (.if_icmp .ne 7, 3) := by decide +kernel
theorem dX11_readLine_180 : decode cX11_readLine 180 = .ok (.iconst 5, 1) := by decide +kernel
theorem dX11_readLine_181 : decode cX11_readLine 181 = .ok (.goto 5, 3) := by decide +kernel
theorem dX11_readLine_184 : decode cX11_readLine 184 = .ok (.bipush 99, 2) := by decide +kernel
theorem dX11_readLine_186 : decode cX11_readLine 186 = .ok (.invokevirtual 111, 3) := by decide +kernel
theorem dX11_readLine_189 : decode cX11_readLine 189 = .ok (.iastore, 1) := by decide +kernel
theorem dX11_readLine_190 : decode cX11_readLine 190 = .ok (.aload_n 0, 1) := by decide +kernel
theorem dX11_readLine_191 : decode cX11_readLine 191 = .ok (.invokevirtual 114, 3) := by decide +kernel
theorem dX11_readLine_194 : decode cX11_readLine 194 = .ok (.goto 24, 3) := by decide +kernel
theorem dX11_readLine_197 : decode cX11_readLine 197 = .ok (.aload_n 0, 1) := by decide +kernel
theorem dX11_readLine_198 : decode cX11_readLine 198 = .ok (.invokevirtual 114, 3) := by decide +kernel
theorem dX11_readLine_201 : decode cX11_readLine 201 = .ok (.goto 17, 3) := by decide +kernel
theorem dX11_readLine_204 : decode cX11_readLine 204 = .ok (.aload_n 0, 1) := by decide +kernel
theorem dX11_readLine_205 : decode cX11_readLine 205 = .ok (.getfield 22, 3) := by decide +kernel
theorem dX11_readLine_208 : decode cX11_readLine 208 = .ok (.iconst 4, 1) := by decide +kernel
theorem dX11_readLine_209 : decode cX11_readLine 209 = .ok (.iload_n 1, 1) := by decide +kernel
theorem dX11_readLine_210 : decode cX11_readLine 210 = .ok (.bipush 7, 2) := by decide +kernel
theorem dX11_readLine_212 : decode cX11_readLine 212 = .ok (.isub, 1) := by decide +kernel
theorem dX11_readLine_213 : decode cX11_readLine 213 = .ok (.iastore, 1) := by decide +kernel
theorem dX11_readLine_214 : decode cX11_readLine 214 = .ok (.aload_n 0, 1) := by decide +kernel
theorem dX11_readLine_215 : decode cX11_readLine 215 = .ok (.invokevirtual 146, 3) := by decide +kernel
theorem dX11_readLine_218 : decode cX11_readLine 218 = .ok (.aload_n 0, 1) := by decide +kernel
theorem dX11_readLine_219 : decode cX11_readLine 219 = .ok (.getfield 73, 3) := by decide +kernel
theorem dX11_readLine_222 : decode cX11_readLine 222 = .ok (.ifCond .ne 16, 3) := by decide +kernel
theorem dX11_readLine_225 : decode cX11_readLine 225 = .ok (.aload_n 0, 1) := by decide +kernel
theorem dX11_readLine_226 : decode cX11_readLine 226 = .ok (.getfield 92, 3) := by decide +kernel
theorem dX11_readLine_229 : decode cX11_readLine 229 = .ok (.iconst 3, 1) := by decide +kernel
theorem dX11_readLine_230 : decode cX11_readLine 230 = .ok (.if_icmp .eq 8, 3) := by decide +kernel
theorem dX11_readLine_233 : decode cX11_readLine 233 = .ok (.aload_n 0, 1) := by decide +kernel
theorem dX11_readLine_234 : decode cX11_readLine 234 = .ok (.iconst 2, 1) := by decide +kernel
theorem dX11_readLine_235 : decode cX11_readLine 235 = .ok (.invokevirtual 103, 3) := by decide +kernel
theorem dX11_readLine_238 : decode cX11_readLine 238 = .ok (.aload_n 0, 1) := by decide +kernel
theorem dX11_readLine_239 : decode cX11_readLine 239 = .ok (.invokevirtual 114, 3) := by decide +kernel
theorem dX11_readLine_242 : decode cX11_readLine 242 = .ok (.return_, 1) := by decide +kernel
theorem dX11_wholeFault_0 : decode cX11_wholeFault 0 = .ok (.aload_n 0, 1) := by decide +kernel
theorem dX11_wholeFault_1 : decode cX11_wholeFault 1 = .ok (.getfield 22, 3) := by decide +kernel
theorem dX11_wholeFault_4 : decode cX11_wholeFault 4 = .ok (.iconst 0, 1) := by decide +kernel
theorem dX11_wholeFault_5 : decode cX11_wholeFault 5 = .ok (.iaload, 1) := by decide +kernel
theorem dX11_wholeFault_6 : decode cX11_wholeFault 6 = .ok (.ifCond .eq 12, 3) := by decide +kernel
theorem dX11_wholeFault_9 : decode cX11_wholeFault 9 = .ok (.aload_n 0, 1) := by decide +kernel
theorem dX11_wholeFault_10 : decode cX11_wholeFault 10 = .ok (.getfield 22, 3) := by decide +kernel
theorem dX11_wholeFault_13 : decode cX11_wholeFault 13 = .ok (.iconst 1, 1) := by decide +kernel
theorem dX11_wholeFault_14 : decode cX11_wholeFault 14 = .ok (.iaload, 1) := by decide +kernel
theorem dX11_wholeFault_15 : decode cX11_wholeFault 15 = .ok (.ifCond .ne 6, 3) := by decide +kernel
theorem dX11_wholeFault_18 : decode cX11_wholeFault 18 = .ok (.bipush 6, 2) := by decide +kernel
theorem dX11_wholeFault_20 : decode cX11_wholeFault 20 = .ok (.ireturn, 1) := by decide +kernel
theorem dX11_wholeFault_21 : decode cX11_wholeFault 21 = .ok (.iconst 0, 1) := by decide +kernel
theorem dX11_wholeFault_22 : decode cX11_wholeFault 22 = .ok (.istore_n 1, 1) := by decide +kernel
theorem dX11_wholeFault_23 : decode cX11_wholeFault 23 = .ok (.iload_n 1, 1) := by decide +kernel
theorem dX11_wholeFault_24 : decode cX11_wholeFault 24 = .ok (.iconst 3, 1) := by decide +kernel
theorem dX11_wholeFault_25 : decode cX11_wholeFault 25 = .ok (.if_icmp .ge 91, 3) := by decide +kernel
theorem dX11_wholeFault_28 : decode cX11_wholeFault 28 = .ok (.iconst 0, 1) := by decide +kernel
theorem dX11_wholeFault_29 : decode cX11_wholeFault 29 = .ok (.istore_n 2, 1) := by decide +kernel
theorem dX11_wholeFault_30 : decode cX11_wholeFault 30 = .ok (.iconst 0, 1) := by decide +kernel
theorem dX11_wholeFault_31 : decode cX11_wholeFault 31 = .ok (.istore_n 3, 1) := by decide +kernel
theorem dX11_wholeFault_32 : decode cX11_wholeFault 32 = .ok (.iload_n 3, 1) := by decide +kernel
theorem dX11_wholeFault_33 : decode cX11_wholeFault 33 = .ok (.aload_n 0, 1) := by decide +kernel
theorem dX11_wholeFault_34 : decode cX11_wholeFault 34 = .ok (.getfield 22, 3) := by decide +kernel
theorem dX11_wholeFault_37 : decode cX11_wholeFault 37 = .ok (.iconst 0, 1) := by decide +kernel
theorem dX11_wholeFault_38 : decode cX11_wholeFault 38 = .ok (.iaload, 1) := by decide +kernel
theorem dX11_wholeFault_39 : decode cX11_wholeFault 39 = .ok (.if_icmp .ge 64, 3) := by decide +kernel
theorem dX11_wholeFault_42 : decode cX11_wholeFault 42 = .ok (.iload_n 1, 1) := by decide +kernel
theorem dX11_wholeFault_43 : decode cX11_wholeFault 43 = .ok (.ifCond .le 37, 3) := by decide +kernel
theorem dX11_wholeFault_46 : decode cX11_wholeFault 46 = .ok (.aload_n 0, 1) := by decide +kernel
theorem dX11_wholeFault_47 : decode cX11_wholeFault 47 = .ok (.getfield 117, 3) := by decide +kernel
theorem dX11_wholeFault_50 : decode cX11_wholeFault 50 = .ok (.iload_n 1, 1) := by decide +kernel
theorem dX11_wholeFault_51 : decode cX11_wholeFault 51 = .ok (.ishr, 1) := by decide +kernel
theorem dX11_wholeFault_52 : decode cX11_wholeFault 52 = .ok (.iconst 1, 1) := by decide +kernel
theorem dX11_wholeFault_53 : decode cX11_wholeFault 53 = .ok (.iand, 1) := by decide +kernel
theorem dX11_wholeFault_54 : decode cX11_wholeFault 54 = .ok (.ifCond .ne 26, 3) := by decide +kernel
theorem dX11_wholeFault_57 : decode cX11_wholeFault 57 = .ok (.aload_n 0, 1) := by decide +kernel
theorem dX11_wholeFault_58 : decode cX11_wholeFault 58 = .ok (.getfield 22, 3) := by decide +kernel
theorem dX11_wholeFault_61 : decode cX11_wholeFault 61 = .ok (.bipush 30, 2) := by decide +kernel
theorem dX11_wholeFault_63 : decode cX11_wholeFault 63 = .ok (.bipush 8, 2) := by decide +kernel
theorem dX11_wholeFault_65 : decode cX11_wholeFault 65 = .ok (.iload_n 1, 1) := by decide +kernel
theorem dX11_wholeFault_66 : decode cX11_wholeFault 66 = .ok (.imul, 1) := by decide +kernel
theorem dX11_wholeFault_67 : decode cX11_wholeFault 67 = .ok (.iadd, 1) := by decide +kernel
theorem dX11_wholeFault_68 : decode cX11_wholeFault 68 = .ok (.iload_n 3, 1) := by decide +kernel
theorem dX11_wholeFault_69 : decode cX11_wholeFault 69 = .ok (.iadd, 1) := by decide +kernel
theorem dX11_wholeFault_70 : decode cX11_wholeFault 70 = .ok (.aload_n 0, 1) := by decide +kernel
theorem dX11_wholeFault_71 : decode cX11_wholeFault 71 = .ok (.getfield 22, 3) := by decide +kernel
theorem dX11_wholeFault_74 : decode cX11_wholeFault 74 = .ok (.bipush 30, 2) := by decide +kernel
theorem dX11_wholeFault_76 : decode cX11_wholeFault 76 = .ok (.iload_n 3, 1) := by decide +kernel
theorem dX11_wholeFault_77 : decode cX11_wholeFault 77 = .ok (.iadd, 1) := by decide +kernel
theorem dX11_wholeFault_78 : decode cX11_wholeFault 78 = .ok (.iaload, 1) := by decide +kernel
theorem dX11_wholeFault_79 : decode cX11_wholeFault 79 = .ok (.iastore, 1) := by decide +kernel
theorem dX11_wholeFault_80 : decode cX11_wholeFault 80 = .ok (.iload_n 2, 1) := by decide +kernel
theorem dX11_wholeFault_81 : decode cX11_wholeFault 81 = .ok (.aload_n 0, 1) := by decide +kernel
theorem dX11_wholeFault_82 : decode cX11_wholeFault 82 = .ok (.getfield 22, 3) := by decide +kernel
theorem dX11_wholeFault_85 : decode cX11_wholeFault 85 = .ok (.bipush 30, 2) := by decide +kernel
theorem dX11_wholeFault_87 : decode cX11_wholeFault 87 = .ok (.bipush 8, 2) := by decide +kernel
theorem dX11_wholeFault_89 : decode cX11_wholeFault 89 = .ok (.iload_n 1, 1) := by decide +kernel
theorem dX11_wholeFault_90 : decode cX11_wholeFault 90 = .ok (.imul, 1) := by decide +kernel
theorem dX11_wholeFault_91 : decode cX11_wholeFault 91 = .ok (.iadd, 1) := by decide +kernel
theorem dX11_wholeFault_92 : decode cX11_wholeFault 92 = .ok (.iload_n 3, 1) := by decide +kernel
theorem dX11_wholeFault_93 : decode cX11_wholeFault 93 = .ok (.iadd, 1) := by decide +kernel
theorem dX11_wholeFault_94 : decode cX11_wholeFault 94 = .ok (.iaload, 1) := by decide +kernel
theorem dX11_wholeFault_95 : decode cX11_wholeFault 95 = .ok (.iadd, 1) := by decide +kernel
theorem dX11_wholeFault_96 : decode cX11_wholeFault 96 = .ok (.istore_n 2, 1) := by decide +kernel
theorem dX11_wholeFault_97 : decode cX11_wholeFault 97 = .ok (.iinc 3 1, 3) := by decide +kernel
theorem dX11_wholeFault_100 : decode cX11_wholeFault 100 = .ok (.goto (-68), 3) := by decide +kernel
theorem dX11_wholeFault_103 : decode cX11_wholeFault 103 = .ok (.iload_n 2, 1) := by decide +kernel
theorem dX11_wholeFault_104 : decode cX11_wholeFault 104 = .ok (.ifCond .ne 6, 3) := by decide +kernel
theorem dX11_wholeFault_107 : decode cX11_wholeFault 107 = .ok (.bipush 7, 2) := by decide +kernel
theorem dX11_wholeFault_109 : decode cX11_wholeFault 109 = .ok (.ireturn, 1) := by decide +kernel
theorem dX11_wholeFault_110 : decode cX11_wholeFault 110 = .ok (.iinc 1 1, 3) := by decide +kernel
theorem dX11_wholeFault_113 : decode cX11_wholeFault 113 = .ok (.goto (-90), 3) := by decide +kernel
theorem dX11_wholeFault_116 : decode cX11_wholeFault 116 = .ok (.iconst 0, 1) := by decide +kernel
theorem dX11_wholeFault_117 : decode cX11_wholeFault 117 = .ok (.ireturn, 1) := by decide +kernel
theorem dX11_text_0 : decode cX11_text 0 = .ok (.aload_n 0, 1) := by decide +kernel
theorem dX11_text_1 : decode cX11_text 1 = .ok (.iconst 0, 1) := by decide +kernel
theorem dX11_text_2 : decode cX11_text 2 = .ok (.putfield 73, 3) := by decide +kernel
theorem dX11_text_5 : decode cX11_text 5 = .ok (.aload_n 0, 1) := by decide +kernel
theorem dX11_text_6 : decode cX11_text 6 = .ok (.iconst 0, 1) := by decide +kernel
theorem dX11_text_7 : decode cX11_text 7 = .ok (.putfield 86, 3) := by decide +kernel
theorem dX11_text_10 : decode cX11_text 10 = .ok (.aload_n 0, 1) := by decide +kernel
theorem dX11_text_11 : decode cX11_text 11 = .ok (.iconst 0, 1) := by decide +kernel
theorem dX11_text_12 : decode cX11_text 12 = .ok (.putfield 128, 3) := by decide +kernel
theorem dX11_text_15 : decode cX11_text 15 = .ok (.aload_n 0, 1) := by decide +kernel
theorem dX11_text_16 : decode cX11_text 16 = .ok (.iconst 0, 1) := by decide +kernel
theorem dX11_text_17 : decode cX11_text 17 = .ok (.putfield 117, 3) := by decide +kernel
theorem dX11_text_20 : decode cX11_text 20 = .ok (.aload_n 0, 1) := by decide +kernel
theorem dX11_text_21 : decode cX11_text 21 = .ok (.iconst 0, 1) := by decide +kernel
theorem dX11_text_22 : decode cX11_text 22 = .ok (.putfield 120, 3) := by decide +kernel
theorem dX11_text_25 : decode cX11_text 25 = .ok (.iconst 0, 1) := by decide +kernel
theorem dX11_text_26 : decode cX11_text 26 = .ok (.istore_n 1, 1) := by decide +kernel
theorem dX11_text_27 : decode cX11_text 27 = .ok (.iconst 0, 1) := by decide +kernel
theorem dX11_text_28 : decode cX11_text 28 = .ok (.istore_n 2, 1) := by decide +kernel
theorem dX11_text_29 : decode cX11_text 29 = .ok (.iload_n 2, 1) := by decide +kernel
theorem dX11_text_30 : decode cX11_text 30 = .ok (.bipush 100, 2) := by decide +kernel
theorem dX11_text_32 : decode cX11_text 32 = .ok (.if_icmp .ge 26, 3) := by decide +kernel
theorem dX11_text_35 : decode cX11_text 35 = .ok (.aload_n 0, 1) := by decide +kernel
theorem dX11_text_36 : decode cX11_text 36 = .ok (.getfield 22, 3) := by decide +kernel
theorem dX11_text_39 : decode cX11_text 39 = .ok (.iload_n 2, 1) := by decide +kernel
theorem dX11_text_40 : decode cX11_text 40 = .ok (.iload_n 2, 1) := by decide +kernel
theorem dX11_text_41 : decode cX11_text 41 = .ok (.bipush 6, 2) := by decide +kernel
theorem dX11_text_43 : decode cX11_text 43 = .ok (.if_icmp .ne 7, 3) := by decide +kernel
theorem dX11_text_46 : decode cX11_text 46 = .ok (.iconst 1, 1) := by decide +kernel
theorem dX11_text_47 : decode cX11_text 47 = .ok (.goto 4, 3) := by decide +kernel
theorem dX11_text_50 : decode cX11_text 50 = .ok (.iconst 0, 1) := by decide +kernel
theorem dX11_text_51 : decode cX11_text 51 = .ok (.iastore, 1) := by decide +kernel
theorem dX11_text_52 : decode cX11_text 52 = .ok (.iinc 2 1, 3) := by decide +kernel
theorem dX11_text_55 : decode cX11_text 55 = .ok (.goto (-26), 3) := by decide +kernel
theorem dX11_text_58 : decode cX11_text 58 = .ok (.aload_n 0, 1) := by decide +kernel
theorem dX11_text_59 : decode cX11_text 59 = .ok (.invokevirtual 114, 3) := by decide +kernel
theorem dX11_text_62 : decode cX11_text 62 = .ok (.aload_n 0, 1) := by decide +kernel
theorem dX11_text_63 : decode cX11_text 63 = .ok (.getfield 73, 3) := by decide +kernel
theorem dX11_text_66 : decode cX11_text 66 = .ok (.ifCond .ne 20, 3) := by decide +kernel
theorem dX11_text_69 : decode cX11_text 69 = .ok (.aload_n 0, 1) := by decide +kernel
theorem dX11_text_70 : decode cX11_text 70 = .ok (.getfield 92, 3) := by decide +kernel
theorem dX11_text_73 : decode cX11_text 73 = .ok (.ifCond .eq 13, 3) := by decide +kernel
theorem dX11_text_76 : decode cX11_text 76 = .ok (.aload_n 0, 1) := by decide +kernel
theorem dX11_text_77 : decode cX11_text 77 = .ok (.invokevirtual 149, 3) := by decide +kernel
theorem dX11_text_80 : decode cX11_text 80 = .ok (.iinc 1 1, 3) := by decide +kernel
theorem dX11_text_83 : decode cX11_text 83 = .ok (.goto (-21), 3) := by decide +kernel
theorem dX11_text_86 : decode cX11_text 86 = .ok (.aload_n 0, 1) := by decide +kernel
theorem dX11_text_87 : decode cX11_text 87 = .ok (.getfield 73, 3) := by decide +kernel
theorem dX11_text_90 : decode cX11_text 90 = .ok (.ifCond .ne 25, 3) := by decide +kernel
theorem dX11_text_93 : decode cX11_text 93 = .ok (.aload_n 0, 1) := by decide +kernel
theorem dX11_text_94 : decode cX11_text 94 = .ok (.aload_n 0, 1) := by decide +kernel
theorem dX11_text_95 : decode cX11_text 95 = .ok (.getfield 65, 3) := by decide +kernel
theorem dX11_text_98 : decode cX11_text 98 = .ok (.putfield 76, 3) := by decide +kernel
theorem dX11_text_101 : decode cX11_text 101 = .ok (.aload_n 0, 1) := by decide +kernel
theorem dX11_text_102 : decode cX11_text 102 = .ok (.invokevirtual 152, 3) := by decide +kernel
theorem dX11_text_105 : decode cX11_text 105 = .ok (.istore_n 2, 1) := by decide +kernel
theorem dX11_text_106 : decode cX11_text 106 = .ok (.iload_n 2, 1) := by decide +kernel
theorem dX11_text_107 : decode cX11_text 107 = .ok (.ifCond .le 8, 3) := by decide +kernel
theorem dX11_text_110 : decode cX11_text 110 = .ok (.aload_n 0, 1) := by decide +kernel
theorem dX11_text_111 : decode cX11_text 111 = .ok (.iload_n 2, 1) := by decide +kernel
theorem dX11_text_112 : decode cX11_text 112 = .ok (.invokevirtual 103, 3) := by decide +kernel
theorem dX11_text_115 : decode cX11_text 115 = .ok (.aload_n 0, 1) := by decide +kernel
theorem dX11_text_116 : decode cX11_text 116 = .ok (.iconst 0, 1) := by decide +kernel
theorem dX11_text_117 : decode cX11_text 117 = .ok (.putfield 65, 3) := by decide +kernel
theorem dX11_text_120 : decode cX11_text 120 = .ok (.aload_n 0, 1) := by decide +kernel
theorem dX11_text_121 : decode cX11_text 121 = .ok (.aload_n 0, 1) := by decide +kernel
theorem dX11_text_122 : decode cX11_text 122 = .ok (.getfield 73, 3) := by decide +kernel
theorem dX11_text_125 : decode cX11_text 125 = .ok (.putfield 156, 3) := by decide +kernel
theorem dX11_text_128 : decode cX11_text 128 = .ok (.aload_n 0, 1) := by decide +kernel
theorem dX11_text_129 : decode cX11_text 129 = .ok (.getfield 73, 3) := by decide +kernel
theorem dX11_text_132 : decode cX11_text 132 = .ok (.ifCond .le 11, 3) := by decide +kernel
theorem dX11_text_135 : decode cX11_text 135 = .ok (.bipush (-10), 2) := by decide +kernel
theorem dX11_text_137 : decode cX11_text 137 = .ok (.aload_n 0, 1) := by decide +kernel
theorem dX11_text_138 : decode cX11_text 138 = .ok (.getfield 79, 3) := by decide +kernel
theorem dX11_text_141 : decode cX11_text 141 = .ok (.isub, 1) := by decide +kernel
theorem dX11_text_142 : decode cX11_text 142 = .ok (.ireturn, 1) := by decide +kernel
theorem dX11_text_143 : decode cX11_text 143 = .ok (.iconst 0, 1) := by decide +kernel
theorem dX11_text_144 : decode cX11_text 144 = .ok (.istore_n 2, 1) := by decide +kernel
theorem dX11_text_145 : decode cX11_text 145 = .ok (.iload_n 2, 1) := by decide +kernel
theorem dX11_text_146 : decode cX11_text 146 = .ok (.bipush 100, 2) := by decide +kernel
theorem dX11_text_148 : decode cX11_text 148 = .ok (.if_icmp .ge 21, 3) := by decide +kernel
theorem dX11_text_151 : decode cX11_text 151 = .ok (.aload_n 0, 1) := by decide +kernel
theorem dX11_text_152 : decode cX11_text 152 = .ok (.getfield 19, 3) := by decide +kernel
theorem dX11_text_155 : decode cX11_text 155 = .ok (.iload_n 2, 1) := by decide +kernel
theorem dX11_text_156 : decode cX11_text 156 = .ok (.aload_n 0, 1) := by decide +kernel
theorem dX11_text_157 : decode cX11_text 157 = .ok (.getfield 22, 3) := by decide +kernel
theorem dX11_text_160 : decode cX11_text 160 = .ok (.iload_n 2, 1) := by decide +kernel
theorem dX11_text_161 : decode cX11_text 161 = .ok (.iaload, 1) := by decide +kernel
theorem dX11_text_162 : decode cX11_text 162 = .ok (.iastore, 1) := by decide +kernel
theorem dX11_text_163 : decode cX11_text 163 = .ok (.iinc 2 1, 3) := by decide +kernel
theorem dX11_text_166 : decode cX11_text 166 = .ok (.goto (-21), 3) := by decide +kernel
theorem dX11_text_169 : decode cX11_text 169 = .ok (.aload_n 0, 1) := by decide +kernel
theorem dX11_text_170 : decode cX11_text 170 = .ok (.invokevirtual 159, 3) := by decide +kernel
theorem dX11_text_173 : decode cX11_text 173 = .ok (.aload_n 0, 1) := by decide +kernel
theorem dX11_text_174 : decode cX11_text 174 = .ok (.getfield 28, 3) := by decide +kernel
theorem dX11_text_177 : decode cX11_text 177 = .ok (.iconst 0, 1) := by decide +kernel
theorem dX11_text_178 : decode cX11_text 178 = .ok (.iconst 0, 1) := by decide +kernel
theorem dX11_text_179 : decode cX11_text 179 = .ok (.bastore, 1) := by decide +kernel
theorem dX11_text_180 : decode cX11_text 180 = .ok (.aload_n 0, 1) := by decide +kernel
theorem dX11_text_181 : decode cX11_text 181 = .ok (.getfield 28, 3) := by decide +kernel
theorem dX11_text_184 : decode cX11_text 184 = .ok (.iconst 1, 1) := by decide +kernel
theorem dX11_text_185 : decode cX11_text 185 = .ok (.iconst 0, 1) := by decide +kernel
theorem dX11_text_186 : decode cX11_text 186 = .ok (.bastore, 1) := by decide +kernel
theorem dX11_text_187 : decode cX11_text 187 = .ok (.iload_n 1, 1) := by decide +kernel
theorem dX11_text_188 : decode cX11_text 188 = .ok (.ireturn, 1) := by decide +kernel
theorem dX11_fault_0 : decode cX11_fault 0 = .ok (.aload_n 0, 1) := by decide +kernel
theorem dX11_fault_1 : decode cX11_fault 1 = .ok (.getfield 156, 3) := by decide +kernel
theorem dX11_fault_4 : decode cX11_fault 4 = .ok (.ireturn, 1) := by decide +kernel
theorem dX11_isPiece_0 : decode cX11_isPiece 0 = .ok (.iload_n 1, 1) := by decide +kernel
theorem dX11_isPiece_1 : decode cX11_isPiece 1 = .ok (.i2l, 1) := by decide +kernel
theorem dX11_isPiece_2 : decode cX11_isPiece 2 = .ok (.lconst 0, 1) := by decide +kernel
theorem dX11_isPiece_3 : decode cX11_isPiece 3 = .ok (.aload_n 0, 1) := by decide +kernel
theorem dX11_isPiece_4 : decode cX11_isPiece 4 = .ok (.getfield 19, 3) := by decide +kernel
theorem dX11_isPiece_7 : decode cX11_isPiece 7 = .ok (.iconst 0, 1) := by decide +kernel
theorem dX11_isPiece_8 : decode cX11_isPiece 8 = .ok (.iaload, 1) := by decide +kernel
theorem dX11_isPiece_9 : decode cX11_isPiece 9 = .ok (.iconst 1, 1) := by decide +kernel
theorem dX11_isPiece_10 : decode cX11_isPiece 10 = .ok (.isub, 1) := by decide +kernel
theorem dX11_isPiece_11 : decode cX11_isPiece 11 = .ok (.i2l, 1) := by decide +kernel
theorem dX11_isPiece_12 : decode cX11_isPiece 12 = .ok (.invokestatic 69, 3) := by decide +kernel
theorem dX11_isPiece_15 : decode cX11_isPiece 15 = .ok (.ireturn, 1) := by decide +kernel
theorem dX11_isHand_0 : decode cX11_isHand 0 = .ok (.iload_n 1, 1) := by decide +kernel
theorem dX11_isHand_1 : decode cX11_isHand 1 = .ok (.i2l, 1) := by decide +kernel
theorem dX11_isHand_2 : decode cX11_isHand 2 = .ok (.lconst 0, 1) := by decide +kernel
theorem dX11_isHand_3 : decode cX11_isHand 3 = .ok (.aload_n 0, 1) := by decide +kernel
theorem dX11_isHand_4 : decode cX11_isHand 4 = .ok (.getfield 19, 3) := by decide +kernel
theorem dX11_isHand_7 : decode cX11_isHand 7 = .ok (.iconst 1, 1) := by decide +kernel
theorem dX11_isHand_8 : decode cX11_isHand 8 = .ok (.iaload, 1) := by decide +kernel
theorem dX11_isHand_9 : decode cX11_isHand 9 = .ok (.iconst 1, 1) := by decide +kernel
theorem dX11_isHand_10 : decode cX11_isHand 10 = .ok (.isub, 1) := by decide +kernel
theorem dX11_isHand_11 : decode cX11_isHand 11 = .ok (.i2l, 1) := by decide +kernel
theorem dX11_isHand_12 : decode cX11_isHand 12 = .ok (.invokestatic 69, 3) := by decide +kernel
theorem dX11_isHand_15 : decode cX11_isHand 15 = .ok (.ireturn, 1) := by decide +kernel
theorem dX11_endOf_0 : decode cX11_endOf 0 = .ok (.iload_n 1, 1) := by decide +kernel
theorem dX11_endOf_1 : decode cX11_endOf 1 = .ok (.aload_n 0, 1) := by decide +kernel
theorem dX11_endOf_2 : decode cX11_endOf 2 = .ok (.getfield 19, 3) := by decide +kernel
theorem dX11_endOf_5 : decode cX11_endOf 5 = .ok (.iconst 1, 1) := by decide +kernel
theorem dX11_endOf_6 : decode cX11_endOf 6 = .ok (.iaload, 1) := by decide +kernel
theorem dX11_endOf_7 : decode cX11_endOf 7 = .ok (.iconst 1, 1) := by decide +kernel
theorem dX11_endOf_8 : decode cX11_endOf 8 = .ok (.isub, 1) := by decide +kernel
theorem dX11_endOf_9 : decode cX11_endOf 9 = .ok (.if_icmp .eq 12, 3) := by decide +kernel
theorem dX11_endOf_12 : decode cX11_endOf 12 = .ok (.aload_n 0, 1) := by decide +kernel
theorem dX11_endOf_13 : decode cX11_endOf 13 = .ok (.getfield 19, 3) := by decide +kernel
theorem dX11_endOf_16 : decode cX11_endOf 16 = .ok (.iconst 4, 1) := by decide +kernel
theorem dX11_endOf_17 : decode cX11_endOf 17 = .ok (.iaload, 1) := by decide +kernel
theorem dX11_endOf_18 : decode cX11_endOf 18 = .ok (.ifCond .ne 12, 3) := by decide +kernel
theorem dX11_endOf_21 : decode cX11_endOf 21 = .ok (.aload_n 0, 1) := by decide +kernel
theorem dX11_endOf_22 : decode cX11_endOf 22 = .ok (.getfield 19, 3) := by decide +kernel
theorem dX11_endOf_25 : decode cX11_endOf 25 = .ok (.iconst 0, 1) := by decide +kernel
theorem dX11_endOf_26 : decode cX11_endOf 26 = .ok (.iaload, 1) := by decide +kernel
theorem dX11_endOf_27 : decode cX11_endOf 27 = .ok (.goto 12, 3) := by decide +kernel
theorem dX11_endOf_30 : decode cX11_endOf 30 = .ok (.aload_n 0, 1) := by decide +kernel
theorem dX11_endOf_31 : decode cX11_endOf 31 = .ok (.getfield 19, 3) := by decide +kernel
theorem dX11_endOf_34 : decode cX11_endOf 34 = .ok (.bipush 20, 2) := by decide +kernel
theorem dX11_endOf_36 : decode cX11_endOf 36 = .ok (.iload_n 1, 1) := by decide +kernel
theorem dX11_endOf_37 : decode cX11_endOf 37 = .ok (.iadd, 1) := by decide +kernel
theorem dX11_endOf_38 : decode cX11_endOf 38 = .ok (.iaload, 1) := by decide +kernel
theorem dX11_endOf_39 : decode cX11_endOf 39 = .ok (.ireturn, 1) := by decide +kernel
theorem dX11_rule_0 : decode cX11_rule 0 = .ok (.iload_n 1, 1) := by decide +kernel
theorem dX11_rule_1 : decode cX11_rule 1 = .ok (.i2l, 1) := by decide +kernel
theorem dX11_rule_2 : decode cX11_rule 2 = .ok (.lconst 0, 1) := by decide +kernel
theorem dX11_rule_3 : decode cX11_rule 3 = .ok (.ldc2_w 162, 3) := by decide +kernel
theorem dX11_rule_6 : decode cX11_rule 6 = .ok (.invokestatic 69, 3) := by decide +kernel
theorem dX11_rule_9 : decode cX11_rule 9 = .ok (.ifCond .eq 10, 3) := by decide +kernel
theorem dX11_rule_12 : decode cX11_rule 12 = .ok (.aload_n 0, 1) := by decide +kernel
theorem dX11_rule_13 : decode cX11_rule 13 = .ok (.getfield 19, 3) := by decide +kernel
theorem dX11_rule_16 : decode cX11_rule 16 = .ok (.iload_n 1, 1) := by decide +kernel
theorem dX11_rule_17 : decode cX11_rule 17 = .ok (.iaload, 1) := by decide +kernel
theorem dX11_rule_18 : decode cX11_rule 18 = .ok (.ireturn, 1) := by decide +kernel
theorem dX11_rule_19 : decode cX11_rule 19 = .ok (.iload_n 1, 1) := by decide +kernel
theorem dX11_rule_20 : decode cX11_rule 20 = .ok (.i2l, 1) := by decide +kernel
theorem dX11_rule_21 : decode cX11_rule 21 = .ok (.ldc2_w 164, 3) := by decide +kernel
theorem dX11_rule_24 : decode cX11_rule 24 = .ok (.bipush 10, 2) := by decide +kernel
theorem dX11_rule_26 : decode cX11_rule 26 = .ok (.aload_n 0, 1) := by decide +kernel
theorem dX11_rule_27 : decode cX11_rule 27 = .ok (.getfield 19, 3) := by decide +kernel
theorem dX11_rule_30 : decode cX11_rule 30 = .ok (.bipush 6, 2) := by decide +kernel
theorem dX11_rule_32 : decode cX11_rule 32 = .ok (.iaload, 1) := by decide +kernel
theorem dX11_rule_33 : decode cX11_rule 33 = .ok (.iadd, 1) := by decide +kernel
theorem dX11_rule_34 : decode cX11_rule 34 = .ok (.iconst 1, 1) := by decide +kernel
theorem dX11_rule_35 : decode cX11_rule 35 = .ok (.isub, 1) := by decide +kernel
theorem dX11_rule_36 : decode cX11_rule 36 = .ok (.i2l, 1) := by decide +kernel
theorem dX11_rule_37 : decode cX11_rule 37 = .ok (.invokestatic 69, 3) := by decide +kernel
theorem dX11_rule_40 : decode cX11_rule 40 = .ok (.ifCond .eq 10, 3) := by decide +kernel
theorem dX11_rule_43 : decode cX11_rule 43 = .ok (.aload_n 0, 1) := by decide +kernel
theorem dX11_rule_44 : decode cX11_rule 44 = .ok (.getfield 19, 3) := by decide +kernel
theorem dX11_rule_47 : decode cX11_rule 47 = .ok (.iload_n 1, 1) := by decide +kernel
theorem dX11_rule_48 : decode cX11_rule 48 = .ok (.iaload, 1) := by decide +kernel
theorem dX11_rule_49 : decode cX11_rule 49 = .ok (.ireturn, 1) := by decide +kernel
theorem dX11_rule_50 : decode cX11_rule 50 = .ok (.iload_n 1, 1) := by decide +kernel
theorem dX11_rule_51 : decode cX11_rule 51 = .ok (.bipush 20, 2) := by decide +kernel
theorem dX11_rule_53 : decode cX11_rule 53 = .ok (.if_icmp .lt 25, 3) := by decide +kernel
theorem dX11_rule_56 : decode cX11_rule 56 = .ok (.aload_n 0, 1) := by decide +kernel
theorem dX11_rule_57 : decode cX11_rule 57 = .ok (.iload_n 1, 1) := by decide +kernel
theorem dX11_rule_58 : decode cX11_rule 58 = .ok (.bipush 20, 2) := by decide +kernel
theorem dX11_rule_60 : decode cX11_rule 60 = .ok (.isub, 1) := by decide +kernel
theorem dX11_rule_61 : decode cX11_rule 61 = .ok (.invokevirtual 166, 3) := by decide +kernel
theorem dX11_rule_64 : decode cX11_rule 64 = .ok (.ifCond .eq 14, 3) := by decide +kernel
theorem dX11_rule_67 : decode cX11_rule 67 = .ok (.aload_n 0, 1) := by decide +kernel
theorem dX11_rule_68 : decode cX11_rule 68 = .ok (.iload_n 1, 1) := by decide +kernel
theorem dX11_rule_69 : decode cX11_rule 69 = .ok (.bipush 20, 2) := by decide +kernel
theorem dX11_rule_71 : decode cX11_rule 71 = .ok (.isub, 1) := by decide +kernel
theorem dX11_rule_72 : decode cX11_rule 72 = .ok (.invokevirtual 170, 3) := by decide +kernel
theorem dX11_rule_75 : decode cX11_rule 75 = .ok (.goto 4, 3) := by decide +kernel
theorem dX11_rule_78 : decode cX11_rule 78 = .ok (.iconst (-1), 1) := by decide +kernel
theorem dX11_rule_79 : decode cX11_rule 79 = .ok (.ireturn, 1) := by decide +kernel
theorem dX11_units_0 : decode cX11_units 0 = .ok (.iload_n 1, 1) := by decide +kernel
theorem dX11_units_1 : decode cX11_units 1 = .ok (.i2l, 1) := by decide +kernel
theorem dX11_units_2 : decode cX11_units 2 = .ok (.lconst 0, 1) := by decide +kernel
theorem dX11_units_3 : decode cX11_units 3 = .ok (.ldc2_w 173, 3) := by decide +kernel
theorem dX11_units_6 : decode cX11_units 6 = .ok (.invokestatic 69, 3) := by decide +kernel
theorem dX11_units_9 : decode cX11_units 9 = .ok (.ifCond .eq 28, 3) := by decide +kernel
theorem dX11_units_12 : decode cX11_units 12 = .ok (.aload_n 0, 1) := by decide +kernel
theorem dX11_units_13 : decode cX11_units 13 = .ok (.iload_n 2, 1) := by decide +kernel
theorem dX11_units_14 : decode cX11_units 14 = .ok (.invokevirtual 175, 3) := by decide +kernel
theorem dX11_units_17 : decode cX11_units 17 = .ok (.ifCond .eq 20, 3) := by decide +kernel
theorem dX11_units_20 : decode cX11_units 20 = .ok (.aload_n 0, 1) := by decide +kernel
theorem dX11_units_21 : decode cX11_units 21 = .ok (.getfield 19, 3) := by decide +kernel
theorem dX11_units_24 : decode cX11_units 24 = .ok (.bipush 30, 2) := by decide +kernel
theorem dX11_units_26 : decode cX11_units 26 = .ok (.bipush 8, 2) := by decide +kernel
theorem dX11_units_28 : decode cX11_units 28 = .ok (.iload_n 1, 1) := by decide +kernel
theorem dX11_units_29 : decode cX11_units 29 = .ok (.imul, 1) := by decide +kernel
theorem dX11_units_30 : decode cX11_units 30 = .ok (.iadd, 1) := by decide +kernel
theorem dX11_units_31 : decode cX11_units 31 = .ok (.iload_n 2, 1) := by decide +kernel
theorem dX11_units_32 : decode cX11_units 32 = .ok (.iadd, 1) := by decide +kernel
theorem dX11_units_33 : decode cX11_units 33 = .ok (.iaload, 1) := by decide +kernel
theorem dX11_units_34 : decode cX11_units 34 = .ok (.goto 4, 3) := by decide +kernel
theorem dX11_units_37 : decode cX11_units 37 = .ok (.iconst (-1), 1) := by decide +kernel
theorem dX11_units_38 : decode cX11_units 38 = .ok (.ireturn, 1) := by decide +kernel
theorem dX11_pace_0 : decode cX11_pace 0 = .ok (.aload_n 0, 1) := by decide +kernel
theorem dX11_pace_1 : decode cX11_pace 1 = .ok (.iload_n 1, 1) := by decide +kernel
theorem dX11_pace_2 : decode cX11_pace 2 = .ok (.invokevirtual 166, 3) := by decide +kernel
theorem dX11_pace_5 : decode cX11_pace 5 = .ok (.ifCond .eq 28, 3) := by decide +kernel
theorem dX11_pace_8 : decode cX11_pace 8 = .ok (.aload_n 0, 1) := by decide +kernel
theorem dX11_pace_9 : decode cX11_pace 9 = .ok (.iload_n 2, 1) := by decide +kernel
theorem dX11_pace_10 : decode cX11_pace 10 = .ok (.invokevirtual 175, 3) := by decide +kernel
theorem dX11_pace_13 : decode cX11_pace 13 = .ok (.ifCond .eq 20, 3) := by decide +kernel
theorem dX11_pace_16 : decode cX11_pace 16 = .ok (.aload_n 0, 1) := by decide +kernel
theorem dX11_pace_17 : decode cX11_pace 17 = .ok (.getfield 19, 3) := by decide +kernel
theorem dX11_pace_20 : decode cX11_pace 20 = .ok (.bipush 60, 2) := by decide +kernel
theorem dX11_pace_22 : decode cX11_pace 22 = .ok (.bipush 8, 2) := by decide +kernel
theorem dX11_pace_24 : decode cX11_pace 24 = .ok (.iload_n 1, 1) := by decide +kernel
theorem dX11_pace_25 : decode cX11_pace 25 = .ok (.imul, 1) := by decide +kernel
theorem dX11_pace_26 : decode cX11_pace 26 = .ok (.iadd, 1) := by decide +kernel
theorem dX11_pace_27 : decode cX11_pace 27 = .ok (.iload_n 2, 1) := by decide +kernel
theorem dX11_pace_28 : decode cX11_pace 28 = .ok (.iadd, 1) := by decide +kernel
theorem dX11_pace_29 : decode cX11_pace 29 = .ok (.iaload, 1) := by decide +kernel
theorem dX11_pace_30 : decode cX11_pace 30 = .ok (.goto 4, 3) := by decide +kernel
theorem dX11_pace_33 : decode cX11_pace 33 = .ok (.iconst (-1), 1) := by decide +kernel
theorem dX11_pace_34 : decode cX11_pace 34 = .ok (.ireturn, 1) := by decide +kernel
theorem dX11_setPace_0 : decode cX11_setPace 0 = .ok (.aload_n 0, 1) := by decide +kernel
theorem dX11_setPace_1 : decode cX11_setPace 1 = .ok (.iload_n 1, 1) := by decide +kernel
theorem dX11_setPace_2 : decode cX11_setPace 2 = .ok (.invokevirtual 166, 3) := by decide +kernel
theorem dX11_setPace_5 : decode cX11_setPace 5 = .ok (.ifCond .eq 23, 3) := by decide +kernel
theorem dX11_setPace_8 : decode cX11_setPace 8 = .ok (.aload_n 0, 1) := by decide +kernel
theorem dX11_setPace_9 : decode cX11_setPace 9 = .ok (.iload_n 2, 1) := by decide +kernel
theorem dX11_setPace_10 : decode cX11_setPace 10 = .ok (.invokevirtual 175, 3) := by decide +kernel
theorem dX11_setPace_13 : decode cX11_setPace 13 = .ok (.ifCond .eq 15, 3) := by decide +kernel
theorem dX11_setPace_16 : decode cX11_setPace 16 = .ok (.iload_n 3, 1) := by decide +kernel
theorem dX11_setPace_17 : decode cX11_setPace 17 = .ok (.i2l, 1) := by decide +kernel
theorem dX11_setPace_18 : decode cX11_setPace 18 = .ok (.lconst 1, 1) := by decide +kernel
theorem dX11_setPace_19 : decode cX11_setPace 19 = .ok (.ldc2_w 178, 3) := by decide +kernel
theorem dX11_setPace_22 : decode cX11_setPace 22 = .ok (.invokestatic 69, 3) := by decide +kernel
theorem dX11_setPace_25 : decode cX11_setPace 25 = .ok (.ifCond .ne 5, 3) := by decide +kernel
theorem dX11_setPace_28 : decode cX11_setPace 28 = .ok (.iconst (-1), 1) := by decide +kernel
theorem dX11_setPace_29 : decode cX11_setPace 29 = .ok (.ireturn, 1) := by decide +kernel
theorem dX11_setPace_30 : decode cX11_setPace 30 = .ok (.aload_n 0, 1) := by decide +kernel
theorem dX11_setPace_31 : decode cX11_setPace 31 = .ok (.invokevirtual 180, 3) := by decide +kernel
theorem dX11_setPace_34 : decode cX11_setPace 34 = .ok (.aload_n 0, 1) := by decide +kernel
theorem dX11_setPace_35 : decode cX11_setPace 35 = .ok (.getfield 19, 3) := by decide +kernel
theorem dX11_setPace_38 : decode cX11_setPace 38 = .ok (.bipush 60, 2) := by decide +kernel
theorem dX11_setPace_40 : decode cX11_setPace 40 = .ok (.bipush 8, 2) := by decide +kernel
theorem dX11_setPace_42 : decode cX11_setPace 42 = .ok (.iload_n 1, 1) := by decide +kernel
theorem dX11_setPace_43 : decode cX11_setPace 43 = .ok (.imul, 1) := by decide +kernel
theorem dX11_setPace_44 : decode cX11_setPace 44 = .ok (.iadd, 1) := by decide +kernel
theorem dX11_setPace_45 : decode cX11_setPace 45 = .ok (.iload_n 2, 1) := by decide +kernel
theorem dX11_setPace_46 : decode cX11_setPace 46 = .ok (.iadd, 1) := by decide +kernel
theorem dX11_setPace_47 : decode cX11_setPace 47 = .ok (.iaload, 1) := by decide +kernel
theorem dX11_setPace_48 : decode cX11_setPace 48 = .ok (.istore 4, 2) := by decide +kernel
theorem dX11_setPace_50 : decode cX11_setPace 50 = .ok (.aload_n 0, 1) := by decide +kernel
theorem dX11_setPace_51 : decode cX11_setPace 51 = .ok (.getfield 19, 3) := by decide +kernel
theorem dX11_setPace_54 : decode cX11_setPace 54 = .ok (.bipush 60, 2) := by decide +kernel
theorem dX11_setPace_56 : decode cX11_setPace 56 = .ok (.bipush 8, 2) := by decide +kernel
theorem dX11_setPace_58 : decode cX11_setPace 58 = .ok (.iload_n 1, 1) := by decide +kernel
theorem dX11_setPace_59 : decode cX11_setPace 59 = .ok (.imul, 1) := by decide +kernel
theorem dX11_setPace_60 : decode cX11_setPace 60 = .ok (.iadd, 1) := by decide +kernel
theorem dX11_setPace_61 : decode cX11_setPace 61 = .ok (.iload_n 2, 1) := by decide +kernel
theorem dX11_setPace_62 : decode cX11_setPace 62 = .ok (.iadd, 1) := by decide +kernel
theorem dX11_setPace_63 : decode cX11_setPace 63 = .ok (.iload_n 3, 1) := by decide +kernel
theorem dX11_setPace_64 : decode cX11_setPace 64 = .ok (.iastore, 1) := by decide +kernel
theorem dX11_setPace_65 : decode cX11_setPace 65 = .ok (.iload 4, 2) := by decide +kernel
theorem dX11_setPace_67 : decode cX11_setPace 67 = .ok (.ireturn, 1) := by decide +kernel
theorem dX11_clear_0 : decode cX11_clear 0 = .ok (.iconst 0, 1) := by decide +kernel
theorem dX11_clear_1 : decode cX11_clear 1 = .ok (.istore_n 2, 1) := by decide +kernel
theorem dX11_clear_2 : decode cX11_clear 2 = .ok (.iload_n 2, 1) := by decide +kernel
theorem dX11_clear_3 : decode cX11_clear 3 = .ok (.bipush 96, 2) := by decide +kernel
theorem dX11_clear_5 : decode cX11_clear 5 = .ok (.if_icmp .ge 21, 3) := by decide +kernel
theorem dX11_clear_8 : decode cX11_clear 8 = .ok (.aload_n 0, 1) := by decide +kernel
theorem dX11_clear_9 : decode cX11_clear 9 = .ok (.getfield 25, 3) := by decide +kernel
theorem dX11_clear_12 : decode cX11_clear 12 = .ok (.bipush 96, 2) := by decide +kernel
theorem dX11_clear_14 : decode cX11_clear 14 = .ok (.iload_n 1, 1) := by decide +kernel
theorem dX11_clear_15 : decode cX11_clear 15 = .ok (.imul, 1) := by decide +kernel
theorem dX11_clear_16 : decode cX11_clear 16 = .ok (.iload_n 2, 1) := by decide +kernel
theorem dX11_clear_17 : decode cX11_clear 17 = .ok (.iadd, 1) := by decide +kernel
theorem dX11_clear_18 : decode cX11_clear 18 = .ok (.iconst 0, 1) := by decide +kernel
theorem dX11_clear_19 : decode cX11_clear 19 = .ok (.iastore, 1) := by decide +kernel
theorem dX11_clear_20 : decode cX11_clear 20 = .ok (.iinc 2 1, 3) := by decide +kernel
theorem dX11_clear_23 : decode cX11_clear 23 = .ok (.goto (-21), 3) := by decide +kernel
theorem dX11_clear_26 : decode cX11_clear 26 = .ok (.return_, 1) := by decide +kernel
theorem dX11_at_0 : decode cX11_at 0 = .ok (.aload_n 0, 1) := by decide +kernel
theorem dX11_at_1 : decode cX11_at 1 = .ok (.getfield 25, 3) := by decide +kernel
theorem dX11_at_4 : decode cX11_at 4 = .ok (.bipush 96, 2) := by decide +kernel
theorem dX11_at_6 : decode cX11_at 6 = .ok (.iload_n 1, 1) := by decide +kernel
theorem dX11_at_7 : decode cX11_at 7 = .ok (.imul, 1) := by decide +kernel
theorem dX11_at_8 : decode cX11_at 8 = .ok (.bipush 8, 2) := by decide +kernel
theorem dX11_at_10 : decode cX11_at 10 = .ok (.iadd, 1) := by decide +kernel
theorem dX11_at_11 : decode cX11_at 11 = .ok (.bipush 8, 2) := by decide +kernel
theorem dX11_at_13 : decode cX11_at 13 = .ok (.iload_n 2, 1) := by decide +kernel
theorem dX11_at_14 : decode cX11_at 14 = .ok (.imul, 1) := by decide +kernel
theorem dX11_at_15 : decode cX11_at 15 = .ok (.iadd, 1) := by decide +kernel
theorem dX11_at_16 : decode cX11_at 16 = .ok (.iload_n 3, 1) := by decide +kernel
theorem dX11_at_17 : decode cX11_at 17 = .ok (.iadd, 1) := by decide +kernel
theorem dX11_at_18 : decode cX11_at 18 = .ok (.iaload, 1) := by decide +kernel
theorem dX11_at_19 : decode cX11_at 19 = .ok (.iload_n 3, 1) := by decide +kernel
theorem dX11_at_20 : decode cX11_at 20 = .ok (.i2l, 1) := by decide +kernel
theorem dX11_at_21 : decode cX11_at 21 = .ok (.ldc2_w 173, 3) := by decide +kernel
theorem dX11_at_24 : decode cX11_at 24 = .ok (.ldc2_w 183, 3) := by decide +kernel
theorem dX11_at_27 : decode cX11_at 27 = .ok (.invokestatic 69, 3) := by decide +kernel
theorem dX11_at_30 : decode cX11_at 30 = .ok (.ifCond .eq 8, 3) := by decide +kernel
theorem dX11_at_33 : decode cX11_at 33 = .ok (.bipush (-4), 2) := by decide +kernel
theorem dX11_at_35 : decode cX11_at 35 = .ok (.goto 4, 3) := by decide +kernel
theorem dX11_at_38 : decode cX11_at 38 = .ok (.iconst 0, 1) := by decide +kernel
theorem dX11_at_39 : decode cX11_at 39 = .ok (.iadd, 1) := by decide +kernel
theorem dX11_at_40 : decode cX11_at 40 = .ok (.ireturn, 1) := by decide +kernel
theorem dX11_put_0 : decode cX11_put 0 = .ok (.aload_n 0, 1) := by decide +kernel
theorem dX11_put_1 : decode cX11_put 1 = .ok (.getfield 25, 3) := by decide +kernel
theorem dX11_put_4 : decode cX11_put 4 = .ok (.bipush 96, 2) := by decide +kernel
theorem dX11_put_6 : decode cX11_put 6 = .ok (.iload_n 1, 1) := by decide +kernel
theorem dX11_put_7 : decode cX11_put 7 = .ok (.imul, 1) := by decide +kernel
theorem dX11_put_8 : decode cX11_put 8 = .ok (.bipush 8, 2) := by decide +kernel
theorem dX11_put_10 : decode cX11_put 10 = .ok (.iadd, 1) := by decide +kernel
theorem dX11_put_11 : decode cX11_put 11 = .ok (.bipush 8, 2) := by decide +kernel
theorem dX11_put_13 : decode cX11_put 13 = .ok (.iload_n 2, 1) := by decide +kernel
theorem dX11_put_14 : decode cX11_put 14 = .ok (.imul, 1) := by decide +kernel
theorem dX11_put_15 : decode cX11_put 15 = .ok (.iadd, 1) := by decide +kernel
theorem dX11_put_16 : decode cX11_put 16 = .ok (.iload_n 3, 1) := by decide +kernel
theorem dX11_put_17 : decode cX11_put 17 = .ok (.iadd, 1) := by decide +kernel
theorem dX11_put_18 : decode cX11_put 18 = .ok (.iload 4, 2) := by decide +kernel
theorem dX11_put_20 : decode cX11_put 20 = .ok (.iload_n 3, 1) := by decide +kernel
theorem dX11_put_21 : decode cX11_put 21 = .ok (.i2l, 1) := by decide +kernel
theorem dX11_put_22 : decode cX11_put 22 = .ok (.ldc2_w 173, 3) := by decide +kernel
theorem dX11_put_25 : decode cX11_put 25 = .ok (.ldc2_w 183, 3) := by decide +kernel
theorem dX11_put_28 : decode cX11_put 28 = .ok (.invokestatic 69, 3) := by decide +kernel
theorem dX11_put_31 : decode cX11_put 31 = .ok (.ifCond .eq 8, 3) := by decide +kernel
theorem dX11_put_34 : decode cX11_put 34 = .ok (.bipush (-4), 2) := by decide +kernel
theorem dX11_put_36 : decode cX11_put 36 = .ok (.goto 4, 3) := by decide +kernel
theorem dX11_put_39 : decode cX11_put 39 = .ok (.iconst 0, 1) := by decide +kernel
theorem dX11_put_40 : decode cX11_put 40 = .ok (.isub, 1) := by decide +kernel
theorem dX11_put_41 : decode cX11_put 41 = .ok (.iastore, 1) := by decide +kernel
theorem dX11_put_42 : decode cX11_put 42 = .ok (.return_, 1) := by decide +kernel
theorem dX11_of_0 : decode cX11_of 0 = .ok (.aload_n 0, 1) := by decide +kernel
theorem dX11_of_1 : decode cX11_of 1 = .ok (.getfield 25, 3) := by decide +kernel
theorem dX11_of_4 : decode cX11_of 4 = .ok (.bipush 96, 2) := by decide +kernel
theorem dX11_of_6 : decode cX11_of 6 = .ok (.iload_n 1, 1) := by decide +kernel
theorem dX11_of_7 : decode cX11_of 7 = .ok (.imul, 1) := by decide +kernel
theorem dX11_of_8 : decode cX11_of 8 = .ok (.iload_n 2, 1) := by decide +kernel
theorem dX11_of_9 : decode cX11_of 9 = .ok (.iadd, 1) := by decide +kernel
theorem dX11_of_10 : decode cX11_of 10 = .ok (.iaload, 1) := by decide +kernel
theorem dX11_of_11 : decode cX11_of 11 = .ok (.ireturn, 1) := by decide +kernel
theorem dX11_more_0 : decode cX11_more 0 = .ok (.aload_n 0, 1) := by decide +kernel
theorem dX11_more_1 : decode cX11_more 1 = .ok (.getfield 25, 3) := by decide +kernel
theorem dX11_more_4 : decode cX11_more 4 = .ok (.bipush 96, 2) := by decide +kernel
theorem dX11_more_6 : decode cX11_more 6 = .ok (.iload_n 1, 1) := by decide +kernel
theorem dX11_more_7 : decode cX11_more 7 = .ok (.imul, 1) := by decide +kernel
theorem dX11_more_8 : decode cX11_more 8 = .ok (.iload_n 2, 1) := by decide +kernel
theorem dX11_more_9 : decode cX11_more 9 = .ok (.iadd, 1) := by decide +kernel
theorem dX11_more_10 : decode cX11_more 10 = .ok (.dup2, 1) := by decide +kernel
theorem dX11_more_11 : decode cX11_more 11 = .ok (.iaload, 1) := by decide +kernel
theorem dX11_more_12 : decode cX11_more 12 = .ok (.iload_n 3, 1) := by decide +kernel
theorem dX11_more_13 : decode cX11_more 13 = .ok (.iadd, 1) := by decide +kernel
theorem dX11_more_14 : decode cX11_more 14 = .ok (.iastore, 1) := by decide +kernel
theorem dX11_more_15 : decode cX11_more 15 = .ok (.return_, 1) := by decide +kernel
theorem dX11_learntAt_0 : decode cX11_learntAt 0 = .ok (.bipush 96, 2) := by decide +kernel
theorem dX11_learntAt_2 : decode cX11_learntAt 2 = .ok (.iload_n 1, 1) := by decide +kernel
theorem dX11_learntAt_3 : decode cX11_learntAt 3 = .ok (.imul, 1) := by decide +kernel
theorem dX11_learntAt_4 : decode cX11_learntAt 4 = .ok (.bipush 48, 2) := by decide +kernel
theorem dX11_learntAt_6 : decode cX11_learntAt 6 = .ok (.iadd, 1) := by decide +kernel
theorem dX11_learntAt_7 : decode cX11_learntAt 7 = .ok (.bipush 8, 2) := by decide +kernel
theorem dX11_learntAt_9 : decode cX11_learntAt 9 = .ok (.iload_n 2, 1) := by decide +kernel
theorem dX11_learntAt_10 : decode cX11_learntAt 10 = .ok (.imul, 1) := by decide +kernel
theorem dX11_learntAt_11 : decode cX11_learntAt 11 = .ok (.iadd, 1) := by decide +kernel
theorem dX11_learntAt_12 : decode cX11_learntAt 12 = .ok (.iload_n 3, 1) := by decide +kernel
theorem dX11_learntAt_13 : decode cX11_learntAt 13 = .ok (.iadd, 1) := by decide +kernel
theorem dX11_learntAt_14 : decode cX11_learntAt 14 = .ok (.ireturn, 1) := by decide +kernel
theorem dX11_ticksOf_0 : decode cX11_ticksOf 0 = .ok (.aload_n 0, 1) := by decide +kernel
theorem dX11_ticksOf_1 : decode cX11_ticksOf 1 = .ok (.getfield 19, 3) := by decide +kernel
theorem dX11_ticksOf_4 : decode cX11_ticksOf 4 = .ok (.bipush 60, 2) := by decide +kernel
theorem dX11_ticksOf_6 : decode cX11_ticksOf 6 = .ok (.bipush 8, 2) := by decide +kernel
theorem dX11_ticksOf_8 : decode cX11_ticksOf 8 = .ok (.iload_n 2, 1) := by decide +kernel
theorem dX11_ticksOf_9 : decode cX11_ticksOf 9 = .ok (.imul, 1) := by decide +kernel
theorem dX11_ticksOf_10 : decode cX11_ticksOf 10 = .ok (.iadd, 1) := by decide +kernel
theorem dX11_ticksOf_11 : decode cX11_ticksOf 11 = .ok (.iload_n 3, 1) := by decide +kernel
theorem dX11_ticksOf_12 : decode cX11_ticksOf 12 = .ok (.iadd, 1) := by decide +kernel
theorem dX11_ticksOf_13 : decode cX11_ticksOf 13 = .ok (.iaload, 1) := by decide +kernel
theorem dX11_ticksOf_14 : decode cX11_ticksOf 14 = .ok (.istore 4, 2) := by decide +kernel
theorem dX11_ticksOf_16 : decode cX11_ticksOf 16 = .ok (.iload 4, 2) := by decide +kernel
theorem dX11_ticksOf_18 : decode cX11_ticksOf 18 = .ok (.aload_n 0, 1) := by decide +kernel
theorem dX11_ticksOf_19 : decode cX11_ticksOf 19 = .ok (.getfield 19, 3) := by decide +kernel
theorem dX11_ticksOf_22 : decode cX11_ticksOf 22 = .ok (.iconst 3, 1) := by decide +kernel
theorem dX11_ticksOf_23 : decode cX11_ticksOf 23 = .ok (.iaload, 1) := by decide +kernel
theorem dX11_ticksOf_24 : decode cX11_ticksOf 24 = .ok (.ifCond .ne 7, 3) := by decide +kernel
theorem dX11_ticksOf_27 : decode cX11_ticksOf 27 = .ok (.iconst 0, 1) := by decide +kernel
theorem dX11_ticksOf_28 : decode cX11_ticksOf 28 = .ok (.goto 22, 3) := by decide +kernel
theorem dX11_ticksOf_31 : decode cX11_ticksOf 31 = .ok (.aload_n 0, 1) := by decide +kernel
theorem dX11_ticksOf_32 : decode cX11_ticksOf 32 = .ok (.getfield 25, 3) := by decide +kernel
theorem dX11_ticksOf_35 : decode cX11_ticksOf 35 = .ok (.aload_n 0, 1) := by decide +kernel
theorem dX11_ticksOf_36 : decode cX11_ticksOf 36 = .ok (.iload_n 1, 1) := by decide +kernel
theorem dX11_ticksOf_37 : decode cX11_ticksOf 37 = .ok (.iload_n 2, 1) := by decide +kernel
theorem dX11_ticksOf_38 : decode cX11_ticksOf 38 = .ok (.iload_n 3, 1) := by decide +kernel
theorem dX11_ticksOf_39 : decode cX11_ticksOf 39 = .ok (.invokevirtual 185, 3) := by decide +kernel
theorem dX11_ticksOf_42 : decode cX11_ticksOf 42 = .ok (.iaload, 1) := by decide +kernel
theorem dX11_ticksOf_43 : decode cX11_ticksOf 43 = .ok (.aload_n 0, 1) := by decide +kernel
theorem dX11_ticksOf_44 : decode cX11_ticksOf 44 = .ok (.getfield 19, 3) := by decide +kernel
theorem dX11_ticksOf_47 : decode cX11_ticksOf 47 = .ok (.iconst 3, 1) := by decide +kernel
theorem dX11_ticksOf_48 : decode cX11_ticksOf 48 = .ok (.iaload, 1) := by decide +kernel
theorem dX11_ticksOf_49 : decode cX11_ticksOf 49 = .ok (.idiv, 1) := by decide +kernel
theorem dX11_ticksOf_50 : decode cX11_ticksOf 50 = .ok (.isub, 1) := by decide +kernel
theorem dX11_ticksOf_51 : decode cX11_ticksOf 51 = .ok (.istore 4, 2) := by decide +kernel
theorem dX11_ticksOf_53 : decode cX11_ticksOf 53 = .ok (.iload 4, 2) := by decide +kernel
theorem dX11_ticksOf_55 : decode cX11_ticksOf 55 = .ok (.iconst 1, 1) := by decide +kernel
theorem dX11_ticksOf_56 : decode cX11_ticksOf 56 = .ok (.if_icmp .ge 7, 3) := by decide +kernel
theorem dX11_ticksOf_59 : decode cX11_ticksOf 59 = .ok (.iconst 1, 1) := by decide +kernel
theorem dX11_ticksOf_60 : decode cX11_ticksOf 60 = .ok (.goto 5, 3) := by decide +kernel
theorem dX11_ticksOf_63 : decode cX11_ticksOf 63 = .ok (.iload 4, 2) := by decide +kernel
theorem dX11_ticksOf_65 : decode cX11_ticksOf 65 = .ok (.ireturn, 1) := by decide +kernel
theorem dX11_asNumbered_0 : decode cX11_asNumbered 0 = .ok (.aload_n 0, 1) := by decide +kernel
theorem dX11_asNumbered_1 : decode cX11_asNumbered 1 = .ok (.aload_n 0, 1) := by decide +kernel
theorem dX11_asNumbered_2 : decode cX11_asNumbered 2 = .ok (.getfield 19, 3) := by decide +kernel
theorem dX11_asNumbered_5 : decode cX11_asNumbered 5 = .ok (.iconst 1, 1) := by decide +kernel
theorem dX11_asNumbered_6 : decode cX11_asNumbered 6 = .ok (.iaload, 1) := by decide +kernel
theorem dX11_asNumbered_7 : decode cX11_asNumbered 7 = .ok (.putfield 189, 3) := by decide +kernel
theorem dX11_asNumbered_10 : decode cX11_asNumbered 10 = .ok (.aload_n 0, 1) := by decide +kernel
theorem dX11_asNumbered_11 : decode cX11_asNumbered 11 = .ok (.aload_n 0, 1) := by decide +kernel
theorem dX11_asNumbered_12 : decode cX11_asNumbered 12 = .ok (.getfield 19, 3) := by decide +kernel
theorem dX11_asNumbered_15 : decode cX11_asNumbered 15 = .ok (.iconst 4, 1) := by decide +kernel
theorem dX11_asNumbered_16 : decode cX11_asNumbered 16 = .ok (.iaload, 1) := by decide +kernel
theorem dX11_asNumbered_17 : decode cX11_asNumbered 17 = .ok (.putfield 192, 3) := by decide +kernel
theorem dX11_asNumbered_20 : decode cX11_asNumbered 20 = .ok (.iconst 0, 1) := by decide +kernel
theorem dX11_asNumbered_21 : decode cX11_asNumbered 21 = .ok (.istore_n 1, 1) := by decide +kernel
theorem dX11_asNumbered_22 : decode cX11_asNumbered 22 = .ok (.iload_n 1, 1) := by decide +kernel
theorem dX11_asNumbered_23 : decode cX11_asNumbered 23 = .ok (.aload_n 0, 1) := by decide +kernel
theorem dX11_asNumbered_24 : decode cX11_asNumbered 24 = .ok (.getfield 189, 3) := by decide +kernel
theorem dX11_asNumbered_27 : decode cX11_asNumbered 27 = .ok (.if_icmp .ge 27, 3) := by decide +kernel
theorem dX11_asNumbered_30 : decode cX11_asNumbered 30 = .ok (.aload_n 0, 1) := by decide +kernel
theorem dX11_asNumbered_31 : decode cX11_asNumbered 31 = .ok (.getfield 32, 3) := by decide +kernel
theorem dX11_asNumbered_34 : decode cX11_asNumbered 34 = .ok (.iload_n 1, 1) := by decide +kernel
theorem dX11_asNumbered_35 : decode cX11_asNumbered 35 = .ok (.iload_n 1, 1) := by decide +kernel
theorem dX11_asNumbered_36 : decode cX11_asNumbered 36 = .ok (.iastore, 1) := by decide +kernel
theorem dX11_asNumbered_37 : decode cX11_asNumbered 37 = .ok (.aload_n 0, 1) := by decide +kernel
theorem dX11_asNumbered_38 : decode cX11_asNumbered 38 = .ok (.getfield 35, 3) := by decide +kernel
theorem dX11_asNumbered_41 : decode cX11_asNumbered 41 = .ok (.iload_n 1, 1) := by decide +kernel
theorem dX11_asNumbered_42 : decode cX11_asNumbered 42 = .ok (.aload_n 0, 1) := by decide +kernel
theorem dX11_asNumbered_43 : decode cX11_asNumbered 43 = .ok (.iload_n 1, 1) := by decide +kernel
theorem dX11_asNumbered_44 : decode cX11_asNumbered 44 = .ok (.invokevirtual 170, 3) := by decide +kernel
theorem dX11_asNumbered_47 : decode cX11_asNumbered 47 = .ok (.iastore, 1) := by decide +kernel
theorem dX11_asNumbered_48 : decode cX11_asNumbered 48 = .ok (.iinc 1 1, 3) := by decide +kernel
theorem dX11_asNumbered_51 : decode cX11_asNumbered 51 = .ok (.goto (-29), 3) := by decide +kernel
theorem dX11_asNumbered_54 : decode cX11_asNumbered 54 = .ok (.return_, 1) := by decide +kernel
theorem dX11_pieceOr0_0 : decode cX11_pieceOr0 0 = .ok (.aload_n 0, 1) := by decide +kernel
theorem dX11_pieceOr0_1 : decode cX11_pieceOr0 1 = .ok (.iload_n 1, 1) := by decide +kernel
theorem dX11_pieceOr0_2 : decode cX11_pieceOr0 2 = .ok (.iload_n 2, 1) := by decide +kernel
theorem dX11_pieceOr0_3 : decode cX11_pieceOr0 3 = .ok (.iconst 2, 1) := by decide +kernel
theorem dX11_pieceOr0_4 : decode cX11_pieceOr0 4 = .ok (.invokevirtual 195, 3) := by decide +kernel
theorem dX11_pieceOr0_7 : decode cX11_pieceOr0 7 = .ok (.istore_n 3, 1) := by decide +kernel
theorem dX11_pieceOr0_8 : decode cX11_pieceOr0 8 = .ok (.iload_n 3, 1) := by decide +kernel
theorem dX11_pieceOr0_9 : decode cX11_pieceOr0 9 = .ok (.bipush (-4), 2) := by decide +kernel
theorem dX11_pieceOr0_11 : decode cX11_pieceOr0 11 = .ok (.if_icmp .ne 7, 3) := by decide +kernel
theorem dX11_pieceOr0_14 : decode cX11_pieceOr0 14 = .ok (.iconst 0, 1) := by decide +kernel
theorem dX11_pieceOr0_15 : decode cX11_pieceOr0 15 = .ok (.goto 4, 3) := by decide +kernel
theorem dX11_pieceOr0_18 : decode cX11_pieceOr0 18 = .ok (.iload_n 3, 1) := by decide +kernel
theorem dX11_pieceOr0_19 : decode cX11_pieceOr0 19 = .ok (.ireturn, 1) := by decide +kernel
theorem dX11_goesBack_0 : decode cX11_goesBack 0 = .ok (.iload_n 2, 1) := by decide +kernel
theorem dX11_goesBack_1 : decode cX11_goesBack 1 = .ok (.ifCond .ne 7, 3) := by decide +kernel
theorem dX11_goesBack_4 : decode cX11_goesBack 4 = .ok (.iconst 0, 1) := by decide +kernel
theorem dX11_goesBack_5 : decode cX11_goesBack 5 = .ok (.goto 20, 3) := by decide +kernel
theorem dX11_goesBack_8 : decode cX11_goesBack 8 = .ok (.aload_n 0, 1) := by decide +kernel
theorem dX11_goesBack_9 : decode cX11_goesBack 9 = .ok (.getfield 19, 3) := by decide +kernel
theorem dX11_goesBack_12 : decode cX11_goesBack 12 = .ok (.iconst 2, 1) := by decide +kernel
theorem dX11_goesBack_13 : decode cX11_goesBack 13 = .ok (.iaload, 1) := by decide +kernel
theorem dX11_goesBack_14 : decode cX11_goesBack 14 = .ok (.iload_n 3, 1) := by decide +kernel
theorem dX11_goesBack_15 : decode cX11_goesBack 15 = .ok (.aload_n 0, 1) := by decide +kernel
theorem dX11_goesBack_16 : decode cX11_goesBack 16 = .ok (.iload_n 1, 1) := by decide +kernel
theorem dX11_goesBack_17 : decode cX11_goesBack 17 = .ok (.iload_n 2, 1) := by decide +kernel
theorem dX11_goesBack_18 : decode cX11_goesBack 18 = .ok (.iconst 1, 1) := by decide +kernel
theorem dX11_goesBack_19 : decode cX11_goesBack 19 = .ok (.isub, 1) := by decide +kernel
theorem dX11_goesBack_20 : decode cX11_goesBack 20 = .ok (.invokevirtual 198, 3) := by decide +kernel
theorem dX11_goesBack_23 : decode cX11_goesBack 23 = .ok (.isub, 1) := by decide +kernel
theorem dX11_goesBack_24 : decode cX11_goesBack 24 = .ok (.imul, 1) := by decide +kernel
theorem dX11_goesBack_25 : decode cX11_goesBack 25 = .ok (.istore 4, 2) := by decide +kernel
theorem dX11_goesBack_27 : decode cX11_goesBack 27 = .ok (.iload 4, 2) := by decide +kernel
theorem dX11_goesBack_29 : decode cX11_goesBack 29 = .ok (.ifCond .ge 7, 3) := by decide +kernel
theorem dX11_goesBack_32 : decode cX11_goesBack 32 = .ok (.iconst 0, 1) := by decide +kernel
theorem dX11_goesBack_33 : decode cX11_goesBack 33 = .ok (.goto 5, 3) := by decide +kernel
theorem dX11_goesBack_36 : decode cX11_goesBack 36 = .ok (.iload 4, 2) := by decide +kernel
theorem dX11_goesBack_38 : decode cX11_goesBack 38 = .ok (.istore 4, 2) := by decide +kernel
theorem dX11_goesBack_40 : decode cX11_goesBack 40 = .ok (.aload_n 0, 1) := by decide +kernel
theorem dX11_goesBack_41 : decode cX11_goesBack 41 = .ok (.iload_n 1, 1) := by decide +kernel
theorem dX11_goesBack_42 : decode cX11_goesBack 42 = .ok (.iload_n 2, 1) := by decide +kernel
theorem dX11_goesBack_43 : decode cX11_goesBack 43 = .ok (.iconst 0, 1) := by decide +kernel
theorem dX11_goesBack_44 : decode cX11_goesBack 44 = .ok (.iload 4, 2) := by decide +kernel
theorem dX11_goesBack_46 : decode cX11_goesBack 46 = .ok (.ifCond .le 7, 3) := by decide +kernel
theorem dX11_goesBack_49 : decode cX11_goesBack 49 = .ok (.iconst 1, 1) := by decide +kernel
theorem dX11_goesBack_50 : decode cX11_goesBack 50 = .ok (.goto 4, 3) := by decide +kernel
theorem dX11_goesBack_53 : decode cX11_goesBack 53 = .ok (.iconst 0, 1) := by decide +kernel
theorem dX11_goesBack_54 : decode cX11_goesBack 54 = .ok (.invokevirtual 201, 3) := by decide +kernel
theorem dX11_goesBack_57 : decode cX11_goesBack 57 = .ok (.aload_n 0, 1) := by decide +kernel
theorem dX11_goesBack_58 : decode cX11_goesBack 58 = .ok (.iload_n 1, 1) := by decide +kernel
theorem dX11_goesBack_59 : decode cX11_goesBack 59 = .ok (.iload_n 2, 1) := by decide +kernel
theorem dX11_goesBack_60 : decode cX11_goesBack 60 = .ok (.iconst 1, 1) := by decide +kernel
theorem dX11_goesBack_61 : decode cX11_goesBack 61 = .ok (.iload 4, 2) := by decide +kernel
theorem dX11_goesBack_63 : decode cX11_goesBack 63 = .ok (.invokevirtual 201, 3) := by decide +kernel
theorem dX11_goesBack_66 : decode cX11_goesBack 66 = .ok (.aload_n 0, 1) := by decide +kernel
theorem dX11_goesBack_67 : decode cX11_goesBack 67 = .ok (.iload_n 1, 1) := by decide +kernel
theorem dX11_goesBack_68 : decode cX11_goesBack 68 = .ok (.iload_n 2, 1) := by decide +kernel
theorem dX11_goesBack_69 : decode cX11_goesBack 69 = .ok (.iconst 2, 1) := by decide +kernel
theorem dX11_goesBack_70 : decode cX11_goesBack 70 = .ok (.bipush (-4), 2) := by decide +kernel
theorem dX11_goesBack_72 : decode cX11_goesBack 72 = .ok (.invokevirtual 201, 3) := by decide +kernel
theorem dX11_goesBack_75 : decode cX11_goesBack 75 = .ok (.aload_n 0, 1) := by decide +kernel
theorem dX11_goesBack_76 : decode cX11_goesBack 76 = .ok (.iload_n 1, 1) := by decide +kernel
theorem dX11_goesBack_77 : decode cX11_goesBack 77 = .ok (.iload_n 2, 1) := by decide +kernel
theorem dX11_goesBack_78 : decode cX11_goesBack 78 = .ok (.iconst 3, 1) := by decide +kernel
theorem dX11_goesBack_79 : decode cX11_goesBack 79 = .ok (.bipush (-4), 2) := by decide +kernel
theorem dX11_goesBack_81 : decode cX11_goesBack 81 = .ok (.invokevirtual 201, 3) := by decide +kernel
theorem dX11_goesBack_84 : decode cX11_goesBack 84 = .ok (.aload_n 0, 1) := by decide +kernel
theorem dX11_goesBack_85 : decode cX11_goesBack 85 = .ok (.iload_n 1, 1) := by decide +kernel
theorem dX11_goesBack_86 : decode cX11_goesBack 86 = .ok (.iload_n 2, 1) := by decide +kernel
theorem dX11_goesBack_87 : decode cX11_goesBack 87 = .ok (.iconst 4, 1) := by decide +kernel
theorem dX11_goesBack_88 : decode cX11_goesBack 88 = .ok (.bipush (-4), 2) := by decide +kernel
theorem dX11_goesBack_90 : decode cX11_goesBack 90 = .ok (.invokevirtual 201, 3) := by decide +kernel
theorem dX11_goesBack_93 : decode cX11_goesBack 93 = .ok (.return_, 1) := by decide +kernel
theorem dX11_pieceFrom_0 : decode cX11_pieceFrom 0 = .ok (.iload_n 2, 1) := by decide +kernel
theorem dX11_pieceFrom_1 : decode cX11_pieceFrom 1 = .ok (.istore_n 3, 1) := by decide +kernel
theorem dX11_pieceFrom_2 : decode cX11_pieceFrom 2 = .ok (.iload_n 3, 1) := by decide +kernel
theorem dX11_pieceFrom_3 : decode cX11_pieceFrom 3 = .ok (.aload_n 0, 1) := by decide +kernel
theorem dX11_pieceFrom_4 : decode cX11_pieceFrom 4 = .ok (.getfield 19, 3) := by decide +kernel
theorem dX11_pieceFrom_7 : decode cX11_pieceFrom 7 = .ok (.iconst 0, 1) := by decide +kernel
theorem dX11_pieceFrom_8 : decode cX11_pieceFrom 8 = .ok (.iaload, 1) := by decide +kernel
theorem dX11_pieceFrom_9 : decode cX11_pieceFrom 9 = .ok (.if_icmp .ge 28, 3) := by decide +kernel
theorem dX11_pieceFrom_12 : decode cX11_pieceFrom 12 = .ok (.aload_n 0, 1) := by decide +kernel
theorem dX11_pieceFrom_13 : decode cX11_pieceFrom 13 = .ok (.getfield 19, 3) := by decide +kernel
theorem dX11_pieceFrom_16 : decode cX11_pieceFrom 16 = .ok (.bipush 30, 2) := by decide +kernel
theorem dX11_pieceFrom_18 : decode cX11_pieceFrom 18 = .ok (.bipush 8, 2) := by decide +kernel
theorem dX11_pieceFrom_20 : decode cX11_pieceFrom 20 = .ok (.iload_n 1, 1) := by decide +kernel
theorem dX11_pieceFrom_21 : decode cX11_pieceFrom 21 = .ok (.imul, 1) := by decide +kernel
theorem dX11_pieceFrom_22 : decode cX11_pieceFrom 22 = .ok (.iadd, 1) := by decide +kernel
theorem dX11_pieceFrom_23 : decode cX11_pieceFrom 23 = .ok (.iload_n 3, 1) := by decide +kernel
theorem dX11_pieceFrom_24 : decode cX11_pieceFrom 24 = .ok (.iadd, 1) := by decide +kernel
theorem dX11_pieceFrom_25 : decode cX11_pieceFrom 25 = .ok (.iaload, 1) := by decide +kernel
theorem dX11_pieceFrom_26 : decode cX11_pieceFrom 26 = .ok (.ifCond .le 5, 3) := by decide +kernel
theorem dX11_pieceFrom_29 : decode cX11_pieceFrom 29 = .ok (.iload_n 3, 1) := by decide +kernel
theorem dX11_pieceFrom_30 : decode cX11_pieceFrom 30 = .ok (.ireturn, 1) := by decide +kernel
theorem dX11_pieceFrom_31 : decode cX11_pieceFrom 31 = .ok (.iinc 3 1, 3) := by decide +kernel
theorem dX11_pieceFrom_34 : decode cX11_pieceFrom 34 = .ok (.goto (-32), 3) := by decide +kernel
theorem dX11_pieceFrom_37 : decode cX11_pieceFrom 37 = .ok (.bipush (-4), 2) := by decide +kernel
theorem dX11_pieceFrom_39 : decode cX11_pieceFrom 39 = .ok (.ireturn, 1) := by decide +kernel
theorem dX11_endsUnit_0 : decode cX11_endsUnit 0 = .ok (.aload_n 0, 1) := by decide +kernel
theorem dX11_endsUnit_1 : decode cX11_endsUnit 1 = .ok (.iload_n 1, 1) := by decide +kernel
theorem dX11_endsUnit_2 : decode cX11_endsUnit 2 = .ok (.iload_n 2, 1) := by decide +kernel
theorem dX11_endsUnit_3 : decode cX11_endsUnit 3 = .ok (.iconst 2, 1) := by decide +kernel
theorem dX11_endsUnit_4 : decode cX11_endsUnit 4 = .ok (.invokevirtual 195, 3) := by decide +kernel
theorem dX11_endsUnit_7 : decode cX11_endsUnit 7 = .ok (.istore_n 3, 1) := by decide +kernel
theorem dX11_endsUnit_8 : decode cX11_endsUnit 8 = .ok (.aload_n 0, 1) := by decide +kernel
theorem dX11_endsUnit_9 : decode cX11_endsUnit 9 = .ok (.iload_n 1, 1) := by decide +kernel
theorem dX11_endsUnit_10 : decode cX11_endsUnit 10 = .ok (.iload_n 2, 1) := by decide +kernel
theorem dX11_endsUnit_11 : decode cX11_endsUnit 11 = .ok (.iconst 4, 1) := by decide +kernel
theorem dX11_endsUnit_12 : decode cX11_endsUnit 12 = .ok (.invokevirtual 195, 3) := by decide +kernel
theorem dX11_endsUnit_15 : decode cX11_endsUnit 15 = .ok (.istore 4, 2) := by decide +kernel
theorem dX11_endsUnit_17 : decode cX11_endsUnit 17 = .ok (.aload_n 0, 1) := by decide +kernel
theorem dX11_endsUnit_18 : decode cX11_endsUnit 18 = .ok (.getfield 25, 3) := by decide +kernel
theorem dX11_endsUnit_21 : decode cX11_endsUnit 21 = .ok (.aload_n 0, 1) := by decide +kernel
theorem dX11_endsUnit_22 : decode cX11_endsUnit 22 = .ok (.iload_n 1, 1) := by decide +kernel
theorem dX11_endsUnit_23 : decode cX11_endsUnit 23 = .ok (.aload_n 0, 1) := by decide +kernel
theorem dX11_endsUnit_24 : decode cX11_endsUnit 24 = .ok (.getfield 32, 3) := by decide +kernel
theorem dX11_endsUnit_27 : decode cX11_endsUnit 27 = .ok (.iload_n 2, 1) := by decide +kernel
theorem dX11_endsUnit_28 : decode cX11_endsUnit 28 = .ok (.iaload, 1) := by decide +kernel
theorem dX11_endsUnit_29 : decode cX11_endsUnit 29 = .ok (.iload_n 3, 1) := by decide +kernel
theorem dX11_endsUnit_30 : decode cX11_endsUnit 30 = .ok (.invokevirtual 185, 3) := by decide +kernel
theorem dX11_endsUnit_33 : decode cX11_endsUnit 33 = .ok (.dup2, 1) := by decide +kernel
theorem dX11_endsUnit_34 : decode cX11_endsUnit 34 = .ok (.iaload, 1) := by decide +kernel
theorem dX11_endsUnit_35 : decode cX11_endsUnit 35 = .ok (.iconst 1, 1) := by decide +kernel
theorem dX11_endsUnit_36 : decode cX11_endsUnit 36 = .ok (.iadd, 1) := by decide +kernel
theorem dX11_endsUnit_37 : decode cX11_endsUnit 37 = .ok (.iastore, 1) := by decide +kernel
theorem dX11_endsUnit_38 : decode cX11_endsUnit 38 = .ok (.aload_n 0, 1) := by decide +kernel
theorem dX11_endsUnit_39 : decode cX11_endsUnit 39 = .ok (.iload_n 1, 1) := by decide +kernel
theorem dX11_endsUnit_40 : decode cX11_endsUnit 40 = .ok (.iload_n 2, 1) := by decide +kernel
theorem dX11_endsUnit_41 : decode cX11_endsUnit 41 = .ok (.iconst 3, 1) := by decide +kernel
theorem dX11_endsUnit_42 : decode cX11_endsUnit 42 = .ok (.aload_n 0, 1) := by decide +kernel
theorem dX11_endsUnit_43 : decode cX11_endsUnit 43 = .ok (.iload_n 1, 1) := by decide +kernel
theorem dX11_endsUnit_44 : decode cX11_endsUnit 44 = .ok (.iload_n 2, 1) := by decide +kernel
theorem dX11_endsUnit_45 : decode cX11_endsUnit 45 = .ok (.iconst 3, 1) := by decide +kernel
theorem dX11_endsUnit_46 : decode cX11_endsUnit 46 = .ok (.invokevirtual 195, 3) := by decide +kernel
theorem dX11_endsUnit_49 : decode cX11_endsUnit 49 = .ok (.iconst 1, 1) := by decide +kernel
theorem dX11_endsUnit_50 : decode cX11_endsUnit 50 = .ok (.iadd, 1) := by decide +kernel
theorem dX11_endsUnit_51 : decode cX11_endsUnit 51 = .ok (.invokevirtual 201, 3) := by decide +kernel
theorem dX11_endsUnit_54 : decode cX11_endsUnit 54 = .ok (.aload_n 0, 1) := by decide +kernel
theorem dX11_endsUnit_55 : decode cX11_endsUnit 55 = .ok (.iload_n 1, 1) := by decide +kernel
theorem dX11_endsUnit_56 : decode cX11_endsUnit 56 = .ok (.iload_n 2, 1) := by decide +kernel
theorem dX11_endsUnit_57 : decode cX11_endsUnit 57 = .ok (.iconst 0, 1) := by decide +kernel
theorem dX11_endsUnit_58 : decode cX11_endsUnit 58 = .ok (.iconst 2, 1) := by decide +kernel
theorem dX11_endsUnit_59 : decode cX11_endsUnit 59 = .ok (.invokevirtual 201, 3) := by decide +kernel
theorem dX11_endsUnit_62 : decode cX11_endsUnit 62 = .ok (.aload_n 0, 1) := by decide +kernel
theorem dX11_endsUnit_63 : decode cX11_endsUnit 63 = .ok (.iload_n 1, 1) := by decide +kernel
theorem dX11_endsUnit_64 : decode cX11_endsUnit 64 = .ok (.iload_n 2, 1) := by decide +kernel
theorem dX11_endsUnit_65 : decode cX11_endsUnit 65 = .ok (.iconst 3, 1) := by decide +kernel
theorem dX11_endsUnit_66 : decode cX11_endsUnit 66 = .ok (.invokevirtual 195, 3) := by decide +kernel
theorem dX11_endsUnit_69 : decode cX11_endsUnit 69 = .ok (.aload_n 0, 1) := by decide +kernel
theorem dX11_endsUnit_70 : decode cX11_endsUnit 70 = .ok (.getfield 19, 3) := by decide +kernel
theorem dX11_endsUnit_73 : decode cX11_endsUnit 73 = .ok (.bipush 30, 2) := by decide +kernel
theorem dX11_endsUnit_75 : decode cX11_endsUnit 75 = .ok (.bipush 8, 2) := by decide +kernel
theorem dX11_endsUnit_77 : decode cX11_endsUnit 77 = .ok (.iload 4, 2) := by decide +kernel
theorem dX11_endsUnit_79 : decode cX11_endsUnit 79 = .ok (.imul, 1) := by decide +kernel
theorem dX11_endsUnit_80 : decode cX11_endsUnit 80 = .ok (.iadd, 1) := by decide +kernel
theorem dX11_endsUnit_81 : decode cX11_endsUnit 81 = .ok (.iload_n 3, 1) := by decide +kernel
theorem dX11_endsUnit_82 : decode cX11_endsUnit 82 = .ok (.iadd, 1) := by decide +kernel
theorem dX11_endsUnit_83 : decode cX11_endsUnit 83 = .ok (.iaload, 1) := by decide +kernel
theorem dX11_endsUnit_84 : decode cX11_endsUnit 84 = .ok (.if_icmp .ne 60, 3) := by decide +kernel
theorem dX11_endsUnit_87 : decode cX11_endsUnit 87 = .ok (.aload_n 0, 1) := by decide +kernel
theorem dX11_endsUnit_88 : decode cX11_endsUnit 88 = .ok (.iload 4, 2) := by decide +kernel
theorem dX11_endsUnit_90 : decode cX11_endsUnit 90 = .ok (.iload_n 3, 1) := by decide +kernel
theorem dX11_endsUnit_91 : decode cX11_endsUnit 91 = .ok (.iconst 1, 1) := by decide +kernel
theorem dX11_endsUnit_92 : decode cX11_endsUnit 92 = .ok (.iadd, 1) := by decide +kernel
theorem dX11_endsUnit_93 : decode cX11_endsUnit 93 = .ok (.invokevirtual 204, 3) := by decide +kernel
theorem dX11_endsUnit_96 : decode cX11_endsUnit 96 = .ok (.istore 5, 2) := by decide +kernel
theorem dX11_endsUnit_98 : decode cX11_endsUnit 98 = .ok (.iload 5, 2) := by decide +kernel
theorem dX11_endsUnit_100 : decode cX11_endsUnit 100 = .ok (.bipush (-4), 2) := by decide +kernel
theorem dX11_endsUnit_102 : decode cX11_endsUnit 102 = .ok (.if_icmp .ne 25, 3) := by decide +kernel
theorem dX11_endsUnit_105 : decode cX11_endsUnit 105 = .ok (.aload_n 0, 1) := by decide +kernel
theorem dX11_endsUnit_106 : decode cX11_endsUnit 106 = .ok (.iload_n 1, 1) := by decide +kernel
theorem dX11_endsUnit_107 : decode cX11_endsUnit 107 = .ok (.iconst 1, 1) := by decide +kernel
theorem dX11_endsUnit_108 : decode cX11_endsUnit 108 = .ok (.iconst 1, 1) := by decide +kernel
theorem dX11_endsUnit_109 : decode cX11_endsUnit 109 = .ok (.invokevirtual 207, 3) := by decide +kernel
theorem dX11_endsUnit_112 : decode cX11_endsUnit 112 = .ok (.aload_n 0, 1) := by decide +kernel
theorem dX11_endsUnit_113 : decode cX11_endsUnit 113 = .ok (.iload_n 1, 1) := by decide +kernel
theorem dX11_endsUnit_114 : decode cX11_endsUnit 114 = .ok (.iload_n 2, 1) := by decide +kernel
theorem dX11_endsUnit_115 : decode cX11_endsUnit 115 = .ok (.aload_n 0, 1) := by decide +kernel
theorem dX11_endsUnit_116 : decode cX11_endsUnit 116 = .ok (.getfield 19, 3) := by decide +kernel
theorem dX11_endsUnit_119 : decode cX11_endsUnit 119 = .ok (.iconst 0, 1) := by decide +kernel
theorem dX11_endsUnit_120 : decode cX11_endsUnit 120 = .ok (.iaload, 1) := by decide +kernel
theorem dX11_endsUnit_121 : decode cX11_endsUnit 121 = .ok (.invokevirtual 211, 3) := by decide +kernel
theorem dX11_endsUnit_124 : decode cX11_endsUnit 124 = .ok (.goto 20, 3) := by decide +kernel
theorem dX11_endsUnit_127 : decode cX11_endsUnit 127 = .ok (.aload_n 0, 1) := by decide +kernel
theorem dX11_endsUnit_128 : decode cX11_endsUnit 128 = .ok (.iload_n 1, 1) := by decide +kernel
theorem dX11_endsUnit_129 : decode cX11_endsUnit 129 = .ok (.iload_n 2, 1) := by decide +kernel
theorem dX11_endsUnit_130 : decode cX11_endsUnit 130 = .ok (.iconst 2, 1) := by decide +kernel
theorem dX11_endsUnit_131 : decode cX11_endsUnit 131 = .ok (.iload 5, 2) := by decide +kernel
theorem dX11_endsUnit_133 : decode cX11_endsUnit 133 = .ok (.invokevirtual 201, 3) := by decide +kernel
theorem dX11_endsUnit_136 : decode cX11_endsUnit 136 = .ok (.aload_n 0, 1) := by decide +kernel
theorem dX11_endsUnit_137 : decode cX11_endsUnit 137 = .ok (.iload_n 1, 1) := by decide +kernel
theorem dX11_endsUnit_138 : decode cX11_endsUnit 138 = .ok (.iload_n 2, 1) := by decide +kernel
theorem dX11_endsUnit_139 : decode cX11_endsUnit 139 = .ok (.iconst 3, 1) := by decide +kernel
theorem dX11_endsUnit_140 : decode cX11_endsUnit 140 = .ok (.iconst 0, 1) := by decide +kernel
theorem dX11_endsUnit_141 : decode cX11_endsUnit 141 = .ok (.invokevirtual 201, 3) := by decide +kernel
theorem dX11_endsUnit_144 : decode cX11_endsUnit 144 = .ok (.return_, 1) := by decide +kernel
theorem dX11_canBeLeft_0 : decode cX11_canBeLeft 0 = .ok (.aload_n 0, 1) := by decide +kernel
theorem dX11_canBeLeft_1 : decode cX11_canBeLeft 1 = .ok (.iload_n 1, 1) := by decide +kernel
theorem dX11_canBeLeft_2 : decode cX11_canBeLeft 2 = .ok (.iload_n 2, 1) := by decide +kernel
theorem dX11_canBeLeft_3 : decode cX11_canBeLeft 3 = .ok (.iconst 2, 1) := by decide +kernel
theorem dX11_canBeLeft_4 : decode cX11_canBeLeft 4 = .ok (.invokevirtual 195, 3) := by decide +kernel
theorem dX11_canBeLeft_7 : decode cX11_canBeLeft 7 = .ok (.istore_n 3, 1) := by decide +kernel
theorem dX11_canBeLeft_8 : decode cX11_canBeLeft 8 = .ok (.aload_n 0, 1) := by decide +kernel
theorem dX11_canBeLeft_9 : decode cX11_canBeLeft 9 = .ok (.getfield 19, 3) := by decide +kernel
theorem dX11_canBeLeft_12 : decode cX11_canBeLeft 12 = .ok (.iconst 5, 1) := by decide +kernel
theorem dX11_canBeLeft_13 : decode cX11_canBeLeft 13 = .ok (.iaload, 1) := by decide +kernel
theorem dX11_canBeLeft_14 : decode cX11_canBeLeft 14 = .ok (.iload_n 3, 1) := by decide +kernel
theorem dX11_canBeLeft_15 : decode cX11_canBeLeft 15 = .ok (.ishr, 1) := by decide +kernel
theorem dX11_canBeLeft_16 : decode cX11_canBeLeft 16 = .ok (.iconst 1, 1) := by decide +kernel
theorem dX11_canBeLeft_17 : decode cX11_canBeLeft 17 = .ok (.iand, 1) := by decide +kernel
theorem dX11_canBeLeft_18 : decode cX11_canBeLeft 18 = .ok (.iconst 1, 1) := by decide +kernel
theorem dX11_canBeLeft_19 : decode cX11_canBeLeft 19 = .ok (.if_icmp .ne 17, 3) := by decide +kernel
theorem dX11_canBeLeft_22 : decode cX11_canBeLeft 22 = .ok (.aload_n 0, 1) := by decide +kernel
theorem dX11_canBeLeft_23 : decode cX11_canBeLeft 23 = .ok (.iload_n 1, 1) := by decide +kernel
theorem dX11_canBeLeft_24 : decode cX11_canBeLeft 24 = .ok (.iload_n 2, 1) := by decide +kernel
theorem dX11_canBeLeft_25 : decode cX11_canBeLeft 25 = .ok (.iconst 3, 1) := by decide +kernel
theorem dX11_canBeLeft_26 : decode cX11_canBeLeft 26 = .ok (.invokevirtual 195, 3) := by decide +kernel
theorem dX11_canBeLeft_29 : decode cX11_canBeLeft 29 = .ok (.ifCond .le 7, 3) := by decide +kernel
theorem dX11_canBeLeft_32 : decode cX11_canBeLeft 32 = .ok (.iconst 1, 1) := by decide +kernel
theorem dX11_canBeLeft_33 : decode cX11_canBeLeft 33 = .ok (.goto 4, 3) := by decide +kernel
theorem dX11_canBeLeft_36 : decode cX11_canBeLeft 36 = .ok (.iconst 0, 1) := by decide +kernel
theorem dX11_canBeLeft_37 : decode cX11_canBeLeft 37 = .ok (.istore 4, 2) := by decide +kernel
theorem dX11_canBeLeft_39 : decode cX11_canBeLeft 39 = .ok (.iload 4, 2) := by decide +kernel
theorem dX11_canBeLeft_41 : decode cX11_canBeLeft 41 = .ok (.ifCond .ne 25, 3) := by decide +kernel
theorem dX11_canBeLeft_44 : decode cX11_canBeLeft 44 = .ok (.aload_n 0, 1) := by decide +kernel
theorem dX11_canBeLeft_45 : decode cX11_canBeLeft 45 = .ok (.getfield 192, 3) := by decide +kernel
theorem dX11_canBeLeft_48 : decode cX11_canBeLeft 48 = .ok (.iconst 2, 1) := by decide +kernel
theorem dX11_canBeLeft_49 : decode cX11_canBeLeft 49 = .ok (.if_icmp .ne 13, 3) := by decide +kernel
theorem dX11_canBeLeft_52 : decode cX11_canBeLeft 52 = .ok (.iload_n 3, 1) := by decide +kernel
theorem dX11_canBeLeft_53 : decode cX11_canBeLeft 53 = .ok (.aload_n 0, 1) := by decide +kernel
theorem dX11_canBeLeft_54 : decode cX11_canBeLeft 54 = .ok (.getfield 35, 3) := by decide +kernel
theorem dX11_canBeLeft_57 : decode cX11_canBeLeft 57 = .ok (.iload_n 2, 1) := by decide +kernel
theorem dX11_canBeLeft_58 : decode cX11_canBeLeft 58 = .ok (.iaload, 1) := by decide +kernel
theorem dX11_canBeLeft_59 : decode cX11_canBeLeft 59 = .ok (.if_icmp .lt 7, 3) := by decide +kernel
theorem dX11_canBeLeft_62 : decode cX11_canBeLeft 62 = .ok (.iconst 1, 1) := by decide +kernel
theorem dX11_canBeLeft_63 : decode cX11_canBeLeft 63 = .ok (.goto 4, 3) := by decide +kernel
theorem dX11_canBeLeft_66 : decode cX11_canBeLeft 66 = .ok (.iconst 0, 1) := by decide +kernel
theorem dX11_canBeLeft_67 : decode cX11_canBeLeft 67 = .ok (.ireturn, 1) := by decide +kernel
theorem dX11_takesOver_0 : decode cX11_takesOver 0 = .ok (.aload_n 0, 1) := by decide +kernel
theorem dX11_takesOver_1 : decode cX11_takesOver 1 = .ok (.iload_n 1, 1) := by decide +kernel
theorem dX11_takesOver_2 : decode cX11_takesOver 2 = .ok (.iload_n 2, 1) := by decide +kernel
theorem dX11_takesOver_3 : decode cX11_takesOver 3 = .ok (.iconst 1, 1) := by decide +kernel
theorem dX11_takesOver_4 : decode cX11_takesOver 4 = .ok (.isub, 1) := by decide +kernel
theorem dX11_takesOver_5 : decode cX11_takesOver 5 = .ok (.iconst 0, 1) := by decide +kernel
theorem dX11_takesOver_6 : decode cX11_takesOver 6 = .ok (.invokevirtual 195, 3) := by decide +kernel
theorem dX11_takesOver_9 : decode cX11_takesOver 9 = .ok (.iconst 2, 1) := by decide +kernel
theorem dX11_takesOver_10 : decode cX11_takesOver 10 = .ok (.if_icmp .ne 14, 3) := by decide +kernel
theorem dX11_takesOver_13 : decode cX11_takesOver 13 = .ok (.aload_n 0, 1) := by decide +kernel
theorem dX11_takesOver_14 : decode cX11_takesOver 14 = .ok (.iload_n 1, 1) := by decide +kernel
theorem dX11_takesOver_15 : decode cX11_takesOver 15 = .ok (.iload_n 2, 1) := by decide +kernel
theorem dX11_takesOver_16 : decode cX11_takesOver 16 = .ok (.iconst 1, 1) := by decide +kernel
theorem dX11_takesOver_17 : decode cX11_takesOver 17 = .ok (.isub, 1) := by decide +kernel
theorem dX11_takesOver_18 : decode cX11_takesOver 18 = .ok (.invokevirtual 214, 3) := by decide +kernel
theorem dX11_takesOver_21 : decode cX11_takesOver 21 = .ok (.ifCond .ne 5, 3) := by decide +kernel
theorem dX11_takesOver_24 : decode cX11_takesOver 24 = .ok (.iconst 0, 1) := by decide +kernel
theorem dX11_takesOver_25 : decode cX11_takesOver 25 = .ok (.ireturn, 1) := by decide +kernel
theorem dX11_takesOver_26 : decode cX11_takesOver 26 = .ok (.aload_n 0, 1) := by decide +kernel
theorem dX11_takesOver_27 : decode cX11_takesOver 27 = .ok (.iload_n 1, 1) := by decide +kernel
theorem dX11_takesOver_28 : decode cX11_takesOver 28 = .ok (.iload_n 2, 1) := by decide +kernel
theorem dX11_takesOver_29 : decode cX11_takesOver 29 = .ok (.iconst 1, 1) := by decide +kernel
theorem dX11_takesOver_30 : decode cX11_takesOver 30 = .ok (.isub, 1) := by decide +kernel
theorem dX11_takesOver_31 : decode cX11_takesOver 31 = .ok (.iconst 2, 1) := by decide +kernel
theorem dX11_takesOver_32 : decode cX11_takesOver 32 = .ok (.invokevirtual 195, 3) := by decide +kernel
theorem dX11_takesOver_35 : decode cX11_takesOver 35 = .ok (.istore_n 3, 1) := by decide +kernel
theorem dX11_takesOver_36 : decode cX11_takesOver 36 = .ok (.aload_n 0, 1) := by decide +kernel
theorem dX11_takesOver_37 : decode cX11_takesOver 37 = .ok (.iload_n 1, 1) := by decide +kernel
theorem dX11_takesOver_38 : decode cX11_takesOver 38 = .ok (.iload_n 2, 1) := by decide +kernel
theorem dX11_takesOver_39 : decode cX11_takesOver 39 = .ok (.iconst 0, 1) := by decide +kernel
theorem dX11_takesOver_40 : decode cX11_takesOver 40 = .ok (.iconst 2, 1) := by decide +kernel
theorem dX11_takesOver_41 : decode cX11_takesOver 41 = .ok (.invokevirtual 201, 3) := by decide +kernel
theorem dX11_takesOver_44 : decode cX11_takesOver 44 = .ok (.aload_n 0, 1) := by decide +kernel
theorem dX11_takesOver_45 : decode cX11_takesOver 45 = .ok (.iload_n 1, 1) := by decide +kernel
theorem dX11_takesOver_46 : decode cX11_takesOver 46 = .ok (.iload_n 2, 1) := by decide +kernel
theorem dX11_takesOver_47 : decode cX11_takesOver 47 = .ok (.iconst 2, 1) := by decide +kernel
theorem dX11_takesOver_48 : decode cX11_takesOver 48 = .ok (.iload_n 3, 1) := by decide +kernel
theorem dX11_takesOver_49 : decode cX11_takesOver 49 = .ok (.invokevirtual 201, 3) := by decide +kernel
theorem dX11_takesOver_52 : decode cX11_takesOver 52 = .ok (.aload_n 0, 1) := by decide +kernel
theorem dX11_takesOver_53 : decode cX11_takesOver 53 = .ok (.iload_n 1, 1) := by decide +kernel
theorem dX11_takesOver_54 : decode cX11_takesOver 54 = .ok (.iload_n 2, 1) := by decide +kernel
theorem dX11_takesOver_55 : decode cX11_takesOver 55 = .ok (.iconst 3, 1) := by decide +kernel
theorem dX11_takesOver_56 : decode cX11_takesOver 56 = .ok (.aload_n 0, 1) := by decide +kernel
theorem dX11_takesOver_57 : decode cX11_takesOver 57 = .ok (.iload_n 1, 1) := by decide +kernel
theorem dX11_takesOver_58 : decode cX11_takesOver 58 = .ok (.iload_n 2, 1) := by decide +kernel
theorem dX11_takesOver_59 : decode cX11_takesOver 59 = .ok (.iconst 1, 1) := by decide +kernel
theorem dX11_takesOver_60 : decode cX11_takesOver 60 = .ok (.isub, 1) := by decide +kernel
theorem dX11_takesOver_61 : decode cX11_takesOver 61 = .ok (.iconst 3, 1) := by decide +kernel
theorem dX11_takesOver_62 : decode cX11_takesOver 62 = .ok (.invokevirtual 195, 3) := by decide +kernel
theorem dX11_takesOver_65 : decode cX11_takesOver 65 = .ok (.invokevirtual 201, 3) := by decide +kernel
theorem dX11_takesOver_68 : decode cX11_takesOver 68 = .ok (.aload_n 0, 1) := by decide +kernel
theorem dX11_takesOver_69 : decode cX11_takesOver 69 = .ok (.iload_n 1, 1) := by decide +kernel
theorem dX11_takesOver_70 : decode cX11_takesOver 70 = .ok (.iload_n 2, 1) := by decide +kernel
theorem dX11_takesOver_71 : decode cX11_takesOver 71 = .ok (.iconst 4, 1) := by decide +kernel
theorem dX11_takesOver_72 : decode cX11_takesOver 72 = .ok (.aload_n 0, 1) := by decide +kernel
theorem dX11_takesOver_73 : decode cX11_takesOver 73 = .ok (.iload_n 1, 1) := by decide +kernel
theorem dX11_takesOver_74 : decode cX11_takesOver 74 = .ok (.iload_n 2, 1) := by decide +kernel
theorem dX11_takesOver_75 : decode cX11_takesOver 75 = .ok (.iconst 1, 1) := by decide +kernel
theorem dX11_takesOver_76 : decode cX11_takesOver 76 = .ok (.isub, 1) := by decide +kernel
theorem dX11_takesOver_77 : decode cX11_takesOver 77 = .ok (.iconst 4, 1) := by decide +kernel
theorem dX11_takesOver_78 : decode cX11_takesOver 78 = .ok (.invokevirtual 195, 3) := by decide +kernel
theorem dX11_takesOver_81 : decode cX11_takesOver 81 = .ok (.invokevirtual 201, 3) := by decide +kernel
theorem dX11_takesOver_84 : decode cX11_takesOver 84 = .ok (.aload_n 0, 1) := by decide +kernel
theorem dX11_takesOver_85 : decode cX11_takesOver 85 = .ok (.iload_n 1, 1) := by decide +kernel
theorem dX11_takesOver_86 : decode cX11_takesOver 86 = .ok (.iconst 2, 1) := by decide +kernel
theorem dX11_takesOver_87 : decode cX11_takesOver 87 = .ok (.invokevirtual 218, 3) := by decide +kernel
theorem dX11_takesOver_90 : decode cX11_takesOver 90 = .ok (.istore 4, 2) := by decide +kernel
theorem dX11_takesOver_92 : decode cX11_takesOver 92 = .ok (.iload_n 1, 1) := by decide +kernel
theorem dX11_takesOver_93 : decode cX11_takesOver 93 = .ok (.iconst 1, 1) := by decide +kernel
theorem dX11_takesOver_94 : decode cX11_takesOver 94 = .ok (.if_icmp .ne 86, 3) := by decide +kernel
theorem dX11_takesOver_97 : decode cX11_takesOver 97 = .ok (.iload 4, 2) := by decide +kernel
theorem dX11_takesOver_99 : decode cX11_takesOver 99 = .ok (.sipush 600, 3) := by decide +kernel
theorem dX11_takesOver_102 : decode cX11_takesOver 102 = .ok (.if_icmp .ge 78, 3) := by decide +kernel
theorem dX11_takesOver_105 : decode cX11_takesOver 105 = .ok (.aload_n 0, 1) := by decide +kernel
theorem dX11_takesOver_106 : decode cX11_takesOver 106 = .ok (.getfield 38, 3) := by decide +kernel
theorem dX11_takesOver_109 : decode cX11_takesOver 109 = .ok (.iconst 5, 1) := by decide +kernel
theorem dX11_takesOver_110 : decode cX11_takesOver 110 = .ok (.iload 4, 2) := by decide +kernel
theorem dX11_takesOver_112 : decode cX11_takesOver 112 = .ok (.imul, 1) := by decide +kernel
theorem dX11_takesOver_113 : decode cX11_takesOver 113 = .ok (.aload_n 0, 1) := by decide +kernel
theorem dX11_takesOver_114 : decode cX11_takesOver 114 = .ok (.iload_n 1, 1) := by decide +kernel
theorem dX11_takesOver_115 : decode cX11_takesOver 115 = .ok (.iconst 0, 1) := by decide +kernel
theorem dX11_takesOver_116 : decode cX11_takesOver 116 = .ok (.invokevirtual 218, 3) := by decide +kernel
theorem dX11_takesOver_119 : decode cX11_takesOver 119 = .ok (.iastore, 1) := by decide +kernel
theorem dX11_takesOver_120 : decode cX11_takesOver 120 = .ok (.aload_n 0, 1) := by decide +kernel
theorem dX11_takesOver_121 : decode cX11_takesOver 121 = .ok (.getfield 38, 3) := by decide +kernel
theorem dX11_takesOver_124 : decode cX11_takesOver 124 = .ok (.iconst 5, 1) := by decide +kernel
theorem dX11_takesOver_125 : decode cX11_takesOver 125 = .ok (.iload 4, 2) := by decide +kernel
theorem dX11_takesOver_127 : decode cX11_takesOver 127 = .ok (.imul, 1) := by decide +kernel
theorem dX11_takesOver_128 : decode cX11_takesOver 128 = .ok (.iconst 1, 1) := by decide +kernel
theorem dX11_takesOver_129 : decode cX11_takesOver 129 = .ok (.iadd, 1) := by decide +kernel
theorem dX11_takesOver_130 : decode cX11_takesOver 130 = .ok (.iload_n 2, 1) := by decide +kernel
theorem dX11_takesOver_131 : decode cX11_takesOver 131 = .ok (.iastore, 1) := by decide +kernel
theorem dX11_takesOver_132 : decode cX11_takesOver 132 = .ok (.aload_n 0, 1) := by decide +kernel
theorem dX11_takesOver_133 : decode cX11_takesOver 133 = .ok (.getfield 38, 3) := by decide +kernel
theorem dX11_takesOver_136 : decode cX11_takesOver 136 = .ok (.iconst 5, 1) := by decide +kernel
theorem dX11_takesOver_137 : decode cX11_takesOver 137 = .ok (.iload 4, 2) := by decide +kernel
theorem dX11_takesOver_139 : decode cX11_takesOver 139 = .ok (.imul, 1) := by decide +kernel
theorem dX11_takesOver_140 : decode cX11_takesOver 140 = .ok (.iconst 2, 1) := by decide +kernel
theorem dX11_takesOver_141 : decode cX11_takesOver 141 = .ok (.iadd, 1) := by decide +kernel
theorem dX11_takesOver_142 : decode cX11_takesOver 142 = .ok (.iload_n 3, 1) := by decide +kernel
theorem dX11_takesOver_143 : decode cX11_takesOver 143 = .ok (.iastore, 1) := by decide +kernel
theorem dX11_takesOver_144 : decode cX11_takesOver 144 = .ok (.aload_n 0, 1) := by decide +kernel
theorem dX11_takesOver_145 : decode cX11_takesOver 145 = .ok (.getfield 38, 3) := by decide +kernel
theorem dX11_takesOver_148 : decode cX11_takesOver 148 = .ok (.iconst 5, 1) := by decide +kernel
theorem dX11_takesOver_149 : decode cX11_takesOver 149 = .ok (.iload 4, 2) := by decide +kernel
theorem dX11_takesOver_151 : decode cX11_takesOver 151 = .ok (.imul, 1) := by decide +kernel
theorem dX11_takesOver_152 : decode cX11_takesOver 152 = .ok (.iconst 3, 1) := by decide +kernel
theorem dX11_takesOver_153 : decode cX11_takesOver 153 = .ok (.iadd, 1) := by decide +kernel
theorem dX11_takesOver_154 : decode cX11_takesOver 154 = .ok (.aload_n 0, 1) := by decide +kernel
theorem dX11_takesOver_155 : decode cX11_takesOver 155 = .ok (.iload_n 1, 1) := by decide +kernel
theorem dX11_takesOver_156 : decode cX11_takesOver 156 = .ok (.iload_n 2, 1) := by decide +kernel
theorem dX11_takesOver_157 : decode cX11_takesOver 157 = .ok (.iconst 3, 1) := by decide +kernel
theorem dX11_takesOver_158 : decode cX11_takesOver 158 = .ok (.invokevirtual 195, 3) := by decide +kernel
theorem dX11_takesOver_161 : decode cX11_takesOver 161 = .ok (.iastore, 1) := by decide +kernel
theorem dX11_takesOver_162 : decode cX11_takesOver 162 = .ok (.aload_n 0, 1) := by decide +kernel
theorem dX11_takesOver_163 : decode cX11_takesOver 163 = .ok (.getfield 38, 3) := by decide +kernel
theorem dX11_takesOver_166 : decode cX11_takesOver 166 = .ok (.iconst 5, 1) := by decide +kernel
theorem dX11_takesOver_167 : decode cX11_takesOver 167 = .ok (.iload 4, 2) := by decide +kernel
theorem dX11_takesOver_169 : decode cX11_takesOver 169 = .ok (.imul, 1) := by decide +kernel
theorem dX11_takesOver_170 : decode cX11_takesOver 170 = .ok (.iconst 4, 1) := by decide +kernel
theorem dX11_takesOver_171 : decode cX11_takesOver 171 = .ok (.iadd, 1) := by decide +kernel
theorem dX11_takesOver_172 : decode cX11_takesOver 172 = .ok (.aload_n 0, 1) := by decide +kernel
theorem dX11_takesOver_173 : decode cX11_takesOver 173 = .ok (.iload_n 1, 1) := by decide +kernel
theorem dX11_takesOver_174 : decode cX11_takesOver 174 = .ok (.iload_n 2, 1) := by decide +kernel
theorem dX11_takesOver_175 : decode cX11_takesOver 175 = .ok (.iconst 4, 1) := by decide +kernel
theorem dX11_takesOver_176 : decode cX11_takesOver 176 = .ok (.invokevirtual 195, 3) := by decide +kernel
theorem dX11_takesOver_179 : decode cX11_takesOver 179 = .ok (.iastore, 1) := by decide +kernel
theorem dX11_takesOver_180 : decode cX11_takesOver 180 = .ok (.aload_n 0, 1) := by decide +kernel
theorem dX11_takesOver_181 : decode cX11_takesOver 181 = .ok (.iload_n 1, 1) := by decide +kernel
theorem dX11_takesOver_182 : decode cX11_takesOver 182 = .ok (.iconst 2, 1) := by decide +kernel
theorem dX11_takesOver_183 : decode cX11_takesOver 183 = .ok (.iconst 1, 1) := by decide +kernel
theorem dX11_takesOver_184 : decode cX11_takesOver 184 = .ok (.invokevirtual 207, 3) := by decide +kernel
theorem dX11_takesOver_187 : decode cX11_takesOver 187 = .ok (.aload_n 0, 1) := by decide +kernel
theorem dX11_takesOver_188 : decode cX11_takesOver 188 = .ok (.iload_n 1, 1) := by decide +kernel
theorem dX11_takesOver_189 : decode cX11_takesOver 189 = .ok (.iload_n 2, 1) := by decide +kernel
theorem dX11_takesOver_190 : decode cX11_takesOver 190 = .ok (.iconst 1, 1) := by decide +kernel
theorem dX11_takesOver_191 : decode cX11_takesOver 191 = .ok (.isub, 1) := by decide +kernel
theorem dX11_takesOver_192 : decode cX11_takesOver 192 = .ok (.iload_n 3, 1) := by decide +kernel
theorem dX11_takesOver_193 : decode cX11_takesOver 193 = .ok (.invokevirtual 211, 3) := by decide +kernel
theorem dX11_takesOver_196 : decode cX11_takesOver 196 = .ok (.iconst 1, 1) := by decide +kernel
theorem dX11_takesOver_197 : decode cX11_takesOver 197 = .ok (.ireturn, 1) := by decide +kernel
theorem dX11_mayBegin_0 : decode cX11_mayBegin 0 = .ok (.aload_n 0, 1) := by decide +kernel
theorem dX11_mayBegin_1 : decode cX11_mayBegin 1 = .ok (.iload_n 1, 1) := by decide +kernel
theorem dX11_mayBegin_2 : decode cX11_mayBegin 2 = .ok (.iload_n 2, 1) := by decide +kernel
theorem dX11_mayBegin_3 : decode cX11_mayBegin 3 = .ok (.iconst 2, 1) := by decide +kernel
theorem dX11_mayBegin_4 : decode cX11_mayBegin 4 = .ok (.invokevirtual 195, 3) := by decide +kernel
theorem dX11_mayBegin_7 : decode cX11_mayBegin 7 = .ok (.istore_n 3, 1) := by decide +kernel
theorem dX11_mayBegin_8 : decode cX11_mayBegin 8 = .ok (.iload_n 2, 1) := by decide +kernel
theorem dX11_mayBegin_9 : decode cX11_mayBegin 9 = .ok (.aload_n 0, 1) := by decide +kernel
theorem dX11_mayBegin_10 : decode cX11_mayBegin 10 = .ok (.getfield 189, 3) := by decide +kernel
theorem dX11_mayBegin_13 : decode cX11_mayBegin 13 = .ok (.iconst 1, 1) := by decide +kernel
theorem dX11_mayBegin_14 : decode cX11_mayBegin 14 = .ok (.isub, 1) := by decide +kernel
theorem dX11_mayBegin_15 : decode cX11_mayBegin 15 = .ok (.if_icmp .ne 5, 3) := by decide +kernel
