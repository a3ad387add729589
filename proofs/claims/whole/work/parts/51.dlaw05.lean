theorem dL_824 : decode code 824 = .ok (.iconst 0, 1) := by decide +kernel
theorem dL_825 : decode code 825 = .ok (.ireturn, 1) := by decide +kernel
theorem dL_826 : decode code 826 = .ok (.aload_n 1, 1) := by decide +kernel
theorem dL_827 : decode code 827 = .ok (.invokevirtual 133, 3) := by decide +kernel
theorem dL_830 : decode code 830 = .ok (.aload_n 2, 1) := by decide +kernel
theorem dL_831 : decode code 831 = .ok (.invokevirtual 136, 3) := by decide +kernel
theorem dL_834 : decode code 834 = .ok (.if_icmp .eq 237, 3) := by decide +kernel
theorem dL_837 : decode code 837 = .ok (.iconst 0, 1) := by decide +kernel
theorem dL_838 : decode code 838 = .ok (.ireturn, 1) := by decide +kernel
theorem dL_839 : decode code 839 = .ok (.aload_n 1, 1) := by decide +kernel
theorem dL_840 : decode code 840 = .ok (.invokevirtual 137, 3) := by decide +kernel
theorem dL_843 : decode code 843 = .ok (.aload_n 2, 1) := by decide +kernel
theorem dL_844 : decode code 844 = .ok (.invokevirtual 140, 3) := by decide +kernel
theorem dL_847 : decode code 847 = .ok (.if_icmp .eq 224, 3) := by decide +kernel
theorem dL_850 : decode code 850 = .ok (.iconst 0, 1) := by decide +kernel
theorem dL_851 : decode code 851 = .ok (.ireturn, 1) := by decide +kernel
theorem dL_852 : decode code 852 = .ok (.aload_n 1, 1) := by decide +kernel
theorem dL_853 : decode code 853 = .ok (.aload_n 0, 1) := by decide +kernel
theorem dL_854 : decode code 854 = .ok (.iload 4, 2) := by decide +kernel
theorem dL_856 : decode code 856 = .ok (.iconst 1, 1) := by decide +kernel
theorem dL_857 : decode code 857 = .ok (.iadd, 1) := by decide +kernel
theorem dL_858 : decode code 858 = .ok (.iaload, 1) := by decide +kernel
theorem dL_859 : decode code 859 = .ok (.aload_n 0, 1) := by decide +kernel
theorem dL_860 : decode code 860 = .ok (.iload 4, 2) := by decide +kernel
theorem dL_862 : decode code 862 = .ok (.iconst 2, 1) := by decide +kernel
theorem dL_863 : decode code 863 = .ok (.iadd, 1) := by decide +kernel
theorem dL_864 : decode code 864 = .ok (.iaload, 1) := by decide +kernel
theorem dL_865 : decode code 865 = .ok (.aload_n 0, 1) := by decide +kernel
theorem dL_866 : decode code 866 = .ok (.iload 4, 2) := by decide +kernel
theorem dL_868 : decode code 868 = .ok (.iconst 3, 1) := by decide +kernel
theorem dL_869 : decode code 869 = .ok (.iadd, 1) := by decide +kernel
theorem dL_870 : decode code 870 = .ok (.iaload, 1) := by decide +kernel
theorem dL_871 : decode code 871 = .ok (.aload_n 0, 1) := by decide +kernel
theorem dL_872 : decode code 872 = .ok (.iload 4, 2) := by decide +kernel
theorem dL_874 : decode code 874 = .ok (.iconst 4, 1) := by decide +kernel
theorem dL_875 : decode code 875 = .ok (.iadd, 1) := by decide +kernel
theorem dL_876 : decode code 876 = .ok (.iaload, 1) := by decide +kernel
theorem dL_877 : decode code 877 = .ok (.aload_n 3, 1) := by decide +kernel
theorem dL_878 : decode code 878 = .ok (.invokestatic 141, 3) := by decide +kernel
theorem dL_881 : decode code 881 = .ok (.istore 5, 2) := by decide +kernel
theorem dL_883 : decode code 883 = .ok (.aload_n 2, 1) := by decide +kernel
theorem dL_884 : decode code 884 = .ok (.aload_n 0, 1) := by decide +kernel
theorem dL_885 : decode code 885 = .ok (.iload 4, 2) := by decide +kernel
theorem dL_887 : decode code 887 = .ok (.iconst 1, 1) := by decide +kernel
theorem dL_888 : decode code 888 = .ok (.iadd, 1) := by decide +kernel
theorem dL_889 : decode code 889 = .ok (.iaload, 1) := by decide +kernel
theorem dL_890 : decode code 890 = .ok (.aload_n 0, 1) := by decide +kernel
theorem dL_891 : decode code 891 = .ok (.iload 4, 2) := by decide +kernel
theorem dL_893 : decode code 893 = .ok (.iconst 2, 1) := by decide +kernel
theorem dL_894 : decode code 894 = .ok (.iadd, 1) := by decide +kernel
theorem dL_895 : decode code 895 = .ok (.iaload, 1) := by decide +kernel
theorem dL_896 : decode code 896 = .ok (.aload_n 0, 1) := by decide +kernel
theorem dL_897 : decode code 897 = .ok (.iload 4, 2) := by decide +kernel
theorem dL_899 : decode code 899 = .ok (.iconst 3, 1) := by decide +kernel
theorem dL_900 : decode code 900 = .ok (.iadd, 1) := by decide +kernel
theorem dL_901 : decode code 901 = .ok (.iaload, 1) := by decide +kernel
theorem dL_902 : decode code 902 = .ok (.aload_n 0, 1) := by decide +kernel
theorem dL_903 : decode code 903 = .ok (.iload 4, 2) := by decide +kernel
theorem dL_905 : decode code 905 = .ok (.iconst 4, 1) := by decide +kernel
theorem dL_906 : decode code 906 = .ok (.iadd, 1) := by decide +kernel
theorem dL_907 : decode code 907 = .ok (.iaload, 1) := by decide +kernel
theorem dL_908 : decode code 908 = .ok (.invokevirtual 144, 3) := by decide +kernel
theorem dL_911 : decode code 911 = .ok (.istore 6, 2) := by decide +kernel
theorem dL_913 : decode code 913 = .ok (.aload_n 2, 1) := by decide +kernel
theorem dL_914 : decode code 914 = .ok (.invokevirtual 96, 3) := by decide +kernel
theorem dL_917 : decode code 917 = .ok (.iload 5, 2) := by decide +kernel
theorem dL_919 : decode code 919 = .ok (.if_icmp .eq 5, 3) := by decide +kernel
theorem dL_922 : decode code 922 = .ok (.iconst 0, 1) := by decide +kernel
theorem dL_923 : decode code 923 = .ok (.ireturn, 1) := by decide +kernel
theorem dL_924 : decode code 924 = .ok (.iload 5, 2) := by decide +kernel
theorem dL_926 : decode code 926 = .ok (.ifCond .ne 15, 3) := by decide +kernel
theorem dL_929 : decode code 929 = .ok (.aload_n 3, 1) := by decide +kernel
theorem dL_930 : decode code 930 = .ok (.iconst 0, 1) := by decide +kernel
theorem dL_931 : decode code 931 = .ok (.laload, 1) := by decide +kernel
theorem dL_932 : decode code 932 = .ok (.iload 6, 2) := by decide +kernel
theorem dL_934 : decode code 934 = .ok (.i2l, 1) := by decide +kernel
theorem dL_935 : decode code 935 = .ok (.lcmp, 1) := by decide +kernel
theorem dL_936 : decode code 936 = .ok (.ifCond .eq 5, 3) := by decide +kernel
theorem dL_939 : decode code 939 = .ok (.iconst 0, 1) := by decide +kernel
theorem dL_940 : decode code 940 = .ok (.ireturn, 1) := by decide +kernel
theorem dL_941 : decode code 941 = .ok (.goto 130, 3) := by decide +kernel
theorem dL_944 : decode code 944 = .ok (.aload_n 1, 1) := by decide +kernel
theorem dL_945 : decode code 945 = .ok (.aload_n 0, 1) := by decide +kernel
theorem dL_946 : decode code 946 = .ok (.iload 4, 2) := by decide +kernel
theorem dL_948 : decode code 948 = .ok (.iconst 1, 1) := by decide +kernel
theorem dL_949 : decode code 949 = .ok (.iadd, 1) := by decide +kernel
theorem dL_950 : decode code 950 = .ok (.iaload, 1) := by decide +kernel
theorem dL_951 : decode code 951 = .ok (.aload_n 0, 1) := by decide +kernel
theorem dL_952 : decode code 952 = .ok (.iload 4, 2) := by decide +kernel
theorem dL_954 : decode code 954 = .ok (.iconst 2, 1) := by decide +kernel
