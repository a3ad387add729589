theorem dL_684 : decode code 684 = .ok (.iconst 0, 1) := by decide +kernel
theorem dL_685 : decode code 685 = .ok (.ireturn, 1) := by decide +kernel
theorem dL_686 : decode code 686 = .ok (.aload_n 1, 1) := by decide +kernel
theorem dL_687 : decode code 687 = .ok (.aload_n 0, 1) := by decide +kernel
theorem dL_688 : decode code 688 = .ok (.iload 4, 2) := by decide +kernel
theorem dL_690 : decode code 690 = .ok (.iconst 1, 1) := by decide +kernel
theorem dL_691 : decode code 691 = .ok (.iadd, 1) := by decide +kernel
theorem dL_692 : decode code 692 = .ok (.iaload, 1) := by decide +kernel
theorem dL_693 : decode code 693 = .ok (.invokevirtual 103, 3) := by decide +kernel
theorem dL_696 : decode code 696 = .ok (.aload_n 2, 1) := by decide +kernel
theorem dL_697 : decode code 697 = .ok (.aload_n 0, 1) := by decide +kernel
theorem dL_698 : decode code 698 = .ok (.iload 4, 2) := by decide +kernel
theorem dL_700 : decode code 700 = .ok (.iconst 1, 1) := by decide +kernel
theorem dL_701 : decode code 701 = .ok (.iadd, 1) := by decide +kernel
theorem dL_702 : decode code 702 = .ok (.iaload, 1) := by decide +kernel
theorem dL_703 : decode code 703 = .ok (.invokevirtual 106, 3) := by decide +kernel
theorem dL_706 : decode code 706 = .ok (.if_icmp .eq 365, 3) := by decide +kernel
theorem dL_709 : decode code 709 = .ok (.iconst 0, 1) := by decide +kernel
theorem dL_710 : decode code 710 = .ok (.ireturn, 1) := by decide +kernel
theorem dL_711 : decode code 711 = .ok (.aload_n 1, 1) := by decide +kernel
theorem dL_712 : decode code 712 = .ok (.aload_n 0, 1) := by decide +kernel
theorem dL_713 : decode code 713 = .ok (.iload 4, 2) := by decide +kernel
theorem dL_715 : decode code 715 = .ok (.iconst 1, 1) := by decide +kernel
theorem dL_716 : decode code 716 = .ok (.iadd, 1) := by decide +kernel
theorem dL_717 : decode code 717 = .ok (.iaload, 1) := by decide +kernel
theorem dL_718 : decode code 718 = .ok (.invokevirtual 107, 3) := by decide +kernel
theorem dL_721 : decode code 721 = .ok (.aload_n 2, 1) := by decide +kernel
theorem dL_722 : decode code 722 = .ok (.aload_n 0, 1) := by decide +kernel
theorem dL_723 : decode code 723 = .ok (.iload 4, 2) := by decide +kernel
theorem dL_725 : decode code 725 = .ok (.iconst 1, 1) := by decide +kernel
theorem dL_726 : decode code 726 = .ok (.iadd, 1) := by decide +kernel
theorem dL_727 : decode code 727 = .ok (.iaload, 1) := by decide +kernel
theorem dL_728 : decode code 728 = .ok (.invokevirtual 110, 3) := by decide +kernel
theorem dL_731 : decode code 731 = .ok (.if_icmp .eq 340, 3) := by decide +kernel
theorem dL_734 : decode code 734 = .ok (.iconst 0, 1) := by decide +kernel
theorem dL_735 : decode code 735 = .ok (.ireturn, 1) := by decide +kernel
theorem dL_736 : decode code 736 = .ok (.aload_n 1, 1) := by decide +kernel
theorem dL_737 : decode code 737 = .ok (.invokevirtual 111, 3) := by decide +kernel
theorem dL_740 : decode code 740 = .ok (.aload_n 2, 1) := by decide +kernel
theorem dL_741 : decode code 741 = .ok (.invokevirtual 114, 3) := by decide +kernel
theorem dL_744 : decode code 744 = .ok (.if_icmp .eq 327, 3) := by decide +kernel
theorem dL_747 : decode code 747 = .ok (.iconst 0, 1) := by decide +kernel
theorem dL_748 : decode code 748 = .ok (.ireturn, 1) := by decide +kernel
theorem dL_749 : decode code 749 = .ok (.aload_n 1, 1) := by decide +kernel
theorem dL_750 : decode code 750 = .ok (.aload_n 0, 1) := by decide +kernel
theorem dL_751 : decode code 751 = .ok (.iload 4, 2) := by decide +kernel
theorem dL_753 : decode code 753 = .ok (.iconst 1, 1) := by decide +kernel
theorem dL_754 : decode code 754 = .ok (.iadd, 1) := by decide +kernel
theorem dL_755 : decode code 755 = .ok (.iaload, 1) := by decide +kernel
theorem dL_756 : decode code 756 = .ok (.aload_n 0, 1) := by decide +kernel
theorem dL_757 : decode code 757 = .ok (.iload 4, 2) := by decide +kernel
theorem dL_759 : decode code 759 = .ok (.iconst 2, 1) := by decide +kernel
theorem dL_760 : decode code 760 = .ok (.iadd, 1) := by decide +kernel
theorem dL_761 : decode code 761 = .ok (.iaload, 1) := by decide +kernel
theorem dL_762 : decode code 762 = .ok (.invokevirtual 115, 3) := by decide +kernel
theorem dL_765 : decode code 765 = .ok (.aload_n 2, 1) := by decide +kernel
theorem dL_766 : decode code 766 = .ok (.aload_n 0, 1) := by decide +kernel
theorem dL_767 : decode code 767 = .ok (.iload 4, 2) := by decide +kernel
theorem dL_769 : decode code 769 = .ok (.iconst 1, 1) := by decide +kernel
theorem dL_770 : decode code 770 = .ok (.iadd, 1) := by decide +kernel
theorem dL_771 : decode code 771 = .ok (.iaload, 1) := by decide +kernel
theorem dL_772 : decode code 772 = .ok (.aload_n 0, 1) := by decide +kernel
theorem dL_773 : decode code 773 = .ok (.iload 4, 2) := by decide +kernel
theorem dL_775 : decode code 775 = .ok (.iconst 2, 1) := by decide +kernel
theorem dL_776 : decode code 776 = .ok (.iadd, 1) := by decide +kernel
theorem dL_777 : decode code 777 = .ok (.iaload, 1) := by decide +kernel
theorem dL_778 : decode code 778 = .ok (.invokevirtual 119, 3) := by decide +kernel
theorem dL_781 : decode code 781 = .ok (.if_icmp .eq 290, 3) := by decide +kernel
theorem dL_784 : decode code 784 = .ok (.iconst 0, 1) := by decide +kernel
theorem dL_785 : decode code 785 = .ok (.ireturn, 1) := by decide +kernel
theorem dL_786 : decode code 786 = .ok (.aload_n 1, 1) := by decide +kernel
theorem dL_787 : decode code 787 = .ok (.invokevirtual 120, 3) := by decide +kernel
theorem dL_790 : decode code 790 = .ok (.aload_n 2, 1) := by decide +kernel
theorem dL_791 : decode code 791 = .ok (.invokevirtual 124, 3) := by decide +kernel
theorem dL_794 : decode code 794 = .ok (.lcmp, 1) := by decide +kernel
theorem dL_795 : decode code 795 = .ok (.ifCond .eq 276, 3) := by decide +kernel
theorem dL_798 : decode code 798 = .ok (.iconst 0, 1) := by decide +kernel
theorem dL_799 : decode code 799 = .ok (.ireturn, 1) := by decide +kernel
theorem dL_800 : decode code 800 = .ok (.aload_n 1, 1) := by decide +kernel
theorem dL_801 : decode code 801 = .ok (.invokevirtual 125, 3) := by decide +kernel
theorem dL_804 : decode code 804 = .ok (.aload_n 2, 1) := by decide +kernel
theorem dL_805 : decode code 805 = .ok (.invokevirtual 128, 3) := by decide +kernel
theorem dL_808 : decode code 808 = .ok (.if_icmp .eq 263, 3) := by decide +kernel
theorem dL_811 : decode code 811 = .ok (.iconst 0, 1) := by decide +kernel
theorem dL_812 : decode code 812 = .ok (.ireturn, 1) := by decide +kernel
theorem dL_813 : decode code 813 = .ok (.aload_n 1, 1) := by decide +kernel
theorem dL_814 : decode code 814 = .ok (.invokevirtual 129, 3) := by decide +kernel
theorem dL_817 : decode code 817 = .ok (.aload_n 2, 1) := by decide +kernel
theorem dL_818 : decode code 818 = .ok (.invokevirtual 132, 3) := by decide +kernel
theorem dL_821 : decode code 821 = .ok (.if_icmp .eq 250, 3) := by decide +kernel
