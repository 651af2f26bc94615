theorem dL_law_675 : decode code 675 = .ok (.iadd, 1) := by decide +kernel
theorem dL_law_676 : decode code 676 = .ok (.iaload, 1) := by decide +kernel
theorem dL_law_677 : decode code 677 = .ok (.aload_n 0, 1) := by decide +kernel
theorem dL_law_678 : decode code 678 = .ok (.iload 4, 2) := by decide +kernel
theorem dL_law_680 : decode code 680 = .ok (.iconst 2, 1) := by decide +kernel
theorem dL_law_681 : decode code 681 = .ok (.iadd, 1) := by decide +kernel
theorem dL_law_682 : decode code 682 = .ok (.iaload, 1) := by decide +kernel
theorem dL_law_683 : decode code 683 = .ok (.aload_n 0, 1) := by decide +kernel
theorem dL_law_684 : decode code 684 = .ok (.iload 4, 2) := by decide +kernel
theorem dL_law_686 : decode code 686 = .ok (.iconst 3, 1) := by decide +kernel
theorem dL_law_687 : decode code 687 = .ok (.iadd, 1) := by decide +kernel
theorem dL_law_688 : decode code 688 = .ok (.iaload, 1) := by decide +kernel
theorem dL_law_689 : decode code 689 = .ok (.invokevirtual 75, 3) := by decide +kernel
theorem dL_law_692 : decode code 692 = .ok (.if_icmp .eq 1300, 3) := by decide +kernel
theorem dL_law_695 : decode code 695 = .ok (.iconst 0, 1) := by decide +kernel
theorem dL_law_696 : decode code 696 = .ok (.ireturn, 1) := by decide +kernel
theorem dL_law_697 : decode code 697 = .ok (.aload_n 1, 1) := by decide +kernel
theorem dL_law_698 : decode code 698 = .ok (.aload_n 0, 1) := by decide +kernel
theorem dL_law_699 : decode code 699 = .ok (.iload 4, 2) := by decide +kernel
theorem dL_law_701 : decode code 701 = .ok (.iconst 1, 1) := by decide +kernel
theorem dL_law_702 : decode code 702 = .ok (.iadd, 1) := by decide +kernel
theorem dL_law_703 : decode code 703 = .ok (.iaload, 1) := by decide +kernel
theorem dL_law_704 : decode code 704 = .ok (.aload_n 0, 1) := by decide +kernel
theorem dL_law_705 : decode code 705 = .ok (.iload 4, 2) := by decide +kernel
theorem dL_law_707 : decode code 707 = .ok (.iconst 2, 1) := by decide +kernel
theorem dL_law_708 : decode code 708 = .ok (.iadd, 1) := by decide +kernel
theorem dL_law_709 : decode code 709 = .ok (.iaload, 1) := by decide +kernel
theorem dL_law_710 : decode code 710 = .ok (.aload_n 0, 1) := by decide +kernel
theorem dL_law_711 : decode code 711 = .ok (.iload 4, 2) := by decide +kernel
theorem dL_law_713 : decode code 713 = .ok (.iconst 3, 1) := by decide +kernel
theorem dL_law_714 : decode code 714 = .ok (.iadd, 1) := by decide +kernel
theorem dL_law_715 : decode code 715 = .ok (.iaload, 1) := by decide +kernel
theorem dL_law_716 : decode code 716 = .ok (.invokevirtual 76, 3) := by decide +kernel
theorem dL_law_719 : decode code 719 = .ok (.aload_n 2, 1) := by decide +kernel
theorem dL_law_720 : decode code 720 = .ok (.aload_n 0, 1) := by decide +kernel
theorem dL_law_721 : decode code 721 = .ok (.iload 4, 2) := by decide +kernel
theorem dL_law_723 : decode code 723 = .ok (.iconst 1, 1) := by decide +kernel
theorem dL_law_724 : decode code 724 = .ok (.iadd, 1) := by decide +kernel
theorem dL_law_725 : decode code 725 = .ok (.iaload, 1) := by decide +kernel
theorem dL_law_726 : decode code 726 = .ok (.aload_n 0, 1) := by decide +kernel
theorem dL_law_727 : decode code 727 = .ok (.iload 4, 2) := by decide +kernel
theorem dL_law_729 : decode code 729 = .ok (.iconst 2, 1) := by decide +kernel
theorem dL_law_730 : decode code 730 = .ok (.iadd, 1) := by decide +kernel
theorem dL_law_731 : decode code 731 = .ok (.iaload, 1) := by decide +kernel
theorem dL_law_732 : decode code 732 = .ok (.aload_n 0, 1) := by decide +kernel
theorem dL_law_733 : decode code 733 = .ok (.iload 4, 2) := by decide +kernel
theorem dL_law_735 : decode code 735 = .ok (.iconst 3, 1) := by decide +kernel
theorem dL_law_736 : decode code 736 = .ok (.iadd, 1) := by decide +kernel
theorem dL_law_737 : decode code 737 = .ok (.iaload, 1) := by decide +kernel
theorem dL_law_738 : decode code 738 = .ok (.invokevirtual 79, 3) := by decide +kernel
theorem dL_law_741 : decode code 741 = .ok (.if_icmp .eq 1251, 3) := by decide +kernel
theorem dL_law_744 : decode code 744 = .ok (.iconst 0, 1) := by decide +kernel
theorem dL_law_745 : decode code 745 = .ok (.ireturn, 1) := by decide +kernel
theorem dL_law_746 : decode code 746 = .ok (.aload_n 1, 1) := by decide +kernel
theorem dL_law_747 : decode code 747 = .ok (.aload_n 0, 1) := by decide +kernel
theorem dL_law_748 : decode code 748 = .ok (.iload 4, 2) := by decide +kernel
theorem dL_law_750 : decode code 750 = .ok (.iconst 1, 1) := by decide +kernel
theorem dL_law_751 : decode code 751 = .ok (.iadd, 1) := by decide +kernel
theorem dL_law_752 : decode code 752 = .ok (.iaload, 1) := by decide +kernel
theorem dL_law_753 : decode code 753 = .ok (.aload_n 0, 1) := by decide +kernel
theorem dL_law_754 : decode code 754 = .ok (.iload 4, 2) := by decide +kernel
theorem dL_law_756 : decode code 756 = .ok (.iconst 2, 1) := by decide +kernel
theorem dL_law_757 : decode code 757 = .ok (.iadd, 1) := by decide +kernel
theorem dL_law_758 : decode code 758 = .ok (.iaload, 1) := by decide +kernel
theorem dL_law_759 : decode code 759 = .ok (.aload_n 0, 1) := by decide +kernel
theorem dL_law_760 : decode code 760 = .ok (.iload 4, 2) := by decide +kernel
theorem dL_law_762 : decode code 762 = .ok (.iconst 3, 1) := by decide +kernel
theorem dL_law_763 : decode code 763 = .ok (.iadd, 1) := by decide +kernel
theorem dL_law_764 : decode code 764 = .ok (.iaload, 1) := by decide +kernel
theorem dL_law_765 : decode code 765 = .ok (.invokevirtual 80, 3) := by decide +kernel
theorem dL_law_768 : decode code 768 = .ok (.aload_n 2, 1) := by decide +kernel
theorem dL_law_769 : decode code 769 = .ok (.aload_n 0, 1) := by decide +kernel
theorem dL_law_770 : decode code 770 = .ok (.iload 4, 2) := by decide +kernel
theorem dL_law_772 : decode code 772 = .ok (.iconst 1, 1) := by decide +kernel
theorem dL_law_773 : decode code 773 = .ok (.iadd, 1) := by decide +kernel
theorem dL_law_774 : decode code 774 = .ok (.iaload, 1) := by decide +kernel
theorem dL_law_775 : decode code 775 = .ok (.aload_n 0, 1) := by decide +kernel
theorem dL_law_776 : decode code 776 = .ok (.iload 4, 2) := by decide +kernel
theorem dL_law_778 : decode code 778 = .ok (.iconst 2, 1) := by decide +kernel
theorem dL_law_779 : decode code 779 = .ok (.iadd, 1) := by decide +kernel
theorem dL_law_780 : decode code 780 = .ok (.iaload, 1) := by decide +kernel
theorem dL_law_781 : decode code 781 = .ok (.aload_n 0, 1) := by decide +kernel
theorem dL_law_782 : decode code 782 = .ok (.iload 4, 2) := by decide +kernel
theorem dL_law_784 : decode code 784 = .ok (.iconst 3, 1) := by decide +kernel
theorem dL_law_785 : decode code 785 = .ok (.iadd, 1) := by decide +kernel
theorem dL_law_786 : decode code 786 = .ok (.iaload, 1) := by decide +kernel
theorem dL_law_787 : decode code 787 = .ok (.invokevirtual 83, 3) := by decide +kernel
theorem dL_law_790 : decode code 790 = .ok (.if_icmp .eq 1202, 3) := by decide +kernel
theorem dL_law_793 : decode code 793 = .ok (.iconst 0, 1) := by decide +kernel
theorem dL_law_794 : decode code 794 = .ok (.ireturn, 1) := by decide +kernel
theorem dL_law_795 : decode code 795 = .ok (.aload_n 1, 1) := by decide +kernel
theorem dL_law_796 : decode code 796 = .ok (.aload_n 0, 1) := by decide +kernel
theorem dL_law_797 : decode code 797 = .ok (.iload 4, 2) := by decide +kernel
theorem dL_law_799 : decode code 799 = .ok (.iconst 1, 1) := by decide +kernel
theorem dL_law_800 : decode code 800 = .ok (.iadd, 1) := by decide +kernel
theorem dL_law_801 : decode code 801 = .ok (.iaload, 1) := by decide +kernel
theorem dL_law_802 : decode code 802 = .ok (.aload_n 0, 1) := by decide +kernel
theorem dL_law_803 : decode code 803 = .ok (.iload 4, 2) := by decide +kernel
theorem dL_law_805 : decode code 805 = .ok (.iconst 2, 1) := by decide +kernel
theorem dL_law_806 : decode code 806 = .ok (.iadd, 1) := by decide +kernel
theorem dL_law_807 : decode code 807 = .ok (.iaload, 1) := by decide +kernel
theorem dL_law_808 : decode code 808 = .ok (.invokevirtual 84, 3) := by decide +kernel
theorem dL_law_811 : decode code 811 = .ok (.aload_n 2, 1) := by decide +kernel
theorem dL_law_812 : decode code 812 = .ok (.aload_n 0, 1) := by decide +kernel
theorem dL_law_813 : decode code 813 = .ok (.iload 4, 2) := by decide +kernel
theorem dL_law_815 : decode code 815 = .ok (.iconst 1, 1) := by decide +kernel
theorem dL_law_816 : decode code 816 = .ok (.iadd, 1) := by decide +kernel
theorem dL_law_817 : decode code 817 = .ok (.iaload, 1) := by decide +kernel
theorem dL_law_818 : decode code 818 = .ok (.aload_n 0, 1) := by decide +kernel
theorem dL_law_819 : decode code 819 = .ok (.iload 4, 2) := by decide +kernel
